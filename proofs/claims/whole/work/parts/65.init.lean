/-! the start: the class beside the reference -/
theorem st_tL (k : Nat) (hk : k < 3) : tL zs_X10 k = 0 := by
  rcases (show k = 0 ∨ k = 1 ∨ k = 2 by omega) with rfl | rfl | rfl <;> rfl
theorem st_ok : ok10 zs_X10 := by
  refine ⟨fun k hk => ?_, fun k j hk hj => ?_, ⟨rfl, by decide⟩, ⟨rfl, by decide⟩, ⟨rfl, by decide⟩, ⟨rfl, by decide⟩⟩
  · rw [st_tL k hk]
    refine ⟨?_, Nat.zero_le _⟩
    rcases (show k = 0 ∨ k = 1 ∨ k = 2 by omega) with rfl | rfl | rfl <;> rfl
  · rw [st_tL k hk] at hj; omega
theorem st_n : cN zs_X10 = 0 ∧ cW zs_X10 = 0 ∧ cM zs_X10 = 0 ∧ cT zs_X10 = 0 := by
  unfold cN cW cM cT
  rw [st_tL 0 (by omega), st_tL 1 (by omega), st_tL 2 (by omega)]
  exact ⟨rfl, rfl, rfl, rfl⟩
theorem st_F (k : Nat) (hk : k < 3) : cF zs_X10 k = none := by
  rcases (show k = 0 ∨ k = 1 ∨ k = 2 by omega) with rfl | rfl | rfl
  · rw [cF0, st_tL 0 (by omega)]; rfl
  · rw [cF1, st_tL 1 (by omega)]; rfl
  · rw [cF2, st_tL 2 (by omega)]; rfl
theorem R9_init : R9 zs_X9 zs_X10 ∧ ok10 zs_X10 := by
  obtain ⟨n1, n2, n3, n4⟩ := st_n
  refine ⟨⟨⟨⟨fun k hk => ?_, fun k j hk hj => ?_, fun k hk => ?_, ⟨rfl, rfl, rfl, rfl⟩, ?_, ?_, ?_⟩, fun z => absurd z (by decide)⟩, ?_, ?_, rfl⟩, st_ok⟩
  · rw [st_tL k hk]
    rcases (show k = 0 ∨ k = 1 ∨ k = 2 by omega) with rfl | rfl | rfl <;> rfl
  · rw [st_tL k hk] at hj; omega
  · rw [st_F k hk]
    rcases (show k = 0 ∨ k = 1 ∨ k = 2 by omega) with rfl | rfl | rfl <;> rfl
  · rw [n1, n2]
    exact ⟨rfl, rfl, rfl, fun j hj => by omega⟩
  · rw [n3]
    exact ⟨rfl, by omega, fun i hi => by omega⟩
  · rw [n4]
    exact ⟨rfl, by omega, fun i hi => by omega⟩
  · exact ⟨⟨rfl, by show (0 : Nat) ≤ 8; omega, fun j hj => absurd hj (by show ¬ j < 0; omega)⟩, rfl, fun j hj => absurd hj (by show ¬ j < 0; omega)⟩
  · refine ⟨fun s hs => ?_, fun s hs => ?_⟩
    · rcases (show s = 0 ∨ s = 1 ∨ s = 2 ∨ s = 3 by omega) with rfl | rfl | rfl | rfl <;> exact ⟨rfl, rfl, by decide, rfl, by decide⟩
    · rcases (show s = 0 ∨ s = 1 ∨ s = 2 ∨ s = 3 by omega) with rfl | rfl | rfl | rfl <;> exact ⟨rfl, rfl, rfl, fun i _ => rfl⟩
