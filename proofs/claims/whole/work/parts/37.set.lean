/-! settings -/
def cMost (k : Nat) : Nat := if k = 0 then 35 else if k = 3 then 1 else 9
def cSet (S : zz_M) (k : Nat) : Nat := if k = 0 then cSt S else if k = 1 then cGi S else if k = 2 then cSi S else cFo S
def a_set (S : zz_M) (u v : Int32) : Int32 := zo (-nI 2) (fun k => zo (-nI 2) (fun _ => nI (cSet S k)) (zu v (cMost k + 1))) (zu u 4)
def s_set (S : zz_M) (u v : Int32) : zz_M := zo S (fun k => zo S (fun _ => zz_sI S (5 + k) v) (zu v (cMost k + 1))) (zu u 4)
theorem cMost_le (k : Nat) : cMost k ≤ 35 := by unfold cMost; split <;> (try split) <;> omega
theorem q10_set (F : Nat) {S : zz_M} (h : ok10 S) (u v : Int32) : pX10_set F u v S = some (a_set S u v, s_set S u v) := by
  unfold pX10_set a_set s_set
  simp only [zl_lit, zz_lt]
  rw [q10_inN F u (by omega)]
  simp only [zz_b1, zb0]
  cases q : zu u 4 with
  | none => rfl
  | some k =>
    obtain ⟨h1, h2⟩ := zu_S q
    subst h2
    have ev : (if nI k = nI 0 then nI 35 else if nI k = nI 3 then nI 1 else nI 9) = nI (cMost k) := by
      rcases (show k = 0 ∨ k = 1 ∨ k = 2 ∨ k = 3 by omega) with rfl | rfl | rfl | rfl <;> rfl
    have hm := cMost_le k
    rw [ev, q10_inN F v (by omega)]
    simp only [zz_b1, zb0, zo_S, Option.isSome]
    rw [if_neg (by decide)]
    cases q2 : zu v (cMost k + 1) with
    | none => rfl
    | some j =>
      obtain ⟨-, -, s1, s2, s3, s4⟩ := h
      simp only [zo_S, Option.isSome]
      rw [if_neg (by decide)]
      rcases (show k = 0 ∨ k = 1 ∨ k = 2 ∨ k = 3 by omega) with rfl | rfl | rfl | rfl
      · simp (disch := omega) only [nI_eq, if_true, ss_I, Nat.reduceEqDiff, if_false, Nat.zero_ne_one, s1.1]; rfl
      · simp (disch := omega) only [nI_eq, if_true, ss_I, Nat.reduceEqDiff, if_false, Nat.one_ne_zero, s2.1]; rfl
      · simp (disch := omega) only [nI_eq, if_true, ss_I, Nat.reduceEqDiff, if_false, s3.1]; rfl
      · simp (disch := omega) only [nI_eq, if_true, ss_I, Nat.reduceEqDiff, if_false, s4.1]; rfl
theorem cSt_s {S : zz_M} {k : Nat} {v : Int32} : cSt (zz_sI S k v) = if 5 = k then Int32.toNatClampNeg v else cSt S := by
  unfold cSt; rw [zg_II]; split <;> rfl
theorem cGi_s {S : zz_M} {k : Nat} {v : Int32} : cGi (zz_sI S k v) = if 6 = k then Int32.toNatClampNeg v else cGi S := by
  unfold cGi; rw [zg_II]; split <;> rfl
theorem cSi_s {S : zz_M} {k : Nat} {v : Int32} : cSi (zz_sI S k v) = if 7 = k then Int32.toNatClampNeg v else cSi S := by
  unfold cSi; rw [zg_II]; split <;> rfl
theorem cFo_s {S : zz_M} {k : Nat} {v : Int32} : cFo (zz_sI S k v) = if 8 = k then Int32.toNatClampNeg v else cFo S := by
  unfold cFo; rw [zg_II]; split <;> rfl
theorem ok_set {S : zz_M} {k j : Nat} (h : ok10 S) (hk : k < 4) (hj : j < cMost k + 1) : ok10 (zz_sI S (5 + k) (nI j)) := by
  obtain ⟨t1, t2, s1, s2, s3, s4⟩ := h
  have hm := cMost_le k
  have ej : (nI j).toNatClampNeg = j := nI_clamp (by omega)
  unfold cMost at hj
  refine ⟨t1, t2, ?_, ?_, ?_, ?_⟩
  · rw [cSt_s, zg_II]
    by_cases q : 5 = 5 + k
    · rw [if_pos q, if_pos q, ej]; rw [if_pos (by omega)] at hj; exact ⟨rfl, by omega⟩
    · rw [if_neg q, if_neg q]; exact s1
  · rw [cGi_s, zg_II]
    by_cases q : 6 = 5 + k
    · rw [if_pos q, if_pos q, ej]; rw [if_neg (by omega), if_neg (by omega)] at hj; exact ⟨rfl, by omega⟩
    · rw [if_neg q, if_neg q]; exact s2
  · rw [cSi_s, zg_II]
    by_cases q : 7 = 5 + k
    · rw [if_pos q, if_pos q, ej]; rw [if_neg (by omega), if_neg (by omega)] at hj; exact ⟨rfl, by omega⟩
    · rw [if_neg q, if_neg q]; exact s3
  · rw [cFo_s, zg_II]
    by_cases q : 8 = 5 + k
    · rw [if_pos q, if_pos q, ej]; rw [if_neg (by omega), if_pos (by omega)] at hj; exact ⟨rfl, by omega⟩
    · rw [if_neg q, if_neg q]; exact s4
theorem zz_T1_e (k : Nat) : zz_T1 k = nI (cMost k) := by
  unfold zz_T1 cMost; split
  · rfl
  · split <;> rfl
theorem q9_set (F : Nat) {C S : zz_M} (h : ok10 S) (p : p9 C S) (u v : Int32) : ∃ D, pX9_set F u v C = some (a_set S u v, D) ∧ w9 C D S (s_set S u v) ∧ ok10 (s_set S u v) := by
  unfold pX9_set a_set s_set
  simp only [zl_lit, zz_lt]
  rw [q9_rng (by omega)]
  cases q : zu u 4 with
  | none => exact ⟨C, rfl, Or.inl ⟨rfl, rfl⟩, h⟩
  | some k =>
    obtain ⟨h1, h2⟩ := zu_S q
    subst h2
    have hm := cMost_le k
    simp (disch := omega) only [zl_in, nI_clamp, Option.isSome, zo_S, if_pos h1, zz_T1_e]
    rw [if_pos trivial, q9_rng3 (by omega)]
    cases q2 : zu v (cMost k + 1) with
    | none => exact ⟨C, rfl, Or.inl ⟨rfl, rfl⟩, h⟩
    | some j =>
      obtain ⟨h3, h4⟩ := zu_S q2
      subst h4
      simp only [Option.isSome, zo_S]
      rw [if_pos trivial]
      have ej : (nI j).toNatClampNeg = j := nI_clamp (by omega)
      obtain ⟨p1, p2, p3, ⟨a0, a1, a2, a3⟩, p5⟩ := p
      have ea : zz_gA C 4 k = nI (cSet S k) := by
        unfold cSet
        rcases (show k = 0 ∨ k = 1 ∨ k = 2 ∨ k = 3 by omega) with rfl | rfl | rfl | rfl
        · exact a0
        · exact a1
        · exact a2
        · exact a3
      rw [ea]
      refine ⟨_, rfl, Or.inr ⟨⟨fun i hi => by rw [zg_II, if_neg (by omega), zg_IA]; exact p1 i hi, fun i l hi hl => by rw [zg_AI, zg_AA, if_neg (by omega)]; exact p2 i l hi hl, p3, ?_, p5⟩, rfl, ⟨fun i a b => by rw [zg_II, if_neg b, zg_IA], fun i a => by rw [zg_AI, zg_AA, if_neg (by omega)], fun i a => rfl⟩⟩, ok_set h h1 h3⟩
      rw [cSt_s, cGi_s, cSi_s, cFo_s, ej]
      rw [show ∀ x, zz_gA (zz_sI (zz_sA C 4 (upd (zz_gA C 4) k (nI j))) 25 x) 4 = upd (zz_gA C 4) k (nI j) from fun _ => rfl]
      rcases (show k = 0 ∨ k = 1 ∨ k = 2 ∨ k = 3 by omega) with rfl | rfl | rfl | rfl
      · exact ⟨rfl, a1, a2, a3⟩
      · exact ⟨a0, rfl, a2, a3⟩
      · exact ⟨a0, a1, rfl, a3⟩
      · exact ⟨a0, a1, a2, rfl⟩
