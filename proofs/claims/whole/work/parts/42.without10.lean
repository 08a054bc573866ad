def woS (S : zz_M) (z : Nat → Int32) (x : Int32) : zz_M := zz_sI (zz_sA S 6 z) 9 x
theorem woS_set (S : zz_M) (z z' : Nat → Int32) (x y : Int32) : zz_sI (zz_sA (woS S z x) 6 z') 9 y = woS S z' y := by
  unfold woS
  rw [show zz_sA (zz_sI (zz_sA S 6 z) 9 x) 6 z' = zz_sI (zz_sA (zz_sA S 6 z) 6 z') 9 x from rfl, zs_II, zs_AA]
theorem q10_woL {S : zz_M} {m : Nat} {bs : Nat → Nat} (u v : Int32) (g3 : zz_gI S 3 = nI m) (hB : sp_B m (zz_gA S 3) bs) : ∀ (f k i : Nat) (z : Nat → Int32), i + k = m → k < f → (∀ j, j < (sp_wo bs (sp_sk u v) i).1 → z j = nI ((sp_wo bs (sp_sk u v) i).2 j)) →
    ∃ z', pX10_without_L11_5 u v f (nI i) (woS S z (nI (sp_wo bs (sp_sk u v) i).1)) = some (woS S z' (nI (sp_wo bs (sp_sk u v) m).1)) ∧ ∀ j, j < (sp_wo bs (sp_sk u v) m).1 → z' j = nI ((sp_wo bs (sp_sk u v) m).2 j) := by
  intro f
  have hm := hB.1
  induction f with
  | zero => intro k i z _ h; omega
  | succ f ih =>
    intro k i z hk hf hz
    have hw := sp_wo_le bs (sp_sk u v) i
    rw [pX10_without_L11_5]
    rw [show zz_gI (woS S z (nI (sp_wo bs (sp_sk u v) i).1)) 3 = nI m from g3]
    simp only [zz_lt]
    simp only [show zz_gI (woS S z (nI (sp_wo bs (sp_sk u v) i).1)) 9 = nI (sp_wo bs (sp_sk u v) i).1 from rfl, show zz_gA (woS S z (nI (sp_wo bs (sp_sk u v) i).1)) 6 = z from rfl, show zz_gA (woS S z (nI (sp_wo bs (sp_sk u v) i).1)) 3 = zz_gA S 3 from rfl]
    simp (disch := omega) only [zl_lit, nI_leI, nI_add, zl_in, nI_clamp]
    cases k with
    | zero =>
      have e : i = m := by omega
      subst e
      rw [if_pos (by omega)]; exact ⟨z, rfl, hz⟩
    | succ k =>
      rw [if_neg (by omega)]
      simp only [if_pos (show i < 24 by omega), if_pos (show (sp_wo bs (sp_sk u v) i).1 < 24 by omega)]
      rw [(hB.2 i (by omega)).1]
      by_cases q : sp_sk u v i = true
      · have h1 := ih k (i + 1) z (by omega) (by omega) (by rw [sp_wo, if_pos q]; exact hz)
        rw [sp_wo, if_pos q] at h1
        unfold sp_sk at q
        by_cases qu : nI i = u
        · rw [if_pos qu]; exact h1
        · rw [if_neg qu, if_pos (by simpa [qu] using q)]; exact h1
      · have h1 := ih k (i + 1) (upd z (sp_wo bs (sp_sk u v) i).1 (nI (bs i))) (by omega) (by omega) (fun j hj => by
          rw [sp_wo, if_neg q] at hj ⊢
          simp only at hj ⊢
          unfold sp_pt
          by_cases e : j = (sp_wo bs (sp_sk u v) i).1
          · rw [if_pos e, e, pk_us]
          · rw [if_neg e, pk_un e]; exact hz j (by omega))
        rw [sp_wo, if_neg q] at h1
        have q' := q
        unfold sp_sk at q'
        rw [if_neg (fun e => q' (by simp [e])), if_neg (fun e => q' (by simp [e]))]
        rw [woS_set]
        rw [show ∀ y, zz_gI (zz_sA (woS S z (nI (sp_wo bs (sp_sk u v) i).1)) 6 y) 9 = nI (sp_wo bs (sp_sk u v) i).1 from fun _ => rfl, nI_add]
        exact h1
theorem cB_le (S : zz_M) (i : Nat) : cB S i ≤ 4 := sp_bs_le _ i
theorem q10_without (F : Nat) {S : zz_M} (h : ok10 S) (hF : 100 ≤ F) (u v : Int32) : ∃ T, pX10_without F u v S = some T ∧ sm S T ∧ go10 T (sp_wo (cB S) (sp_sk u v) (cM S)).1 (sp_wo (cB S) (sp_sk u v) (cM S)).2 (fun _ => decide (cFo S = 1)) := by
  obtain ⟨T, e1, e2, e3⟩ := q10_asTold F h hF
  unfold pX10_without
  rw [e1]
  simp only [zz_b1, zz_lt, zl_lit]
  obtain ⟨hr, -, -, gf⟩ := e3
  have hr' := hr
  obtain ⟨-, -, -, g3, gB, -⟩ := hr'
  rw [sm_M e2, sm_B e2] at gB
  rw [sm_M e2] at g3
  have hm := gB.1
  obtain ⟨z', r1, r2⟩ := q10_woL u v g3 gB F (cM S) 0 (zz_gA T 6) (by omega) (by omega) (fun j hj => absurd hj (by rw [sp_wo]; simp))
  have e4 : woS T (zz_gA T 6) (nI (sp_wo (cB S) (sp_sk u v) 0).1) = zz_sI T 9 (nI 0) := by unfold woS; rw [ss_A]; rfl
  rw [e4] at r1
  have s1 : sm T (woS T z' (nI (sp_wo (cB S) (sp_sk u v) (cM S)).1)) := sm_sI (sm_sA (sm_rfl T) (by decide)) (by decide)
  have hw := sp_wo_le (cB S) (sp_sk u v) (cM S)
  exact ⟨_, r1, sm_tr e2 s1, rd_sm s1 rfl rfl rfl rfl rfl rfl rfl rfl hr, rfl, ⟨by omega, fun i hi => ⟨r2 i hi, sp_wo_B (cB_le S) _ i⟩⟩, gf⟩
def sLw (S : zz_M) (u v : Int32) : Nat := sLost S (sp_wo (cB S) (sp_sk u v) (cM S)).1 (sp_wo (cB S) (sp_sk u v) (cM S)).2 (fun _ => decide (cFo S = 1))
theorem q10_lostWithout (F : Nat) {S : zz_M} (h : ok10 S) (hF : 100 ≤ F) (u v : Int32) : ∃ T, pX10_lostWithout F u v S = some (nI (sLw S u v), T) ∧ sm S T ∧ rd10 T := by
  obtain ⟨T, e1, e2, e3⟩ := q10_without F h hF u v
  obtain ⟨U, f1, f2, f3⟩ := q10_lostNow F (sm_ok e2 h) e3 hF
  unfold pX10_lostWithout
  rw [e1]
  simp only [zz_b1]
  rw [f1]
  simp only [zz_b2]
  have e5 : sLost T (sp_wo (cB S) (sp_sk u v) (cM S)).1 (sp_wo (cB S) (sp_sk u v) (cM S)).2 (fun _ => decide (cFo S = 1)) = sLw S u v := by unfold sLw sLost; rw [sm_sTk e2, sm_T e2]
  rw [e5]
  exact ⟨U, rfl, sm_tr e2 f2, f3.1.1⟩
