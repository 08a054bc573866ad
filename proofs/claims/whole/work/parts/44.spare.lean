/-! which steps can be spared -/
def sSp (S : zz_M) (i : Nat) : Bool := decide (sLw S (nI i) (-nI 1) ≤ a_lost S)
def a_spare (S : zz_M) : Nat := sp_mk (sSp S) (cM S)
theorem sm_lost {S T : zz_M} (h : sm S T) : a_lost T = a_lost S := by unfold a_lost sLost; rw [sm_sTk h, sm_T h, sm_M h, sm_B h, sm_Fo h]
theorem sm_Lw {S T : zz_M} (h : sm S T) (u v : Int32) : sLw T u v = sLw S u v := by unfold sLw sLost; rw [sm_sTk h, sm_T h, sm_M h, sm_B h, sm_Fo h]
theorem sLost_le {S : zz_M} (h : cT S ≤ 8) (m : Nat) (bs : Nat → Nat) (fg : Nat → Bool) : sLost S m bs fg ≤ 8 := by
  have := fa_cnt_le (fun i => (sTk S m bs fg i).isSome) (cT S)
  unfold sLost; omega
theorem cT_le {S : zz_M} (h : ok10 S) : cT S ≤ 8 := (sp_tm_ok (tB S 2) (show tL S 2 ≤ 31 from (h.1 2 (by omega)).2)).1
theorem cM_le {S : zz_M} (h : ok10 S) : cM S ≤ 24 := by
  have h1 := sp_bm_le (tB S 1) (tL S 1)
  have h2 : tL S 1 ≤ 24 := (h.1 1 (by omega)).2
  unfold cM; omega
theorem q10_spL (F : Nat) {S : zz_M} (h : ok10 S) (hF : 100 ≤ F) : ∀ (f k i : Nat) (T : zz_M), sm S T → rd10 T → i + k = cM S → k < f →
    ∃ U, pX10_spareNow_L9_6 F (nI (a_lost S)) f (nI (sp_mk (sSp S) i)) (nI i) T = some (nI (a_spare S), U) ∧ sm S U := by
  intro f
  have hm := cM_le h
  have ht := cT_le h
  induction f with
  | zero => intro k i T _ _ _ h; omega
  | succ f ih =>
    intro k i T e2 e3 hk hf
    have g3 : zz_gI T 3 = nI (cM T) := e3.2.2.2.1
    rw [sm_M e2] at g3
    rw [pX10_spareNow_L9_6, g3]
    simp (disch := omega) only [zl_lit, zz_lt, nI_leI, nI_add]
    cases k with
    | zero =>
      have e : i = cM S := by omega
      subst e
      rw [if_pos (by omega)]; exact ⟨T, rfl, e2⟩
    | succ k =>
      obtain ⟨U, f1, f2, f3⟩ := q10_lostWithout F (sm_ok e2 h) hF (nI i) (-nI 1)
      rw [if_neg (by omega), f1]
      simp only [zz_b2]
      rw [sm_Lw e2, zl_ishl1 i (by omega)]
      have hl : a_lost S ≤ 8 := sLost_le ht _ _ _
      have hw : sLw S (nI i) (-nI 1) ≤ 8 := sLost_le ht _ _ _
      simp (disch := omega) only [nI_ltI]
      have h1 := ih k (i + 1) U (sm_tr e2 f2) f3 (by omega) (by omega)
      rw [sp_mk] at h1
      unfold sSp at h1
      by_cases q : a_lost S < sLw S (nI i) (-nI 1)
      · rw [decide_eq_false (show ¬ sLw S (nI i) (-nI 1) ≤ a_lost S by omega), if_neg (by decide)] at h1
        rw [if_pos q, fa_or, Nat.or_zero]; exact h1
      · rw [decide_eq_true (show sLw S (nI i) (-nI 1) ≤ a_lost S by omega), if_pos rfl] at h1
        rw [if_neg q, fa_or]; exact h1
theorem q10_spare (F : Nat) {S : zz_M} (h : ok10 S) (hF : 100 ≤ F) : ∃ T, pX10_spare F S = some (nI (a_spare S), T) ∧ sm S T := by
  obtain ⟨T, e1, e2, e3⟩ := q10_lostTold F h hF
  have hm := cM_le h
  obtain ⟨U, f1, f2⟩ := q10_spL F h hF F (cM S) 0 T e2 e3 (by omega) (by omega)
  rw [sp_mk] at f1
  unfold pX10_spare pX10_spareNow
  rw [e1]
  simp only [zz_b2, zl_lit]
  rw [f1]
  exact ⟨U, rfl, f2⟩
