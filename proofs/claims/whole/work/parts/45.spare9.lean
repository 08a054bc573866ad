theorem q9_spL (F : Nat) {S : zz_M} (h : ok10 S) (hF : 100 ≤ F) : ∀ (f k i : Nat) (C : zz_M), p9 C S → n9 C S → i + k = cM S → k < f →
    ∃ D, pX9_spare_L9_6 F (nI (a_lost S)) f (nI (sp_mk (sSp S) i)) (nI i) C = some (nI (a_spare S), D) ∧ ko C D := by
  intro f
  have hm := cM_le h
  have ht := cT_le h
  induction f with
  | zero => intro k i C _ _ _ h; omega
  | succ f ih =>
    intro k i C p n hk hf
    have g5 : zz_gI C 5 = nI (cM S) := p.2.2.2.2.2.1.1
    rw [pX9_spare_L9_6, g5]
    simp (disch := omega) only [zl_lit, zz_lt, nI_leI, nI_add]
    cases k with
    | zero =>
      have e : i = cM S := by omega
      subst e
      rw [if_pos (by omega)]; exact ⟨C, rfl, ko_rfl C⟩
    | succ k =>
      obtain ⟨D, f1, f2⟩ := q9_lostWithout F h p n hF (nI i) (-nI 1)
      rw [if_neg (by omega), f1]
      simp only [zz_b2]
      rw [zl_ishl1 i (by omega)]
      have hl : a_lost S ≤ 8 := sLost_le ht _ _ _
      have hw : sLw S (nI i) (-nI 1) ≤ 8 := sLost_le ht _ _ _
      simp (disch := omega) only [nI_ltI]
      obtain ⟨E, h1, h2⟩ := ih k (i + 1) D (p9_ko f2 p) (n9_ko f2 n) (by omega) (by omega)
      refine ⟨E, ?_, ko_tr f2 h2⟩
      rw [sp_mk] at h1
      unfold sSp at h1
      by_cases q : a_lost S < sLw S (nI i) (-nI 1)
      · rw [decide_eq_false (show ¬ sLw S (nI i) (-nI 1) ≤ a_lost S by omega), if_neg (by decide)] at h1
        rw [if_pos q]; exact h1
      · rw [decide_eq_true (show sLw S (nI i) (-nI 1) ≤ a_lost S by omega), if_pos rfl] at h1
        rw [if_neg q, fa_or]; exact h1
theorem q9_spare (F : Nat) {C S : zz_M} (h : ok10 S) (p : p9 C S) (n : zz_gI C 25 = 0 → n9 C S) (hF : 100 ≤ F) : ∃ D E, pX9_spare F C = some (nI (a_spare S), E) ∧ st9 C D S ∧ ko D E := by
  obtain ⟨D, e1, e2, e3⟩ := q9_lost F h p n hF
  have hm := cM_le h
  obtain ⟨E, f1, f2⟩ := q9_spL F h hF F (cM S) 0 D e3 e2.2.1 (by omega) (by omega)
  rw [sp_mk] at f1
  unfold pX9_spare
  rw [e1]
  simp only [zz_b2, zl_lit]
  exact ⟨D, E, f1, e2, f2⟩
