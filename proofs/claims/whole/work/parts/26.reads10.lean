theorem sp_tm_ok (b : Nat → Int32) {L : Nat} (hL : L ≤ 31) : sp_tm b L ≤ 8 ∧ ∀ i, i < sp_tm b L → sp_wt b i ≤ 39 ∧ 1 ≤ sp_nd b i ∧ sp_nd b i ≤ 9 := by
  obtain ⟨wa, ne, -, h⟩ := q7_parse (c0 := 0) (w0 := fun _ => 0) (n0 := fun _ => 0) 100 31 L b hL hL (by omega) (by omega)
  exact ⟨h.1, fun i hi => ⟨(h.2 i hi).2.1, (h.2 i hi).2.2.2.1, (h.2 i hi).2.2.2.2⟩⟩
theorem q10_faultOf (F : Nat) {S : zz_M} {k : Nat} (hk : k < 3) (h : ok10 S) (hF : 100 ≤ F) : ∃ T, pX10_faultOf F (nI k) S = some (sp_i (cF S k), T) ∧ sm S T ∧ rd10 T := by
  obtain ⟨t1, t2, -⟩ := h
  unfold pX10_faultOf
  have l0 := t1 0 (by omega)
  have l1 := t1 1 (by omega)
  have l2 := t1 2 (by omega)
  have l0' : tL S 0 ≤ 41 := l0.2
  have l1' : tL S 1 ≤ 24 := l1.2
  have l2' : tL S 2 ≤ 31 := l2.2
  obtain ⟨w, x1, kd, e1, e2, e3, e4⟩ := q10_readsWard F (tL S 0) (S := S) (tB S 0) l0' l0.1 (fun j hj => by have := tB_in (S := S) (k := 0) (show j < 41 by omega); rw [Nat.mul_zero, Nat.zero_add] at this; exact this) hF
  rw [e1]
  simp only [zz_b2, zz_lt]
  obtain ⟨sa, b1, b2⟩ := q10_readsBeat F (tL S 1) (S := wdS S (nI w) x1 (nI (sp_ward (tB S 0) (tL S 0)).2.1) kd) (tB S 1) l1' (by rw [wdS_A _ _ _ _ _ (by decide)]; exact l1.1) (fun j hj => by rw [wdS_A _ _ _ _ _ (by decide)]; exact tB_in (S := S) (k := 1) (show j < 41 by omega)) hF
  rw [b1]
  simp only [zz_b2]
  obtain ⟨wa, ne, c1, c2⟩ := q10_readsThieves F (tL S 2) (S := btS (wdS S (nI w) x1 (nI (sp_ward (tB S 0) (tL S 0)).2.1) kd) (nI (sp_bm (tB S 1) (tL S 1))) sa) (tB S 2) l2' (by rw [btS_A _ _ _ (by decide), wdS_A _ _ _ _ _ (by decide)]; exact l2.1) (fun j hj => by rw [btS_A _ _ _ (by decide), wdS_A _ _ _ _ _ (by decide)]; exact tB_in (S := S) (k := 2) (show j < 41 by omega)) (fun j hj => t2 2 j (by omega) hj) hF
  rw [c1]
  simp only [zz_b2]
  have hsm : sm S (thS (btS (wdS S (nI w) x1 (nI (sp_ward (tB S 0) (tL S 0)).2.1) kd) (nI (sp_bm (tB S 1) (tL S 1))) sa) (nI (sp_tm (tB S 2) (tL S 2))) wa ne) := by
    unfold thS btS wdS
    exact sm_sA (sm_sA (sm_sI (sm_sA (sm_sI (sm_sA (sm_sI (sm_sI (sm_sI (sm_rfl S) (by decide)) (by decide)) (by decide)) (by decide)) (by decide)) (by decide)) (by decide)) (by decide)) (by decide)
  refine ⟨_, ?_, hsm, ?_⟩
  · have ev : (if nI k = 0 then sp_i (sp_ward (tB S 0) (tL S 0)).1 else if nI k = 1 then sp_i (sp_bfl (tB S 1) (tL S 1)) else sp_i (sp_tfl (tB S 2) (tL S 2))) = sp_i (cF S k) := by
      unfold cF
      rcases (show k = 0 ∨ k = 1 ∨ k = 2 by omega) with rfl | rfl | rfl <;> rfl
    rw [ev]
  · unfold rd10
    rw [sm_N hsm, sm_W hsm, sm_K hsm, sm_M hsm, sm_B hsm, sm_T hsm, sm_Wt hsm, sm_Nd hsm]
    have hW : sp_W (cN S) (cW S) (cK S) := sp_ward_W _ _
    have hkd : ∀ j, j < cN S → kd j = cK S j := e4
    refine ⟨⟨w, ?_, rfl, ?_⟩, rfl, hkd, rfl, b2, rfl, ?_⟩
    · show sp_W (cN S) w kd
      cases q : (sp_ward (tB S 0) (tL S 0)).1 with
      | some x =>
        have : cN S = 0 := (sp_ward_n q).1
        rw [this]; exact sp_W0 e3
      | none =>
        rw [show w = cW S from e2 q]
        exact sp_W_cg hW (fun j hj => (hkd j hj).symm)
    · intro hn
      cases q : (sp_ward (tB S 0) (tL S 0)).1 with
      | some x =>
        have : cN S = 0 := (sp_ward_n q).1
        omega
      | none => exact e2 q
    · obtain ⟨m1, m2⟩ := sp_tm_ok (tB S 2) l2'
      exact ⟨m1, fun i hi => ⟨(c2 i hi).1, (m2 i hi).1, (c2 i hi).2, (m2 i hi).2⟩⟩
theorem q10_reads (F : Nat) {S : zz_M} (h : ok10 S) (hF : 100 ≤ F) : ∃ T, pX10_reads F S = some T ∧ sm S T ∧ rd10 T := by
  obtain ⟨T, e1, e2, e3⟩ := q10_faultOf F (k := 0) (by omega) h hF
  unfold pX10_reads
  rw [show (0 : Int32) = nI 0 from rfl, e1]
  exact ⟨T, rfl, e2, e3⟩
