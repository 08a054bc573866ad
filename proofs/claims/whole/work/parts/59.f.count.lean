/-! counts -/
def cSh (S : zz_M) : Nat := fa_cnt (fun c => decide (cK S c = nI 2)) (cN S)
def cCt (S : zz_M) (k : Nat) : Int32 := if k = 0 then nI (cN S) else if k = 1 then nI (cM S) else if k = 2 then nI (cT S) else if k = 6 then nI (cSh S) else if k = 7 then nI (cQ S) else if k = 8 then zz_gI S 13 else nI (tL S (k - 3))
def a_count (S : zz_M) (u : Int32) : Int32 := zo (-nI 2) (cCt S) (zu u 9)
theorem q10_suL {T : zz_M} {n : Nat} {kd : Nat → Int32} (w : Int32) (hn : n ≤ 36) (g2 : zz_gI T 2 = nI n) (gk : ∀ j, j < n → zz_gA T 2 j = kd j) : ∀ (f l c : Nat), c + l = n → l < f →
    pX10_sumOf_L8_4 w T f (nI (fa_cnt (fun c => decide (kd c = nI 2)) c)) (nI c) = some (if w = nI 0 then zz_gI T 2 else if w = nI 1 then zz_gI T 3 else if w = nI 2 then zz_gI T 4 else nI (fa_cnt (fun c => decide (kd c = nI 2)) n), T) := by
  intro f
  induction f with
  | zero => intro l c _ h; omega
  | succ f ih =>
    intro l c hl hf
    have hc := fa_cnt_le (fun c => decide (kd c = nI 2)) c
    rw [pX10_sumOf_L8_4, g2]
    simp only [zz_lt]
    simp (disch := omega) only [zl_lit, nI_leI, zl_in, nI_clamp]
    cases l with
    | zero => rw [if_pos (by omega), show c = n by omega]
    | succ l =>
      rw [if_neg (by omega), if_pos (by omega), gk c (by omega)]
      have h1 := ih l (c + 1) (by omega) (by omega)
      rw [g2] at h1
      rw [nI_add c 1]
      by_cases q : kd c = nI 2
      · rw [fa_cnt_yes (decide_eq_true q)] at h1
        rw [if_pos q, nI_add]; exact h1
      · rw [fa_cnt_no (decide_eq_false q)] at h1
        rw [if_neg q, nI_add]; exact h1
theorem q10_sumOf (F : Nat) {S : zz_M} (h : ok10 S) (hF : 100 ≤ F) (w : Int32) : ∃ T, pX10_sumOf F w S = some (if w = nI 0 then nI (cN S) else if w = nI 1 then nI (cM S) else if w = nI 2 then nI (cT S) else nI (cSh S), T) ∧ sm S T := by
  obtain ⟨T, e1, e2, e3⟩ := q10_reads F h hF
  have hn := cN_le S
  obtain ⟨-, g2, gk, g3, -, g4, -⟩ := e3
  rw [sm_N e2] at g2 gk
  rw [sm_K e2] at gk
  rw [sm_M e2] at g3
  rw [sm_T e2] at g4
  unfold pX10_sumOf
  rw [e1]
  simp only [zz_b1, zl_lit]
  have e := q10_suL w hn g2 gk F (cN S) 0 (by omega) (by omega)
  rw [g2, g3, g4] at e
  exact ⟨T, e, e2⟩
theorem q10_count (F : Nat) {S : zz_M} (h : ok10 S) (hm : mk10 S) (hF : 100 ≤ F) (u : Int32) : ∃ T, pX10_count F u S = some (a_count S u, T) ∧ sm S T := by
  unfold pX10_count a_count
  cases q : zu u 9 with
  | none =>
    have hN := zu_N q
    refine ⟨S, ?_, sm_rfl S⟩
    have ne : ∀ k : Nat, k < 9 → ¬ u = nI k := fun k hk z => by rw [z, zl_T (by omega)] at hN; omega
    simp only [zl_lit]
    rw [if_neg (ne 0 (by omega)), if_neg (ne 1 (by omega)), if_neg (ne 2 (by omega)), if_neg (ne 3 (by omega)), if_neg (ne 4 (by omega)), if_neg (ne 5 (by omega)), if_neg (ne 6 (by omega)), if_neg (ne 7 (by omega)), if_neg (ne 8 (by omega)), if_pos (by omega)]
    rfl
  | some k =>
    obtain ⟨h1, h2⟩ := zu_S q
    subst h2
    rw [zo_S]
    obtain ⟨T, e1, e2⟩ := q10_sumOf F h hF (nI k)
    have t0 := (h.1 0 (by omega)).1
    have t1 := (h.1 1 (by omega)).1
    have t2 := (h.1 2 (by omega)).1
    rw [e1, hm.1]
    rcases (show k = 0 ∨ k = 1 ∨ k = 2 ∨ k = 3 ∨ k = 4 ∨ k = 5 ∨ k = 6 ∨ k = 7 ∨ k = 8 by omega) with rfl | rfl | rfl | rfl | rfl | rfl | rfl | rfl | rfl
    · exact ⟨T, rfl, e2⟩
    · exact ⟨T, rfl, e2⟩
    · exact ⟨T, rfl, e2⟩
    · refine ⟨S, ?_, sm_rfl S⟩
      have e : (some (zz_gA S 0 0, S) : Option (Int32 × zz_M)) = some (nI (tL S 0), S) := by rw [t0]
      exact e
    · refine ⟨S, ?_, sm_rfl S⟩
      have e : (some (zz_gA S 0 1, S) : Option (Int32 × zz_M)) = some (nI (tL S 1), S) := by rw [t1]
      exact e
    · refine ⟨S, ?_, sm_rfl S⟩
      have e : (some (zz_gA S 0 2, S) : Option (Int32 × zz_M)) = some (nI (tL S 2), S) := by rw [t2]
      exact e
    · exact ⟨T, rfl, e2⟩
    · exact ⟨S, rfl, sm_rfl S⟩
    · exact ⟨S, rfl, sm_rfl S⟩
theorem shm_mk (kn : Nat → Nat) : ∀ n, sp_shm kn n = sp_mk (fun c => decide (kn c = 2)) n
  | 0 => rfl
  | n + 1 => by rw [sp_shm, sp_mk, shm_mk kn n]; by_cases q : kn n = 2 <;> simp [q]
theorem cSh_e (S : zz_M) : fa_cnt (sp_shm (sp_ward (tB S 0) (tL S 0)).2.2.2 (cN S)).testBit 36 = cSh S := by
  rw [shm_mk, mk_cnt _ (cN_le S)]
  unfold cSh
  apply fa_cnt_cong
  intro c hc
  have e2 : cK S c = nI ((sp_ward (tB S 0) (tL S 0)).2.2.2 c) := rfl
  have e3 : (sp_ward (tB S 0) (tL S 0)).2.2.2 c ≤ 4 := sp_ward_k _ _ c hc
  rw [e2, decide_eq_decide]; exact (nI_eq (by omega) (by omega)).symm
theorem q9_count (F : Nat) {C S : zz_M} (R : R9 C S) (u : Int32) : pX9_count F u C = some (a_count S u) := by
  unfold pX9_count a_count
  cases q : zu u 9 with
  | none =>
    have hN := zu_N q
    have ne : ∀ k : Nat, k < 9 → ¬ u = nI k := fun k hk z => by rw [z, zl_T (by omega)] at hN; omega
    simp only [zl_lit]
    rw [if_neg (ne 0 (by omega)), if_neg (ne 1 (by omega)), if_neg (ne 2 (by omega)), if_neg (ne 3 (by omega)), if_neg (ne 4 (by omega)), if_neg (ne 5 (by omega)), if_neg (ne 6 (by omega)), if_neg (ne 7 (by omega)), if_neg (ne 8 (by omega)), if_pos (by omega)]
    rfl
  | some k =>
    obtain ⟨h1, h2⟩ := zu_S q
    subst h2
    rw [zo_S]
    obtain ⟨⟨p, -⟩, ⟨m1, m2, -⟩, -, v⟩ := R
    obtain ⟨p1, -, -, -, ⟨w1, -, w3, -⟩, ⟨b1, -⟩, t1, -⟩ := p
    have a0 := p1 0 (by omega)
    have a1 := p1 1 (by omega)
    have a2 := p1 2 (by omega)
    have hlt : sp_shm (sp_ward (tB S 0) (tL S 0)).2.2.2 (cN S) < 2 ^ 36 := by
      rw [shm_mk]; exact Nat.lt_of_lt_of_le (sp_mk_lt _ _) (Nat.pow_le_pow_right (by decide) (cN_le S))
    rw [w1, b1, t1, a0, a1, a2, w3, qJ_bitCountL F hlt, cSh_e, m2, v]
    rcases (show k = 0 ∨ k = 1 ∨ k = 2 ∨ k = 3 ∨ k = 4 ∨ k = 5 ∨ k = 6 ∨ k = 7 ∨ k = 8 by omega) with rfl | rfl | rfl | rfl | rfl | rfl | rfl | rfl | rfl <;> rfl
