/-! nights by a seed -/
def sp_lot (s : Int32) : Nat → Int32
  | 0 => s
  | k + 1 => nI 1103515245 * sp_lot s k + nI 12345
def sp_l5 (s : Int32) (k : Nat) : Nat := (sp_lot s (k + 1)).toBitVec.toNat / 65536 % 5
theorem sp_l5_le (s : Int32) (k : Nat) : sp_l5 s k ≤ 4 := by unfold sp_l5; omega
theorem zl_ushr16 (x : Int32) : zz_ushr x (nI 16) - zz_ushr x (nI 16) / nI 5 * nI 5 = nI (x.toBitVec.toNat / 65536 % 5) := by
  obtain ⟨n, hn, rfl⟩ := wb_of32 x
  have e : zz_ushr (nI n) (nI 16) = nI (n / 65536) := pk_ushrN hn (nI 16) 16 (by decide)
  rw [e, zl_rem (by omega) (by omega) (by omega), pk_tn hn]
def sNl (S : zz_M) (s : Int32) (n : Nat) : Nat := sLost S n (sp_l5 s) (fgT S)
def sNp (S : zz_M) (s : Int32) (n : Nat) : Option Nat := sp_pl (cN S) (cW S) (cK S) (cGi S) (cSt S) n (sp_l5 s) n
def sNa (S : zz_M) (s : Int32) (n j : Nat) : Int32 := if j = 0 then nI (sNl S s n) else sp_i (sNp S s n)
def a_nights (S : zz_M) (s u v : Int32) : Int32 := zo (-nI 2) (fun n => if n = 0 then -nI 2 else zo (-nI 2) (fun j => sNa S s n j) (zu v 2)) (zu u 25)
theorem q10_niL (F : Nat) {S T : zz_M} {s : Int32} {n j : Nat} (h : ok10 S) (e2 : sm S T) (e3 : go10 T (cM S) (cB S) (fgT S)) (hn : n ≤ 24) (hj : j < 2) (hF : 100 ≤ F) : ∀ (f l k : Nat) (z : Nat → Int32), k + l = n → l < f → (∀ i, i < k → z i = nI (sp_l5 s i)) →
    ∃ U, pX10_nightsOf_L15_6 (nI n) (nI j) F f (sp_lot s k) (nI k) (zz_sA (zz_sI T 9 (nI n)) 6 z) = some (sNa S s n j, U) ∧ sm S U := by
  intro f
  induction f with
  | zero => intro l c w _ h; omega
  | succ f ih =>
    intro l k z hl hf hz
    rw [pX10_nightsOf_L15_6]
    simp only [zz_lt]
    simp (disch := omega) only [zl_lit, nI_leI, zl_in, nI_clamp, nI_add, nI_eq]
    cases l with
    | zero =>
      have ek : k = n := by omega
      subst ek
      rw [if_pos (by omega)]
      have hs : sm S (zz_sA (zz_sI T 9 (nI k)) 6 z) := sm_sA (sm_sI e2 (by decide)) (by decide)
      have hg : go10 (zz_sA (zz_sI T 9 (nI k)) 6 z) k (sp_l5 s) (fgT S) := ⟨(have q := e3.1; q), rfl, ⟨hn, fun i hi => ⟨hz i hi, sp_l5_le s i⟩⟩, (have q := e3.2.2.2; q)⟩
      obtain ⟨U, u1, u2, u3⟩ := q10_lostNow F (sm_ok hs h) hg hF
      have hU := sm_tr hs u2
      rw [u1]
      simp only [zz_b2]
      refine ⟨U, ?_, hU⟩
      have el : sLost (zz_sA (zz_sI T 9 (nI k)) 6 z) k (sp_l5 s) (fgT S) = sNl S s k := by unfold sNl sLost; rw [sm_sTk hs, sm_T hs]
      have ep : zz_gA U 8 k = sp_i (sNp S s k) := by
        rw [u3.2.1 k (by omega), sm_N hU, sm_W hU, sm_K hU, sm_Gi hU, sm_St hU]; rfl
      rw [el, ep]
      unfold sNa
      rcases (show j = 0 ∨ j = 1 by omega) with rfl | rfl
      · rfl
      · simp only [Nat.one_ne_zero, if_false, if_pos (show k < 97 by omega)]
    | succ l =>
      rw [if_neg (by omega), if_pos (by omega), zs_AA, zl_ushr16]
      refine ih l (k + 1) _ (by omega) (by omega) (fun i hi => ?_)
      rw [show zz_gA (zz_sA (zz_sI T 9 (nI n)) 6 z) 6 = z from by rw [zg_AA, if_pos rfl]]
      by_cases q : i = k
      · subst q; rw [pk_us]; rfl
      · rw [pk_un q]; exact hz i (by omega)
theorem q10_nightsOf (F : Nat) {S : zz_M} {s : Int32} {n j : Nat} (h : ok10 S) (hn : n ≤ 24) (hj : j < 2) (hF : 100 ≤ F) : ∃ U, pX10_nightsOf F s (nI n) (nI j) S = some (sNa S s n j, U) ∧ sm S U := by
  obtain ⟨T, e1, e2, e3⟩ := q10_asTold F h hF
  unfold pX10_nightsOf
  rw [e1]
  simp only [zz_b1, zz_lt, zl_lit]
  obtain ⟨U, u1, u2⟩ := q10_niL F (s := s) h e2 e3 hn hj hF F n 0 (zz_gA T 6) (by omega) (by omega) (fun i hi => by omega)
  have e4 : zz_sA (zz_sI T 9 (nI n)) 6 (zz_gA T 6) = zz_sI T 9 (nI n) := by
    have : zz_gA T 6 = zz_gA (zz_sI T 9 (nI n)) 6 := rfl
    rw [this, ss_A]
  rw [e4] at u1
  exact ⟨U, u1, u2⟩
theorem q10_in1 (F : Nat) (u : Int32) : pX10_in F u (nI 1) (nI 24) = some (zb (zo false (fun n => decide (¬ n = 0)) (zu u 25))) := by
  rw [q10_in, zl_T (by omega), zl_T (by omega)]
  cases q : zu u 25 with
  | none =>
    have := zu_N q
    rw [zo_N, decide_eq_false (by omega)]
  | some n =>
    obtain ⟨h1, h2⟩ := zu_S q
    rw [zo_S, h2, zl_T (by omega)]
    congr 2
    rw [decide_eq_decide]; omega
theorem q10_nights (F : Nat) {S : zz_M} (h : ok10 S) (hF : 100 ≤ F) (s u v : Int32) : ∃ T, pX10_nights F s u v S = some (a_nights S s u v, T) ∧ sm S T := by
  unfold pX10_nights a_nights
  simp only [zl_lit, zz_lt]
  rw [q10_in1, q10_inN F v (by omega)]
  simp only [zz_b1, zb0]
  cases q : zu u 25 with
  | none => exact ⟨S, rfl, sm_rfl S⟩
  | some n =>
    obtain ⟨h1, h2⟩ := zu_S q
    subst h2
    rw [zo_S, zo_S]
    by_cases q0 : n = 0
    · rw [if_pos q0, if_pos (by simp [q0])]; exact ⟨S, rfl, sm_rfl S⟩
    · rw [if_neg q0, if_neg (by simp [q0])]
      cases q2 : zu v 2 with
      | none => exact ⟨S, rfl, sm_rfl S⟩
      | some j =>
        obtain ⟨h3, h4⟩ := zu_S q2
        subst h4
        obtain ⟨T, e1, e2⟩ := q10_nightsOf F (s := s) h (show n ≤ 24 by omega) h3 hF
        rw [e1]
        exact ⟨T, rfl, e2⟩
/-! the class -/
theorem q4_dlL (F : Nat) {s : Int32} {n : Nat} (hn : n ≤ 24) : ∀ (f l k : Nat) (z : Nat → Int32), k + l = n → l < f → (∀ i, i < k → z i = nI (sp_l5 s i)) →
    ∃ z', pX4_drawLots_L10_5 (nI n) F f (sp_lot s k) (nI k) (nI k) z = some (nI n, z') ∧ ∀ i, i < n → z' i = nI (sp_l5 s i) := by
  intro f
  induction f with
  | zero => intro l c w _ h; omega
  | succ f ih =>
    intro l k z hl hf hz
    rw [pX4_drawLots_L10_5]
    simp only [zz_lt]
    simp (disch := omega) only [zl_lit, nI_leI, nI_add]
    cases l with
    | zero =>
      have ek : k = n := by omega
      subst ek
      rw [if_pos (by omega)]; exact ⟨z, rfl, hz⟩
    | succ l =>
      rw [if_neg (by omega), zl_ushr16]
      have ea : ∀ x, pX4_add F x (nI k) z = some (nI (k + 1), upd z k x) := fun x => by
        unfold pX4_add
        simp (disch := omega) only [zl_lit, zz_lt, nI_leI, nI_ltI, nI_add, zl_in, nI_clamp]
        rw [if_neg (by omega), if_pos (by omega)]
      rw [ea]
      simp only [zz_b2]
      refine ih l (k + 1) _ (by omega) (by omega) (fun i hi => ?_)
      by_cases q : i = k
      · subst q; rw [pk_us]; rfl
      · rw [pk_un q]; exact hz i (by omega)
theorem q9_rng1 {α : Type} {u : Int32} (a b : α) : (if u < nI 1 then a else if nI 24 < u then a else b) = if zo false (fun n => decide (¬ n = 0)) (zu u 25) = true then b else a := by
  have e1 : (u < nI 1) ↔ u.toInt < 1 := by rw [fa_lt, zl_T (by omega)]; omega
  have e2 : (nI 24 < u) ↔ 24 < u.toInt := by rw [fa_lt, zl_T (by omega)]; omega
  have e3 : (zo false (fun n => decide (¬ n = 0)) (zu u 25) = true) ↔ (1 ≤ u.toInt ∧ u.toInt ≤ 24) := by
    cases q : zu u 25 with
    | none => have := zu_N q; rw [zo_N]; constructor <;> intro z <;> first | (exact absurd z (by decide)) | omega
    | some n =>
      obtain ⟨h1, h2⟩ := zu_S q
      rw [zo_S, decide_eq_true_eq, h2, zl_T (by omega)]; omega
  by_cases q1 : u < nI 1
  · rw [if_pos q1, if_neg (fun z => by have := e3.mp z; have := e1.mp q1; omega)]
  · rw [if_neg q1]
    by_cases q2 : nI 24 < u
    · rw [if_pos q2, if_neg (fun z => by have := e3.mp z; have := e2.mp q2; omega)]
    · rw [if_neg q2, if_pos (e3.mpr (by rw [e1] at q1; rw [e2] at q2; omega))]
theorem q9_nights (F : Nat) {C S : zz_M} (h : ok10 S) (r : r9 C S) (hF : 100 ≤ F) (s u v : Int32) : ∃ D, pX9_nights F s u v C = some (a_nights S s u v, D) ∧ r9 D S ∧ ke C D := by
  unfold pX9_nights a_nights
  simp only [zl_lit, zz_lt]
  rw [q9_rng1, q9_isEither]
  simp only [zz_b1, zb0]
  cases q : zu u 25 with
  | none => exact ⟨C, rfl, r, ke_rfl C⟩
  | some n =>
    obtain ⟨h1, h2⟩ := zu_S q
    subst h2
    rw [zo_S, zo_S]
    by_cases q0 : n = 0
    · rw [if_pos q0, if_neg (by simp [q0])]; exact ⟨C, rfl, r, ke_rfl C⟩
    · rw [if_neg q0, if_pos (by simp [q0])]
      cases q2 : zu v 2 with
      | none => exact ⟨C, rfl, r, ke_rfl C⟩
      | some j =>
        obtain ⟨h3, h4⟩ := zu_S q2
        subst h4
        obtain ⟨D, e1, e2, e3, e4, e5, e6⟩ := q9_set9 F h r hF
        have n1 := e4.1
        have n2 := e4.2.1
        have p' := e2.1
        obtain ⟨-, -, -, ⟨a0, -⟩, -⟩ := p'
        obtain ⟨z, z1, z2⟩ := q4_dlL F (s := s) (show n ≤ 24 by omega) F n 0 (zz_gA D 18) (by omega) (by omega) (fun i hi => by omega)
        have z1' : pX4_drawLots F s (nI n) (zz_gI D 21) (zz_gA D 18) = some (nI n, z) := by unfold pX4_drawLots; exact z1
        have hB : sp_B n z (sp_l5 s) := ⟨by omega, fun i hi => ⟨z2 i hi, sp_l5_le s i⟩⟩
        obtain ⟨pl, vw, f1, f2⟩ := q2_walk F (pl0 := zz_gA D 21) (vw0 := zz_gL D 4) (cK_W S) hB n2 h.2.2.1.2 hF
        have hv : sp_V vw (sp_vm (cN S) (cW S) (cK S) (cSi S) (fgT S) (sp_pl (cN S) (cW S) (cK S) (cGi S) (cSt S) n (sp_l5 s))) := fun t ht => (f2 t ht).2
        have e7 := q9_hm F (pl := pl) e2.1 hv hF
        have e8 : fa_cnt (fun i => (sp_takes (cN S) (cK S) (sp_vm (cN S) (cW S) (cK S) (cSi S) (fgT S) (sp_pl (cN S) (cW S) (cK S) (cGi S) (cSt S) n (sp_l5 s))) (cWt S) (cNd S) i).isSome) (cT S) = sNl S s n := rfl
        rw [e8] at e7
        have kk : kp D (zz_sL (zz_sA (zz_sA (zz_sI D 21 (nI n)) 18 z) 21 pl) 4 vw) := kp_L (kp_A (kp_A (kp_I (kp_rfl D) (by decide)) (by decide)) (by decide)) (by decide)
        refine ⟨zz_sL (zz_sA (zz_sA (zz_sI D 21 (nI n)) 18 z) 21 pl) 4 vw, ?_, r9_kp e2 kk, ke_tr e3 (ke_kp kk)⟩
        simp only [Option.isSome, zo_S]
        rw [if_neg (by decide), e1]
        simp only
        rw [z1']
        simp only [zz_b2, zg_IL, zg_IA, zg_AL, zg_AA, zg_LL, zg_LA, zg_AI, zg_LI, zg_II, Nat.reduceEqDiff, reduceIte]
        rw [show (nI 0).toNatClampNeg = 0 from rfl, a0, n1, f1]
        simp only [zg_IL, zg_IA, zg_AL, zg_AA, zg_LL, zg_LA, zg_AI, zg_LI, zg_II, Nat.reduceEqDiff, reduceIte]
        rw [e7]
        simp only
        unfold sNa
        rcases (show j = 0 ∨ j = 1 by omega) with rfl | rfl
        · rfl
        · rw [if_neg (show ¬ nI 1 = nI 0 by decide), if_pos ((zl_in (show n < 2 ^ 31 by omega)).mpr (by omega)), nI_clamp (by omega), (f2 n (by omega)).1]
          rfl
