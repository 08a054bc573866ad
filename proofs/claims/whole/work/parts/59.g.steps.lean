/-! what the reference asks itself -/
theorem q10_seenOf (F : Nat) {S : zz_M} {c j : Nat} (h : ok10 S) (hc : c < 36) (hj : j < 2) (hF : 100 ≤ F) : ∃ U, pX10_seenOf F (nI c) (nI j) S = some (if j = 0 then nI (fa_cnt (fun t => (cV S t).testBit c) 96) else nI (sp_lng (fun t => (cV S t).testBit c) 96), U) ∧ sm S U ∧ rd10 U := by
  obtain ⟨U, f1, f2, f3⟩ := q10_walksTold F h hF
  have hv := wk_V f2 f3
  have e4 := q10_snL F hv hc hj F 96 0 (by omega) (by omega)
  unfold pX10_seenOf
  rw [f1]
  simp only [zl_lit, zz_b1]
  rw [fa_cnt, sp_run, sp_lng] at e4
  exact ⟨U, e4, f2, f3.1.1⟩
theorem q10_takesOf (F : Nat) {S : zz_M} {k : Nat} (h : ok10 S) (hk : k < cT S) (hF : 100 ≤ F) : ∃ U, pX10_takesOf F (nI k) S = some (sp_i (cTk S k), U) ∧ sm S U := by
  obtain ⟨U, f1, f2, f3⟩ := q10_walksTold F h hF
  unfold pX10_takesOf
  rw [f1]
  simp only [zz_b1]
  rw [q10_takesT F f3 hF (by rw [sm_T f2]; exact hk)]
  refine ⟨U, ?_, f2⟩
  rw [cTk_s, ← sm_sTk f2]; rfl
theorem q10_seesOf (F : Nat) {S : zz_M} {t j : Nat} (h : ok10 S) (ht : t < 96) (hj : j < 2) (hF : 100 ≤ F) : ∃ U, pX10_seesOf F (nI t) (nI j) S = some (if j = 0 then nI (cV S t % 2 ^ 18) else nI (cV S t / 2 ^ 18), U) ∧ sm S U := by
  obtain ⟨T, e1, e2, e3⟩ := q10_walksTold F h hF
  have hv := wk_V e2 e3 t ht
  unfold pX10_seesOf
  rw [e1]
  simp (disch := omega) only [zl_lit, zz_b1, zz_lt, zl_in, nI_clamp, nI_eq]
  simp only [if_pos ht]
  rw [hv.1, hv.2.1]
  refine ⟨T, ?_, e2⟩
  split <;> rfl
theorem q10_safeOf (F : Nat) {S : zz_M} {j : Nat} (h : ok10 S) (hj : j < 2) (hF : 100 ≤ F) : ∃ U, pX10_safeOf F (nI j) S = some (if j = 0 then nI (cSf S % 2 ^ 18) else nI (cSf S / 2 ^ 18), U) ∧ sm S U := by
  obtain ⟨T, e1, e2, e3⟩ := q10_walksTold F h hF
  have hn := cN_le S
  have e4 := q10_sfL F hj e2 e3 hF F (cN S) 0 (by omega) (by omega)
  have e5 : (if j = 0 then sp_mk (sSf S) 0 % 2 ^ 18 else sp_mk (sSf S) 0 / 2 ^ 18) = 0 := by rw [sp_mk]; split <;> simp
  rw [e5] at e4
  unfold pX10_safeOf
  rw [e1]
  simp only [zl_lit, zz_b1]
  rw [e4]
  refine ⟨T, ?_, e2⟩
  split <;> rfl
theorem q10_firstNow (F : Nat) {S : zz_M} (h : ok10 S) (hF : 100 ≤ F) : ∃ T, pX10_firstNow F S = some (sp_i (a_first S), T) ∧ sm S T := by
  obtain ⟨T, e1, e2⟩ := q10_first F h hF
  unfold pX10_first at e1
  obtain ⟨r, U, f1, f2⟩ := zz_b2s e1
  refine ⟨T, ?_, e2⟩
  rw [f1]; exact f2
theorem q10_spareNow (F : Nat) {S : zz_M} (h : ok10 S) (hF : 100 ≤ F) : ∃ T, pX10_spareNow F S = some (nI (a_spare S), T) ∧ sm S T := by
  obtain ⟨T, e1, e2⟩ := q10_spare F h hF
  unfold pX10_spare at e1
  obtain ⟨r, U, f1, f2⟩ := zz_b2s e1
  refine ⟨T, ?_, e2⟩
  rw [f1]; exact f2
/-! a call on both sides -/
def Pr {α : Type} (P : zz_M → Prop) (x y : Option (α × zz_M)) : Prop := ∃ v D T, x = some (v, D) ∧ y = some (v, T) ∧ R9 D T ∧ ok10 T ∧ P T
def Pq {α : Type} (C : zz_M) (x : Option α) (y : Option (α × zz_M)) : Prop := ∃ v T, x = some v ∧ y = some (v, T) ∧ R9 C T ∧ ok10 T
def Tt : zz_M → Prop := fun _ => True
theorem Pr_mk {α : Type} {P : zz_M → Prop} {x y : Option (α × zz_M)} {C D S T : zz_M} {v : α} (R : R9 C S) (h : ok10 S) (hx : x = some (v, D)) (hr : r9 D S) (hk : ke C D) (hy : y = some (v, T)) (hs : sa S T) (hp : P T) : Pr P x y := ⟨v, D, T, hx, hy, sa_R9 hs (R9_ke R hr hk), sa_ok hs h, hp⟩
theorem Pr_b2 {α β : Type} {P Q : zz_M → Prop} {x y : Option (α × zz_M)} {f g : α → zz_M → Option (β × zz_M)} (h : Pr P x y) (k : ∀ v D T, R9 D T → ok10 T → P T → Pr Q (f v D) (g v T)) : Pr Q (zz_b2 x f) (zz_b2 y g) := by
  obtain ⟨v, D, T, rfl, rfl, h1, h2, h3⟩ := h
  exact k v D T h1 h2 h3
theorem Pr_b1 {α β : Type} {Q : zz_M → Prop} {C : zz_M} {x : Option α} {y : Option (α × zz_M)} {f : α → Option (β × zz_M)} {g : α → zz_M → Option (β × zz_M)} (h : Pq C x y) (k : ∀ v T, R9 C T → ok10 T → Pr Q (f v) (g v T)) : Pr Q (zz_b1 x f) (zz_b2 y g) := by
  obtain ⟨v, T, rfl, rfl, h1, h2⟩ := h
  exact k v T h1 h2
section PR
variable (F : Nat) {C S : zz_M} (R : R9 C S) (h : ok10 S) (hF : 2000 ≤ F)
theorem pq_fault (u : Int32) (R : R9 C S) (h : ok10 S) (hF : 2000 ≤ F) : Pq C (pX9_fault F u C) (pX10_fault F u S) := by
  obtain ⟨T, e1, e2⟩ := q10_fault F h (by omega) u
  exact ⟨_, T, q9_fault F R.1.1 u, e1, sm_R9 e2 R, sm_ok e2 h⟩
theorem pq_cell (u : Int32) (R : R9 C S) (h : ok10 S) (hF : 2000 ≤ F) : Pq C (pX9_cell F u C) (pX10_cell F u S) := by
  obtain ⟨T, e1, e2⟩ := q10_cell F h (by omega) u
  exact ⟨_, T, q9_cell F R.1.1 u, e1, sm_R9 e2 R, sm_ok e2 h⟩
theorem pq_beat (u : Int32) (R : R9 C S) (h : ok10 S) (hF : 2000 ≤ F) : Pq C (pX9_beat F u C) (pX10_beat F u S) := by
  obtain ⟨T, e1, e2⟩ := q10_beat F h (by omega) u
  exact ⟨_, T, q9_beat F R.1.1 u, e1, sm_R9 e2 R, sm_ok e2 h⟩
theorem pq_thief (u v : Int32) (R : R9 C S) (h : ok10 S) (hF : 2000 ≤ F) : Pq C (pX9_thief F u v C) (pX10_thief F u v S) := by
  obtain ⟨T, e1, e2⟩ := q10_thief F h (by omega) u v
  exact ⟨_, T, q9_thief F R.1.1 u v, e1, sm_R9 e2 R, sm_ok e2 h⟩
theorem pq_count (u : Int32) (R : R9 C S) (h : ok10 S) (hF : 2000 ≤ F) : Pq C (pX9_count F u C) (pX10_count F u S) := by
  obtain ⟨T, e1, e2⟩ := q10_count F h R.2.1.1 (by omega) u
  exact ⟨_, T, q9_count F R u, e1, sm_R9 e2 R, sm_ok e2 h⟩
/-! texts and settings -/
theorem R9_w9 {C D S T : zz_M} (R : R9 C S) (w : w9 C D S T) (hA : ∀ j, 12 ≤ j → zz_gA T j = zz_gA S j) (hI : zz_gI T 12 = zz_gI S 12 ∧ zz_gI T 13 = zz_gI S 13) : R9 D T := by
  rcases w with ⟨rfl, rfl⟩ | ⟨w1, w2, w3⟩
  · exact R
  · obtain ⟨r, m, k, v⟩ := R
    refine ⟨⟨w1, fun z => ?_⟩, ?_, ?_, ?_⟩
    · rw [w2] at z; exact absurd z (by decide)
    · obtain ⟨⟨m0, m1, m2⟩, m3, m4⟩ := m
      have e1 : cQ T = cQ S := by unfold cQ; rw [hI.1]
      have e2 : cQc T = cQc S := by funext j; unfold cQc; rw [hA 12 (by omega)]
      have e3 : cQb T = cQb S := by funext j; unfold cQb; rw [hA 13 (by omega)]
      refine ⟨⟨?_, ?_, ?_⟩, ?_, ?_⟩
      · rw [e1, hI.1]; exact m0
      · rw [e1]; exact m1
      · rw [e1, e2, e3, hA 12 (by omega), hA 13 (by omega)]; exact m2
      · rw [e1, w3.1 7 (by omega) (by omega)]; exact m3
      · rw [e1, hA 12 (by omega), hA 13 (by omega), w3.2.1 9 (by omega), w3.2.1 10 (by omega)]; exact m4
    · obtain ⟨k1, k2⟩ := k
      unfold h9 hk10 cTh cFm cSz
      unfold hk10 cTh cFm cSz at k1
      unfold cTh cFm cSz at k2
      rw [hA 15 (by omega), hA 16 (by omega), hA 17 (by omega), hA 18 (by omega)]
      refine ⟨k1, fun s hs => ?_⟩
      rw [w3.1 (8 + 3 * s) (by omega) (by omega), w3.1 (9 + 3 * s) (by omega) (by omega), w3.1 (10 + 3 * s) (by omega) (by omega), w3.2.1 (11 + s) (by omega)]
      exact k2 s hs
    · unfold v9 at v ⊢
      rw [w3.1 24 (by omega) (by omega), hI.2]; exact v
theorem s_type_k (S : zz_M) (u v : Int32) : (∀ j, 12 ≤ j → zz_gA (s_type S u v) j = zz_gA S j) ∧ (zz_gI (s_type S u v) 12 = zz_gI S 12 ∧ zz_gI (s_type S u v) 13 = zz_gI S 13) := by
  unfold s_type
  cases zu u 3 with
  | none => exact ⟨fun _ _ => rfl, rfl, rfl⟩
  | some k =>
    cases zu v 256 with
    | none => exact ⟨fun _ _ => rfl, rfl, rfl⟩
    | some b =>
      rw [zo_S, zo_S]
      split
      · exact ⟨fun _ _ => rfl, rfl, rfl⟩
      · exact ⟨fun j hj => by unfold tyS; rw [zg_AA, if_neg (by omega), zg_AA, if_neg (by omega)], rfl, rfl⟩
theorem lnS_k (S : zz_M) (k L : Nat) : (∀ j, 12 ≤ j → zz_gA (lnS S k L) j = zz_gA S j) ∧ (zz_gI (lnS S k L) 12 = zz_gI S 12 ∧ zz_gI (lnS S k L) 13 = zz_gI S 13) := ⟨fun j hj => by unfold lnS; rw [zg_AA, if_neg (by omega)], rfl, rfl⟩
theorem pr_type (u v : Int32) (R : R9 C S) (h : ok10 S) (hF : 2000 ≤ F) : Pr Tt (pX9_type F u v C) (pX10_type F u v S) := by
  obtain ⟨D, e1, e2, e3⟩ := q9_type F h R.1.1 (by omega) u v
  have k := s_type_k S u v
  exact ⟨_, D, _, e1, q10_type F h u v, R9_w9 R e2 k.1 k.2, e3, trivial⟩
theorem pr_wipe (u : Int32) (R : R9 C S) (h : ok10 S) (hF : 2000 ≤ F) : Pr Tt (pX9_wipe F u C) (pX10_wipe F u S) := by
  obtain ⟨D, e1, e2, e3⟩ := q9_wipe F h R.1.1 (by omega) u
  have k : (∀ j, 12 ≤ j → zz_gA (s_wipe S u) j = zz_gA S j) ∧ (zz_gI (s_wipe S u) 12 = zz_gI S 12 ∧ zz_gI (s_wipe S u) 13 = zz_gI S 13) := by
    unfold s_wipe
    cases zu u 3 with
    | none => exact ⟨fun _ _ => rfl, rfl, rfl⟩
    | some k => exact lnS_k S k 0
  exact ⟨_, D, _, e1, q10_wipe F h u, R9_w9 R e2 k.1 k.2, e3, trivial⟩
theorem pr_undo (u : Int32) (R : R9 C S) (h : ok10 S) (hF : 2000 ≤ F) : Pr Tt (pX9_undo F u C) (pX10_undo F u S) := by
  obtain ⟨D, e1, e2, e3⟩ := q9_undo F h R.1.1 (by omega) u
  have k : (∀ j, 12 ≤ j → zz_gA (s_undo S u) j = zz_gA S j) ∧ (zz_gI (s_undo S u) 12 = zz_gI S 12 ∧ zz_gI (s_undo S u) 13 = zz_gI S 13) := by
    unfold s_undo
    cases zu u 3 with
    | none => exact ⟨fun _ _ => rfl, rfl, rfl⟩
    | some k =>
      rw [zo_S]
      split
      · exact ⟨fun _ _ => rfl, rfl, rfl⟩
      · exact lnS_k S k _
  exact ⟨_, D, _, e1, q10_undo F h u, R9_w9 R e2 k.1 k.2, e3, trivial⟩
theorem pr_set (u v : Int32) (R : R9 C S) (h : ok10 S) (hF : 2000 ≤ F) : Pr Tt (pX9_set F u v C) (pX10_set F u v S) := by
  obtain ⟨D, e1, e2, e3⟩ := q9_set F h R.1.1 u v
  have k : (∀ j, 12 ≤ j → zz_gA (s_set S u v) j = zz_gA S j) ∧ (zz_gI (s_set S u v) 12 = zz_gI S 12 ∧ zz_gI (s_set S u v) 13 = zz_gI S 13) := by
    unfold s_set
    cases q : zu u 4 with
    | none => exact ⟨fun _ _ => rfl, rfl, rfl⟩
    | some k =>
      have hk := (zu_S q).1
      rw [zo_S]
      cases zu v (cMost k + 1) with
      | none => exact ⟨fun _ _ => rfl, rfl, rfl⟩
      | some b =>
        rw [zo_S]
        exact ⟨fun _ _ => rfl, by rw [zg_II, if_neg (by omega)], by rw [zg_II, if_neg (by omega)]⟩
  exact ⟨_, D, _, e1, q10_set F h u v, R9_w9 R e2 k.1 k.2, e3, trivial⟩
/-! questions -/
theorem pr_at (u : Int32) (R : R9 C S) (h : ok10 S) (hF : 2000 ≤ F) : Pr Tt (pX9_at F u C) (pX10_at F u S) := by
  obtain ⟨D, e1, e2⟩ := q9_at F h R.1.1 (r9_n R.1) (by omega) u
  obtain ⟨T, f1, f2⟩ := q10_at F h (by omega) u
  obtain ⟨g1, g2⟩ := r9_qd R.1 e2
  exact Pr_mk R h e1 g1 g2 f1 (sa_sm f2) trivial
theorem pr_sees (u v : Int32) (R : R9 C S) (h : ok10 S) (hF : 2000 ≤ F) : Pr Tt (pX9_sees F u v C) (pX10_sees F u v S) := by
  obtain ⟨D, e1, e2⟩ := q9_sees F h R.1.1 (r9_n R.1) (by omega) u v
  obtain ⟨T, f1, f2⟩ := q10_sees F h (by omega) u v
  obtain ⟨g1, g2⟩ := r9_qd R.1 e2
  exact Pr_mk R h e1 g1 g2 f1 (sa_sm f2) trivial
theorem pr_seen (u v : Int32) (R : R9 C S) (h : ok10 S) (hF : 2000 ≤ F) : Pr Tt (pX9_seen F u v C) (pX10_seen F u v S) := by
  obtain ⟨D, e1, e2⟩ := q9_seen F h R.1.1 (r9_n R.1) (by omega) u v
  obtain ⟨T, f1, f2⟩ := q10_seen F h (by omega) u v
  obtain ⟨g1, g2⟩ := r9_qd R.1 e2
  exact Pr_mk R h e1 g1 g2 f1 (sa_sm f2) trivial
theorem pr_takes (u : Int32) (R : R9 C S) (h : ok10 S) (hF : 2000 ≤ F) : Pr Tt (pX9_takes F u C) (pX10_takes F u S) := by
  obtain ⟨D, e1, e2⟩ := q9_takes F h R.1.1 (r9_n R.1) (by omega) u
  obtain ⟨T, f1, f2⟩ := q10_takes F h (by omega) u
  obtain ⟨g1, g2⟩ := r9_qd R.1 e2
  exact Pr_mk R h e1 g1 g2 f1 (sa_sm f2) trivial
theorem pr_safe (u : Int32) (R : R9 C S) (h : ok10 S) (hF : 2000 ≤ F) : Pr Tt (pX9_safe F u C) (pX10_safe F u S) := by
  obtain ⟨D, e1, e2⟩ := q9_safe F h R.1.1 (r9_n R.1) (by omega) u
  obtain ⟨T, f1, f2⟩ := q10_safe F h (by omega) u
  obtain ⟨g1, g2⟩ := r9_qd R.1 e2
  exact Pr_mk R h e1 g1 g2 f1 (sa_sm f2) trivial
theorem q9_lostR (R : R9 C S) (h : ok10 S) (hF : 2000 ≤ F) : ∃ D, pX9_lost F C = some (nI (a_lost S), D) ∧ r9 D S ∧ ke C D := by
  obtain ⟨D, e1, e2, -⟩ := q9_lost F h R.1.1 (r9_n R.1) (by omega)
  obtain ⟨g1, g2, -⟩ := r9_st R.1 e2
  exact ⟨D, e1, g1, g2⟩
theorem pr_lost (R : R9 C S) (h : ok10 S) (hF : 2000 ≤ F) : Pr Tt (pX9_lost F C) (pX10_lost F S) := by
  obtain ⟨D, e1, g1, g2⟩ := q9_lostR F R h hF
  obtain ⟨T, f1, f2⟩ := q10_lost F h (by omega)
  exact Pr_mk R h e1 g1 g2 f1 (sa_sm f2) trivial
theorem pr_first (R : R9 C S) (h : ok10 S) (hF : 2000 ≤ F) : Pr Tt (pX9_first F C) (pX10_first F S) := by
  obtain ⟨D, e1, e2⟩ := q9_first F h R.1.1 (r9_n R.1) (by omega)
  obtain ⟨T, f1, f2⟩ := q10_first F h (by omega)
  obtain ⟨g1, g2⟩ := r9_qd R.1 e2
  exact Pr_mk R h e1 g1 g2 f1 (sa_sm f2) trivial
theorem q9_spareR (R : R9 C S) (h : ok10 S) (hF : 2000 ≤ F) : ∃ D, pX9_spare F C = some (nI (a_spare S), D) ∧ r9 D S ∧ ke C D := by
  obtain ⟨D, E, e1, e2, e3⟩ := q9_spare F h R.1.1 (r9_n R.1) (by omega)
  obtain ⟨g1, g2, -⟩ := r9_st R.1 e2
  exact ⟨E, e1, r9_ko g1 e3, ke_tr g2 (ke_ko e3)⟩
theorem pr_spare (R : R9 C S) (h : ok10 S) (hF : 2000 ≤ F) : Pr Tt (pX9_spare F C) (pX10_spare F S) := by
  obtain ⟨D, e1, g1, g2⟩ := q9_spareR F R h hF
  obtain ⟨T, f1, f2⟩ := q10_spare F h (by omega)
  exact Pr_mk R h e1 g1 g2 f1 (sa_sm f2) trivial
theorem pr_trim (u : Int32) (R : R9 C S) (h : ok10 S) (hF : 2000 ≤ F) : Pr Tt (pX9_trim F u C) (pX10_trim F u S) := by
  obtain ⟨D, e1, g1, g2⟩ := q9_trim F h R.1 (by omega) u
  obtain ⟨T, f1, f2⟩ := q10_trim F h (by omega) u
  exact Pr_mk R h e1 g1 g2 f1 (sa_sm f2) trivial
theorem pr_begin (u : Int32) (R : R9 C S) (h : ok10 S) (hF : 2000 ≤ F) : Pr Tt (pX9_begin F u C) (pX10_begin F u S) := by
  obtain ⟨D, e1, g1, g2⟩ := q9_begin F h R.1 (by omega) u
  obtain ⟨T, f1, f2⟩ := q10_begin F h (by omega) u
  exact Pr_mk R h e1 g1 g2 f1 (sa_sm f2) trivial
theorem pr_recruit (u : Int32) (R : R9 C S) (h : ok10 S) (hF : 2000 ≤ F) : Pr Tt (pX9_recruit F u C) (pX10_recruit F u S) := by
  obtain ⟨D, e1, g1, g2⟩ := q9_recruit F h R.1 (by omega) u
  obtain ⟨T, f1, f2⟩ := q10_recruit F h (by omega) u
  exact Pr_mk R h e1 g1 g2 f1 (sa_sm f2) trivial
theorem pr_omitted (R : R9 C S) (h : ok10 S) (hF : 2000 ≤ F) : Pr Tt (pX9_omitted F C) (pX10_omitted F S) := by
  obtain ⟨D, e1, g1, g2⟩ := q9_omitted F h R.1 R.2.1 (by omega)
  obtain ⟨T, f1, f2⟩ := q10_omitted F h R.2.1.1 (by omega)
  exact Pr_mk R h e1 g1 g2 f1 (sa_sm f2) trivial
theorem pr_meant (u v : Int32) (R : R9 C S) (h : ok10 S) (hF : 2000 ≤ F) : Pr Tt (pX9_meant F u v C) (pX10_meant F u v S) := by
  obtain ⟨D, e1, g1, g2⟩ := q9_meant F h R.1 R.2.1 (by omega) u v
  obtain ⟨T, f1, f2⟩ := q10_meant F h R.2.1.1 (by omega) u v
  exact Pr_mk R h e1 g1 g2 f1 (sa_sm f2) trivial
theorem pr_ask (R : R9 C S) (h : ok10 S) (hF : 2000 ≤ F) : Pr Tt (pX9_ask F C) (pX10_ask F S) := by
  obtain ⟨D, e1, g1, g2⟩ := q9_ask F h R.1 R.2.1 (by omega)
  obtain ⟨T, f1, f2⟩ := q10_ask F h R.2.1.1 (by omega)
  exact Pr_mk R h e1 g1 g2 f1 f2 trivial
theorem pr_fogged (u0 u1 u2 u3 : Int32) (R : R9 C S) (h : ok10 S) (hF : 2000 ≤ F) : Pr Tt (pX9_fogged F u0 u1 u2 u3 C) (pX10_fogged F u0 u1 u2 u3 S) := by
  obtain ⟨D, e1, g1, g2⟩ := q9_fogged F h R.1 (by omega) u0 u1 u2 u3
  obtain ⟨T, f1, f2⟩ := q10_fogged F h (by omega) u0 u1 u2 u3
  exact Pr_mk R h e1 g1 g2 f1 (sa_sm f2) trivial
theorem pr_nights (u0 u1 u2 : Int32) (R : R9 C S) (h : ok10 S) (hF : 2000 ≤ F) : Pr Tt (pX9_nights F u0 u1 u2 C) (pX10_nights F u0 u1 u2 S) := by
  obtain ⟨D, e1, g1, g2⟩ := q9_nights F h R.1 (by omega) u0 u1 u2
  obtain ⟨T, f1, f2⟩ := q10_nights F h (by omega) u0 u1 u2
  exact Pr_mk R h e1 g1 g2 f1 (sa_sm f2) trivial
/-! missed and sheets -/
theorem ok_fnd {S : zz_M} {x : Int32} (h : ok10 S) : ok10 (zz_sI S 13 x) := h
theorem ok_A {S : zz_M} {k : Nat} {x : Nat → Int32} (hk : 2 ≤ k) (h : ok10 S) : ok10 (zz_sA S k x) := by
  have e0 : zz_gA (zz_sA S k x) 0 = zz_gA S 0 := by rw [zg_AA, if_neg (by omega)]
  have e1 : tL (zz_sA S k x) = tL S := tL_sA (by omega)
  have e2 : tB (zz_sA S k x) = tB S := tB_sA (by omega)
  unfold ok10 at h ⊢
  rw [e0, e1, e2]; exact h
theorem pr_missed (u v : Int32) (R : R9 C S) (h : ok10 S) (hF : 2000 ≤ F) : Pr Tt (pX9_missed F u v C) (pX10_missed F u v S) := by
  obtain ⟨D, e1, e2⟩ := q9_missed F R u v
  exact ⟨_, D, _, e1, q10_missed F R.2.1.1 u v, e2, s_missed_c (P := ok10) u v h (ok_ms h), trivial⟩
theorem pr_forget (R : R9 C S) (h : ok10 S) (hF : 2000 ≤ F) : Pr Tt (pX9_forget F C) (pX10_forget F S) := by
  obtain ⟨D, e1, e2⟩ := q9_forget F R
  exact ⟨_, D, _, e1, q10_forget F R.2.1.1, e2, (have z := h; z), trivial⟩
theorem pr_read (u : Int32) (R : R9 C S) (h : ok10 S) (hF : 2000 ≤ F) : Pr Tt (pX9_read F u C) (pX10_read F u S) := by
  obtain ⟨D, e1, e2⟩ := q9_read F R (by omega) u
  refine ⟨_, D, _, e1, q10_read F R.2.1.1 R.2.2.1.1 (by omega) u, e2, ?_, trivial⟩
  unfold s_read
  cases zu u 4 with
  | none => exact h
  | some s =>
    rw [zo_S]
    split
    · exact sp_rd_P (P := ok10) (fun S u v r => s_missed_c (P := ok10) u v r (ok_ms r)) _ _ _ h
    · exact ok_fnd h
theorem pr_sheet (u v w : Int32) (R : R9 C S) (h : ok10 S) (hF : 2000 ≤ F) : Pr Tt (pX9_sheet F u v w C) (pX10_sheet F u v w S) := by
  obtain ⟨D, e1, e2⟩ := q9_sheet F R (by omega) u v w
  refine ⟨_, D, _, e1, q10_sheet F (by omega) u v w, e2, ?_, trivial⟩
  unfold s_sheet
  cases zu u 4 with
  | none => exact h
  | some s =>
    cases zu v 3 with
    | none => exact h
    | some f =>
      rw [zo_S, zo_S]
      split
      · cases zu w 61 with
        | none => exact ok_fnd h
        | some n => exact ok_A (by decide) (ok_A (by decide) (ok_A (by decide) (ok_A (by decide) h)))
      · exact h
theorem pr_lose (u : Int32) (R : R9 C S) (h : ok10 S) (hF : 2000 ≤ F) : Pr Tt (pX9_lose F u C) (pX10_lose F u S) := by
  obtain ⟨D, e1, e2⟩ := q9_lose F R u
  refine ⟨_, D, _, e1, q10_lose F R.2.2.1.1 u, e2, ?_, trivial⟩
  unfold s_lose
  cases zu u 4 with
  | none => exact h
  | some s =>
    rw [zo_S]
    split
    · exact ok_A (by decide) h
    · exact ok_fnd h
theorem pr_put (u v w x : Int32) (R : R9 C S) (h : ok10 S) (hF : 2000 ≤ F) : Pr Tt (pX9_put F u v w x C) (pX10_put F u v w x S) := by
  obtain ⟨D, e1, e2⟩ := q9_put F R u v w x
  refine ⟨_, D, _, e1, q10_put F R.2.2.1.1 u v w x, e2, ?_, trivial⟩
  unfold s_put
  cases zu u 4 with
  | none => exact h
  | some s =>
    cases zu v 3 with
    | none => exact h
    | some f =>
      rw [zo_S, zo_S]
      split
      · exact ok_A (by decide) h
      · exact ok_fnd h
theorem pr_get (u v w : Int32) (R : R9 C S) (h : ok10 S) (hF : 2000 ≤ F) : Pr Tt (pX9_get F u v w C) (pX10_get F u v w S) := by
  obtain ⟨D, e1, e2⟩ := q9_get F R u v w
  refine ⟨_, D, _, e1, q10_get F R.2.2.1.1 u v w, e2, ?_, trivial⟩
  unfold s_get
  cases zu u 4 with
  | none => exact h
  | some s =>
    cases zu v 3 with
    | none => exact h
    | some f =>
      rw [zo_S, zo_S]
      split
      · exact h
      · exact ok_fnd h
theorem pr_copy (u0 u1 u2 u3 u4 : Int32) (R : R9 C S) (h : ok10 S) (hF : 2000 ≤ F) : Pr Tt (pX9_copy F u0 u1 u2 u3 u4 C) (pX10_copy F u0 u1 u2 u3 u4 S) := by
  obtain ⟨D, e1, e2⟩ := q9_copy F R u0 u1 u2 u3 u4
  refine ⟨_, D, _, e1, q10_copy F R.2.2.1.1 (by omega) u0 u1 u2 u3 u4, e2, ?_, trivial⟩
  unfold s_copy
  cases zu u0 4 with
  | none => exact h
  | some s =>
    cases zu u2 4 with
    | none => exact h
    | some t =>
      rw [zo_S, zo_S]
      split
      · split
        · split
          · exact ok_A (by decide) (ok_A (by decide) h)
          · exact ok_fnd h
        · exact ok_fnd h
      · exact ok_fnd h
theorem pr_write (u : Int32) (R : R9 C S) (h : ok10 S) (hF : 2000 ≤ F) : Pr Tt (pX9_write F u C) (pX10_write F u S) := by
  obtain ⟨D, e1, e2⟩ := q9_write F h R (by omega) u
  obtain ⟨T, f1, f2⟩ := q10_write F h R.2.2.1.1 (by omega) u
  refine ⟨_, D, T, e1, f1, sm_R9 f2 e2, sm_ok f2 ?_, trivial⟩
  unfold s_write
  cases zu u 4 with
  | none => exact h
  | some s =>
    rw [zo_S]
    split
    · exact ok_A (by decide) h
    · exact ok_fnd h
end PR
