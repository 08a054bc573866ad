/-! sheets -/
theorem q10_isSheet (F : Nat) (u : Int32) : pX10_isSheet F u = some (zb (zu u 4).isSome) := by
  unfold pX10_isSheet
  simp only [zl_lit]
  rw [q10_inN F u (by omega)]
  simp only [zz_b1, zb1', if_true]
theorem q9_isSheet (F : Nat) (u : Int32) (C : zz_M) : pX9_isSheet F u C = some (zb (zu u 4).isSome) := by
  unfold pX9_isSheet
  simp only [zl_lit, zz_lt]
  rw [q9_rng (by omega)]
  cases (zu u 4).isSome <;> rfl
theorem q5_isForm (F : Nat) (u : Int32) : pX5_isForm F u = some (zb (zu u 3).isSome) := by
  unfold pX5_isForm
  simp only [zl_lit, zz_lt]
  rw [q9_rng4 (N := 2) (by omega)]
  cases (zu u 3).isSome <;> rfl
def a_fnd (k : Nat) : Int32 := -nI 10 - nI k
theorem q10_meets (F : Nat) (k : Nat) (S : zz_M) : pX10_meets F (nI k) S = some (a_fnd k, zz_sI S 13 (nI k)) := rfl
theorem q9_found (F : Nat) (k : Nat) (C : zz_M) : pX9_found F (nI k) C = some (a_fnd k, zz_sI C 24 (nI k)) := rfl
theorem R9_fnd {C S : zz_M} (R : R9 C S) (x : Int32) : R9 (zz_sI C 24 x) (zz_sI S 13 x) := by
  have k : kh C (zz_sI C 24 x) := kh_I (kh_rfl C) (by decide)
  obtain ⟨r, m, h, v⟩ := R
  refine ⟨r9_kh k (have z := r; z), (have z := m; z), ⟨h.1, fun s hs => ?_⟩, rfl⟩
  rw [zg_II, if_neg (by omega), zg_II, if_neg (by omega), zg_II, if_neg (by omega)]
  exact h.2 s hs
theorem h9_up {C D S T : zz_M} {s fm sz : Nat} {th : Bool} (hs : s < 4) (k : h9 C S) (hf : fm ≤ 2) (hz : sz ≤ 60)
    (c1 : zz_gI D (8 + 3 * s) = zb (!th)) (c2 : zz_gI D (9 + 3 * s) = nI fm) (c3 : zz_gI D (10 + 3 * s) = nI sz) (c4 : ∀ i, i < 60 → zz_gA D (11 + s) i = zz_gA T 18 (60 * s + i))
    (d1 : ∀ s', s' < 4 → s' ≠ s → zz_gI D (8 + 3 * s') = zz_gI C (8 + 3 * s') ∧ zz_gI D (9 + 3 * s') = zz_gI C (9 + 3 * s') ∧ zz_gI D (10 + 3 * s') = zz_gI C (10 + 3 * s') ∧ zz_gA D (11 + s') = zz_gA C (11 + s'))
    (t1 : zz_gA T 15 s = zb th) (t2 : zz_gA T 16 s = nI fm) (t3 : zz_gA T 17 s = nI sz)
    (e1 : ∀ s', s' < 4 → s' ≠ s → zz_gA T 15 s' = zz_gA S 15 s' ∧ zz_gA T 16 s' = zz_gA S 16 s' ∧ zz_gA T 17 s' = zz_gA S 17 s' ∧ ∀ i, i < 60 → zz_gA T 18 (60 * s' + i) = zz_gA S 18 (60 * s' + i)) : h9 D T := by
  have x1 : cTh T s = th := by unfold cTh; rw [t1]; cases th <;> rfl
  have x2 : cFm T s = fm := by unfold cFm; rw [t2, nI_clamp (by omega)]
  have x3 : cSz T s = sz := by unfold cSz; rw [t3, nI_clamp (by omega)]
  have y : ∀ s', s' < 4 → s' ≠ s → cTh T s' = cTh S s' ∧ cFm T s' = cFm S s' ∧ cSz T s' = cSz S s' := fun s' h1 h2 => by
    obtain ⟨a1, a2, a3, -⟩ := e1 s' h1 h2
    unfold cTh cFm cSz; rw [a1, a2, a3]; exact ⟨rfl, rfl, rfl⟩
  refine ⟨fun s' h1 => ?_, fun s' h1 => ?_⟩
  · by_cases q : s' = s
    · subst q; rw [x1, x2, x3]; exact ⟨t1, t2, hf, t3, hz⟩
    · obtain ⟨a1, a2, a3, -⟩ := e1 s' h1 q
      obtain ⟨b1, b2, b3⟩ := y s' h1 q
      rw [a1, a2, a3, b1, b2, b3]; exact k.1 s' h1
  · by_cases q : s' = s
    · subst q; rw [x1, x2, x3]; exact ⟨c1, c2, c3, c4⟩
    · obtain ⟨a1, a2, a3, a4⟩ := e1 s' h1 q
      obtain ⟨b1, b2, b3⟩ := y s' h1 q
      obtain ⟨f1, f2, f3, f4⟩ := d1 s' h1 q
      obtain ⟨k1, k2, k3, k4⟩ := k.2 s' h1
      rw [f1, f2, f3, f4, b1, b2, b3]
      exact ⟨k1, k2, k3, fun i hi => by rw [a4 i hi]; exact k4 i hi⟩
/-! a sheet is lost -/
def a_lose (S : zz_M) (u : Int32) : Int32 := zo (-nI 2) (fun s => if cTh S s then nI (cSz S s) else a_fnd 1) (zu u 4)
def s_lose (S : zz_M) (u : Int32) : zz_M := zo S (fun s => if cTh S s then zz_sA S 15 (upd (zz_gA S 15) s (nI 0)) else zz_sI S 13 (nI 1)) (zu u 4)
theorem q10_lose (F : Nat) {S : zz_M} (hk : hk10 S) (u : Int32) : pX10_lose F u S = some (a_lose S u, s_lose S u) := by
  unfold pX10_lose a_lose s_lose
  simp only [zl_lit, zz_lt]
  rw [q10_isSheet, q10_meets]
  simp only [zz_b1, zz_b2, zb0]
  cases q : zu u 4 with
  | none => rfl
  | some s =>
    obtain ⟨h1, h2⟩ := zu_S q
    subst h2
    obtain ⟨k1, k2, k3, k4, k5⟩ := hk s h1
    simp (disch := omega) only [zl_in, nI_clamp, Option.isSome, zo_S, k1, zb0]
    rw [if_neg (by decide)]
    simp only [if_pos h1]
    rw [show ∀ x, zz_gA (zz_sA S 15 x) 17 = zz_gA S 17 from fun _ => rfl, k4, show vp_nar .boolean (nI 0) = nI 0 from zb_n false]
    cases cTh S s <;> rfl
theorem q9_loseG (F : Nat) {s : Nat} (hs : s < 4) (C : zz_M) : pX9_lose F (nI s) C = if zz_gI C (8 + 3 * s) = nI 0 then some (zz_gI (zz_sI C (8 + 3 * s) (nI 1)) (10 + 3 * s), zz_sI C (8 + 3 * s) (nI 1)) else some (a_fnd 1, zz_sI C 24 (nI 1)) := by
  unfold pX9_lose
  rw [q9_isSheet, zu_nI hs (by omega)]
  rcases (show s = 0 ∨ s = 1 ∨ s = 2 ∨ s = 3 by omega) with rfl | rfl | rfl | rfl <;> rfl
theorem q9_lose (F : Nat) {C S : zz_M} (R : R9 C S) (u : Int32) : ∃ D, pX9_lose F u C = some (a_lose S u, D) ∧ R9 D (s_lose S u) := by
  unfold a_lose s_lose
  cases q : zu u 4 with
  | none =>
    refine ⟨C, ?_, R⟩
    unfold pX9_lose; rw [q9_isSheet, q]; rfl
  | some s =>
    obtain ⟨h1, h2⟩ := zu_S q
    subst h2
    obtain ⟨r, m, h, v⟩ := R
    obtain ⟨k1, k2, k3, k4⟩ := h.2 s h1
    obtain ⟨g1, g2, g3, g4, g5⟩ := h.1 s h1
    rw [q9_loseG F h1, k1, zo_S, zo_S]
    cases qt : cTh S s
    · rw [if_neg (by decide), if_neg (by decide), if_neg (by decide)]
      exact ⟨_, rfl, R9_fnd ⟨r, m, h, v⟩ _⟩
    · rw [if_pos (by decide), if_pos rfl, if_pos rfl, zg_II, if_neg (by omega), k3]
      refine ⟨_, rfl, r9_kh (kh_I (kh_rfl C) (by omega)) (have z := r; z), ?_, ?_, ?_⟩
      · obtain ⟨m1, m2, m3⟩ := m
        exact ⟨m1, by rw [zg_II, if_neg (by omega)]; exact m2, m3⟩
      · refine h9_up (s := s) (th := false) h1 h g3 g5 (by rw [zg_II, if_pos rfl]; rfl) (by rw [zg_II, if_neg (by omega)]; exact k2) (by rw [zg_II, if_neg (by omega)]; exact k3) k4 (fun s' a b => ⟨by rw [zg_II, if_neg (by omega)], by rw [zg_II, if_neg (by omega)], by rw [zg_II, if_neg (by omega)], rfl⟩) (by rw [zg_AA, if_pos rfl, pk_us]; rfl) g2 g4 (fun s' a b => ⟨by rw [zg_AA, if_pos rfl, pk_un b], rfl, rfl, fun i hi => rfl⟩)
      · show zz_gI (zz_sI C (8 + 3 * s) (nI 1)) 24 = zz_gI S 13
        rw [zg_II, if_neg (by omega)]; exact v
/-! a new sheet -/
def shS (S : zz_M) (s f n : Nat) : zz_M := zz_sA (zz_sA (zz_sA (zz_sA S 15 (upd (zz_gA S 15) s (nI 1))) 16 (upd (zz_gA S 16) s (nI f))) 17 (upd (zz_gA S 17) s (nI n))) 18 (fb_put (zz_gA S 18) (fun _ => nI 0) (60 * s) 60)
def a_sheet (S : zz_M) (u v w : Int32) : Int32 := zo (-nI 2) (fun _ => zo (-nI 2) (fun _ => if w ≤ nI 60 then zo (a_fnd 5) (fun n => nI n) (zu w 61) else -nI 2) (zu v 3)) (zu u 4)
def s_sheet (S : zz_M) (u v w : Int32) : zz_M := zo S (fun s => zo S (fun f => if w ≤ nI 60 then zo (zz_sI S 13 (nI 5)) (fun n => shS S s f n) (zu w 61) else S) (zu v 3)) (zu u 4)
theorem q10_shL {S : zz_M} {s : Nat} (hs : s < 4) (x : Int32) : ∀ (f m i : Nat), i + m = 60 → m < f →
    pX10_sheet_L59_13 (nI s) x f (nI i) (zz_sA S 18 (fb_put (zz_gA S 18) (fun _ => nI 0) (60 * s) i)) = some (x, zz_sA S 18 (fb_put (zz_gA S 18) (fun _ => nI 0) (60 * s) 60)) := by
  intro f
  induction f with
  | zero => intro m i _ h; omega
  | succ f ih =>
    intro m i hm hf
    rw [pX10_sheet_L59_13]
    simp only [zz_lt]
    simp (disch := omega) only [zl_lit, nI_leI, zl_in, nI_clamp, nI_add, pk_mul]
    cases m with
    | zero => rw [if_pos (by omega), show i = 60 by omega]
    | succ m =>
      rw [if_neg (by omega), if_pos (by omega), zs_AA, show ∀ y, zz_gA (zz_sA S 18 y) 18 = y from fun y => by rw [zg_AA, if_pos rfl]]
      have e := fb_put_succ (zz_gA S 18) (fun _ => nI 0) (60 * s) i
      rw [e]
      exact ih m (i + 1) (by omega) (by omega)
theorem zu_nneg {w : Int32} (h : w ≤ nI 60) : (nI 0 ≤ w) ↔ (zu w 61).isSome = true := by
  rw [fa_le, zl_T (by omega)] at h
  rw [zu_b, fa_le, zl_T (by omega), decide_eq_true_eq]; omega
theorem q10_sheet (F : Nat) {S : zz_M} (hF : 100 ≤ F) (u v w : Int32) : pX10_sheet F u v w S = some (a_sheet S u v w, s_sheet S u v w) := by
  unfold pX10_sheet a_sheet s_sheet
  simp only [zl_lit, zz_lt]
  rw [q10_isSheet, q10_inN F v (by omega), q10_meets]
  simp only [zz_b1, zz_b2, zb0]
  cases q : zu u 4 with
  | none => rfl
  | some s =>
    cases q2 : zu v 3 with
    | none => rfl
    | some f =>
      obtain ⟨h1, h2⟩ := zu_S q
      obtain ⟨h3, h4⟩ := zu_S q2
      subst h2 h4
      simp (disch := omega) only [zl_in, nI_clamp, Option.isSome, zo_S]
      rw [if_neg (by decide), if_neg (by decide)]
      simp only [if_pos h1]
      by_cases q3 : w ≤ nI 60
      · rw [if_pos q3, if_pos q3, if_pos q3]
        cases q4 : zu w 61 with
        | none =>
          rw [if_neg (by rw [zu_nneg q3, q4]; decide)]
          rfl
        | some n =>
          obtain ⟨h5, h6⟩ := zu_S q4
          subst h6
          rw [if_pos (by rw [zu_nneg q3, q4]; rfl), show vp_nar .boolean (nI 1) = nI 1 from zb_n true]
          have e := q10_shL (S := zz_sA (zz_sA (zz_sA S 15 (upd (zz_gA S 15) s (nI 1))) 16 (upd (zz_gA S 16) s (nI f))) 17 (upd (zz_gA S 17) s (nI n))) h1 (nI n) F 60 0 (by omega) (by omega)
          rw [fb_put_0, ss_A] at e
          exact e
      · rw [if_neg q3, if_neg q3, if_neg q3]
theorem q9_sheetG (F : Nat) {s f : Nat} (hs : s < 4) (hf : f < 3) (w : Int32) (C : zz_M) : pX9_sheet F (nI s) (nI f) w C = if w ≤ nI 60 then (if nI 0 ≤ w then zz_b4 (pX5_renew F (nI f) w (zz_gI C (8 + 3 * s)) (zz_gI C (9 + 3 * s)) (zz_gI C (10 + 3 * s)) (zz_gA C (11 + s))) (fun f6 f7 f8 f9 => some (w, zz_sA (zz_sI (zz_sI (zz_sI C (8 + 3 * s) f6) (9 + 3 * s) f7) (10 + 3 * s) f8) (11 + s) f9)) else some (a_fnd 5, zz_sI C 24 (nI 5))) else some (-nI 2, C) := by
  unfold pX9_sheet
  rw [q9_isSheet, zu_nI hs (by omega), q5_isForm, zu_nI hf (by omega)]
  rcases (show s = 0 ∨ s = 1 ∨ s = 2 ∨ s = 3 by omega) with rfl | rfl | rfl | rfl <;> rfl
theorem q9_sheet (F : Nat) {C S : zz_M} (R : R9 C S) (hF : 100 ≤ F) (u v w : Int32) : ∃ D, pX9_sheet F u v w C = some (a_sheet S u v w, D) ∧ R9 D (s_sheet S u v w) := by
  unfold a_sheet s_sheet
  cases q : zu u 4 with
  | none =>
    refine ⟨C, ?_, R⟩
    unfold pX9_sheet; rw [q9_isSheet, q]; rfl
  | some s =>
    cases q2 : zu v 3 with
    | none =>
      refine ⟨C, ?_, R⟩
      unfold pX9_sheet; rw [q9_isSheet, q, q5_isForm, q2]; rfl
    | some f =>
      obtain ⟨h1, h2⟩ := zu_S q
      obtain ⟨h3, h4⟩ := zu_S q2
      subst h2 h4
      rw [q9_sheetG F h1 h3, zo_S, zo_S, zo_S, zo_S]
      by_cases q3 : w ≤ nI 60
      · rw [if_pos q3, if_pos q3, if_pos q3]
        cases q4 : zu w 61 with
        | none =>
          rw [if_neg (by rw [zu_nneg q3, q4]; decide)]
          exact ⟨_, rfl, R9_fnd R _⟩
        | some n =>
          obtain ⟨h5, h6⟩ := zu_S q4
          subst h6
          rw [if_pos (by rw [zu_nneg q3, q4]; rfl)]
          obtain ⟨z, z1, z2⟩ := qJ_fill F (N := 60) (by omega) (nI 0) (zz_gA C (11 + s)) hF
          unfold pX5_renew
          simp only [zl_lit, zz_lt]
          rw [z1, if_neg (nI_nlt (by omega) (by omega))]
          simp only [zz_b1, zz_b4]
          obtain ⟨r, m, h, v'⟩ := R
          refine ⟨_, rfl, r9_kh (kh_A (kh_I (kh_I (kh_I (kh_rfl C) (by omega)) (by omega)) (by omega)) (by omega)) (have z := r; z), ?_, ?_, ?_⟩
          · obtain ⟨m1, m2, m3⟩ := m
            refine ⟨m1, ?_, fun j hj => ?_⟩
            · rw [zg_IA, zg_II, if_neg (by omega), zg_II, if_neg (by omega), zg_II, if_neg (by omega)]; exact m2
            · rw [zg_AA, if_neg (by omega), zg_AI, zg_AI, zg_AI, zg_AA, if_neg (by omega), zg_AI, zg_AI, zg_AI]; exact m3 j hj
          · have eP : zz_gA (zo (zz_sI S 13 (nI 5)) (fun n => shS S s f n) (some n)) 18 = fb_put (zz_gA S 18) (fun _ => nI 0) (60 * s) 60 := rfl
            refine h9_up (s := s) (th := true) (fm := f) (sz := n) h1 h (by omega) (by omega) ?_ ?_ ?_ (fun i hi => ?_) (fun s' a b => ⟨?_, ?_, ?_, ?_⟩) ?_ ?_ ?_ (fun s' a b => ⟨?_, ?_, ?_, fun i hi => ?_⟩)
            · rw [zg_IA, zg_II, if_neg (by omega), zg_II, if_neg (by omega), zg_II, if_pos rfl]; rfl
            · rw [zg_IA, zg_II, if_neg (by omega), zg_II, if_pos rfl]
            · rw [zg_IA, zg_II, if_pos rfl]
            · rw [zg_AA, if_pos rfl, eP, fb_put_in (by omega) (by omega)]; exact z2 i hi
            · rw [zg_IA, zg_II, if_neg (by omega), zg_II, if_neg (by omega), zg_II, if_neg (by omega)]
            · rw [zg_IA, zg_II, if_neg (by omega), zg_II, if_neg (by omega), zg_II, if_neg (by omega)]
            · rw [zg_IA, zg_II, if_neg (by omega), zg_II, if_neg (by omega), zg_II, if_neg (by omega)]
            · rw [zg_AA, if_neg (by omega), zg_AI, zg_AI, zg_AI]
            · show upd (zz_gA S 15) s (nI 1) s = _; rw [pk_us]; rfl
            · show upd (zz_gA S 16) s (nI f) s = _; rw [pk_us]
            · show upd (zz_gA S 17) s (nI n) s = _; rw [pk_us]
            · show upd (zz_gA S 15) s (nI 1) s' = _; rw [pk_un b]
            · show upd (zz_gA S 16) s (nI f) s' = _; rw [pk_un b]
            · show upd (zz_gA S 17) s (nI n) s' = _; rw [pk_un b]
            · rw [eP, fb_put_out (by omega)]
          · show zz_gI (zz_sA (zz_sI (zz_sI (zz_sI C (8 + 3 * s) (nI 0)) (9 + 3 * s) (nI f)) (10 + 3 * s) (nI n)) (11 + s) z) 24 = zz_gI S 13
            rw [zg_IA, zg_II, if_neg (by omega), zg_II, if_neg (by omega), zg_II, if_neg (by omega)]; exact v'
      · rw [if_neg q3, if_neg q3, if_neg q3]
        exact ⟨C, rfl, R⟩
