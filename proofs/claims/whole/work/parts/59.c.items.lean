/-! items of sheets -/
def hsI (u n : Int32) (sz : Nat) : Bool := decide (0 ≤ u.toInt ∧ 0 ≤ n.toInt ∧ u.toInt + n.toInt ≤ (sz : Int))
theorem q5_hasItems (F : Nat) (u n l f : Int32) {sz : Nat} (hz : sz ≤ 60) (it : Nat → Int32) : pX5_hasItems F u n l f (nI sz) it = some (zb (hsI u n sz)) := by
  unfold pX5_hasItems hsI
  simp only [zl_lit, zz_lt]
  have e0 : ∀ x : Int32, (x < nI 0) ↔ x.toInt < 0 := fun x => by rw [fa_lt, zl_T (by omega)]; omega
  have e1 : (nI sz < u) ↔ (sz : Int) < u.toInt := by rw [fa_lt, zl_T (by omega)]
  by_cases q1 : u < nI 0
  · rw [if_pos q1, decide_eq_false (by rw [e0] at q1; omega)]; rfl
  · rw [if_neg q1]
    by_cases q2 : n < nI 0
    · rw [if_pos q2, decide_eq_false (by rw [e0] at q2; omega)]; rfl
    · rw [if_neg q2]
      by_cases q3 : nI sz < u
      · rw [if_pos q3, decide_eq_false (by rw [e0] at q2; rw [e1] at q3; omega)]; rfl
      · rw [if_neg q3]
        rw [e0] at q1 q2
        rw [e1] at q3
        have e2 : (nI sz - u).toInt = (sz : Int) - u.toInt := by
          rw [fb_subI (by rw [zl_T (by omega)]; omega) (by rw [zl_T (by omega)]; omega), zl_T (by omega)]
        have e3 : (nI sz - u < n) ↔ (sz : Int) - u.toInt < n.toInt := by rw [fa_lt, e2]
        by_cases q4 : nI sz - u < n
        · rw [if_pos q4, decide_eq_false (by rw [e3] at q4; omega)]; rfl
        · rw [if_neg q4, decide_eq_true (by rw [e3] at q4; omega)]; rfl
theorem hsI_1 (u : Int32) (sz : Nat) : hsI u (nI 1) sz = (zu u sz).isSome := by
  unfold hsI; rw [zu_b, decide_eq_decide, zl_T (by omega)]; omega
def cLk (th : Bool) (fm f sz : Nat) (u : Int32) : Nat := if th then (if f = fm then (if (zu u sz).isSome then 0 else 2) else 3) else 1
theorem cLk_le (th : Bool) (fm f sz : Nat) (u : Int32) : cLk th fm f sz u ≤ 3 := by
  unfold cLk; split <;> (try split) <;> (try split) <;> omega
theorem q5_findingOf (F : Nat) {fm f sz : Nat} (th : Bool) (u : Int32) (it : Nat → Int32) (hf : f ≤ 2) (hm : fm ≤ 2) (hz : sz ≤ 60) : pX5_findingOf F (nI f) u (zb (!th)) (nI fm) (nI sz) it = some (nI (cLk th fm f sz u)) := by
  unfold pX5_findingOf cLk
  simp only [zl_lit, zz_lt]
  rw [q5_hasItems F _ _ _ _ hz, hsI_1]
  simp (disch := omega) only [zz_b1, zb0, nI_eq]
  cases th
  · rw [if_neg (by decide), if_neg (by decide)]
  · rw [if_pos (by decide), if_pos rfl]
    by_cases q : f = fm
    · rw [if_pos q, if_pos q]
      cases (zu u sz).isSome <;> rfl
    · rw [if_neg q, if_neg q]
theorem q10_lacks (F : Nat) {S : zz_M} {s f : Nat} (hk : hk10 S) (hs : s < 4) (hf : f ≤ 2) (u : Int32) : pX10_lacks F (nI s) (nI f) u S = some (nI (cLk (cTh S s) (cFm S s) f (cSz S s) u)) := by
  obtain ⟨k1, k2, k3, k4, k5⟩ := hk s hs
  unfold pX10_lacks cLk
  simp only [zz_lt, zl_lit]
  simp (disch := omega) only [zl_in, nI_clamp, k1, k2, k4, zb0, nI_eq]
  simp only [if_pos hs]
  rw [q10_inM F u (by omega)]
  simp only [zz_b1, zb0]
  cases cTh S s
  · rfl
  · rw [if_neg (by decide), if_pos rfl]
    by_cases q : f = cFm S s
    · rw [if_pos q.symm, if_pos q]
      cases (zu u (cSz S s)).isSome <;> rfl
    · rw [if_neg (fun z => q z.symm), if_neg q]
def cut (fm : Nat) (v : Int32) : Int32 := if fm = 0 then v.toInt8.toInt32 else if fm = 1 then v.toInt16.toInt32 else v
theorem q10_keep (F : Nat) {S : zz_M} {s i : Nat} (hk : hk10 S) (hs : s < 4) (hi : i < 60) (v : Int32) : pX10_keep F (nI s) (nI i) v S = some (zz_sA S 18 (upd (zz_gA S 18) (60 * s + i) (cut (cFm S s) v))) := by
  obtain ⟨k1, k2, k3, k4, k5⟩ := hk s hs
  unfold pX10_keep cut
  simp only [zz_lt, zl_lit]
  simp (disch := omega) only [zl_in, nI_clamp, k2, nI_eq, pk_mul, nI_add]
  simp only [if_pos hs, if_pos (show 60 * s + i < 240 by omega)]
  by_cases q : cFm S s = 0
  · rw [if_pos q, if_pos q]
  · rw [if_neg q, if_neg q]
    by_cases q1 : cFm S s = 1
    · rw [if_pos q1, if_pos q1]
    · rw [if_neg q1, if_neg q1]
theorem q5_store (F : Nat) {fm sz i : Nat} (l v : Int32) (it : Nat → Int32) (hi : i < sz) (hm : fm ≤ 2) (hz : sz ≤ 60) : pX5_store F (nI i) v l (nI fm) (nI sz) it = some (upd it i (cut fm v)) := by
  unfold pX5_store cut
  simp only [zl_lit, zz_lt]
  rw [q5_hasItems F _ _ _ _ hz, hsI_1, zu_nI hi (by omega)]
  simp (disch := omega) only [zz_b1, zb0, zl_in, nI_clamp, nI_eq, Option.isSome]
  rw [if_neg (by decide), if_pos (by omega)]
/-! an item written -/
def a_put (S : zz_M) (u v w : Int32) : Int32 := zo (-nI 2) (fun s => zo (-nI 2) (fun f => if cLk (cTh S s) (cFm S s) f (cSz S s) w = 0 then nI 1 else a_fnd (cLk (cTh S s) (cFm S s) f (cSz S s) w)) (zu v 3)) (zu u 4)
def puS (S : zz_M) (s : Nat) (w x : Int32) : zz_M := zz_sA S 18 (upd (zz_gA S 18) (60 * s + w.toNatClampNeg) (cut (cFm S s) x))
def s_put (S : zz_M) (u v w x : Int32) : zz_M := zo S (fun s => zo S (fun f => if cLk (cTh S s) (cFm S s) f (cSz S s) w = 0 then puS S s w x else zz_sI S 13 (nI (cLk (cTh S s) (cFm S s) f (cSz S s) w))) (zu v 3)) (zu u 4)
theorem cLk_0 {th : Bool} {fm f sz : Nat} {w : Int32} (h : cLk th fm f sz w = 0) : th = true ∧ f = fm ∧ ∃ i, i < sz ∧ w = nI i := by
  unfold cLk at h
  split at h
  · rename_i q
    split at h
    · rename_i q2
      split at h
      · rename_i q3
        obtain ⟨i, hi⟩ := Option.isSome_iff_exists.mp q3
        obtain ⟨h1, h2⟩ := zu_S hi
        exact ⟨q, q2, i, h1, h2⟩
      · omega
    · omega
  · omega
theorem q10_put (F : Nat) {S : zz_M} (hk : hk10 S) (u v w x : Int32) : pX10_put F u v w x S = some (a_put S u v w, s_put S u v w x) := by
  unfold pX10_put a_put s_put
  simp only [zl_lit, zz_lt]
  rw [q10_isSheet, q10_inN F v (by omega)]
  simp only [zz_b1, zb0]
  cases q : zu u 4 with
  | none => rfl
  | some s =>
    cases q2 : zu v 3 with
    | none => rfl
    | some f =>
      obtain ⟨h1, h2⟩ := zu_S q
      obtain ⟨h3, h4⟩ := zu_S q2
      subst h2 h4
      simp only [Option.isSome, zo_S]
      rw [if_neg (by decide), if_neg (by decide), q10_lacks F hk h1 (by omega)]
      have hl := cLk_le (cTh S s) (cFm S s) f (cSz S s) w
      simp only [q10_meets]
      by_cases q0 : cLk (cTh S s) (cFm S s) f (cSz S s) w = 0
      · obtain ⟨-, -, i, hi, rfl⟩ := cLk_0 q0
        have := (hk s h1).2.2.2.2
        rw [q0, if_pos (by decide), if_pos rfl, if_pos rfl, q10_keep F hk h1 (by omega)]
        unfold puS
        rw [nI_clamp (by omega)]
      · rw [if_neg (nI_ge (by omega) (by omega)), if_neg q0, if_neg q0]; rfl
theorem q9_putG (F : Nat) {s f : Nat} (hs : s < 4) (hf : f < 3) (w x : Int32) (C : zz_M) : pX9_put F (nI s) (nI f) w x C = zz_b1 (pX5_findingOf F (nI f) w (zz_gI C (8 + 3 * s)) (zz_gI C (9 + 3 * s)) (zz_gI C (10 + 3 * s)) (zz_gA C (11 + s))) (fun r6 => if r6 = nI 0 then zz_b1 (pX5_store F w x (zz_gI C (8 + 3 * s)) (zz_gI C (9 + 3 * s)) (zz_gI C (10 + 3 * s)) (zz_gA C (11 + s))) (fun f8 => some (nI 1, zz_sA C (11 + s) f8)) else zz_b2 (pX9_found F r6 C) (fun r11 S12 => some (r11, S12))) := by
  unfold pX9_put
  rw [q9_isSheet, zu_nI hs (by omega), q5_isForm, zu_nI hf (by omega)]
  rcases (show s = 0 ∨ s = 1 ∨ s = 2 ∨ s = 3 by omega) with rfl | rfl | rfl | rfl <;> rfl
theorem R9_it {C S : zz_M} {s : Nat} {z w : Nat → Int32} (R : R9 C S) (hs : s < 4) (h1 : ∀ i, i < 60 → z i = w (60 * s + i)) (h2 : ∀ j, j < 60 * s ∨ 60 * s + 60 ≤ j → w j = zz_gA S 18 j) : R9 (zz_sA C (11 + s) z) (zz_sA S 18 w) := by
  obtain ⟨r, m, h, v⟩ := R
  refine ⟨r9_kh (kh_A (kh_rfl C) (by omega)) (have q := r; q), ?_, ?_, v⟩
  · obtain ⟨m1, m2, m3⟩ := m
    have e9 : zz_gA (zz_sA C (11 + s) z) 9 = zz_gA C 9 := by rw [zg_AA, if_neg (by omega)]
    have e10 : zz_gA (zz_sA C (11 + s) z) 10 = zz_gA C 10 := by rw [zg_AA, if_neg (by omega)]
    exact ⟨m1, m2, fun j hj => by rw [e9, e10]; exact m3 j hj⟩
  · obtain ⟨k1, k2, k3, k4⟩ := h.2 s hs
    obtain ⟨g1, g2, g3, g4, g5⟩ := h.1 s hs
    have eP : zz_gA (zz_sA S 18 w) 18 = w := by rw [zg_AA, if_pos rfl]
    refine h9_up (s := s) (th := cTh S s) (fm := cFm S s) (sz := cSz S s) hs h g3 g5 k1 k2 k3 (fun i hi => ?_) (fun s' a b => ⟨rfl, rfl, rfl, ?_⟩) g1 g2 g4 (fun s' a b => ⟨rfl, rfl, rfl, fun i hi => ?_⟩)
    · rw [zg_AA, if_pos rfl, eP]; exact h1 i hi
    · rw [zg_AA, if_neg (by omega)]
    · rw [eP]; exact h2 _ (by omega)
theorem q9_put (F : Nat) {C S : zz_M} (R : R9 C S) (u v w x : Int32) : ∃ D, pX9_put F u v w x C = some (a_put S u v w, D) ∧ R9 D (s_put S u v w x) := by
  unfold a_put s_put
  cases q : zu u 4 with
  | none =>
    refine ⟨C, ?_, R⟩
    unfold pX9_put; rw [q9_isSheet, q]; rfl
  | some s =>
    cases q2 : zu v 3 with
    | none =>
      refine ⟨C, ?_, R⟩
      unfold pX9_put; rw [q9_isSheet, q, q5_isForm, q2]; rfl
    | some f =>
      obtain ⟨h1, h2⟩ := zu_S q
      obtain ⟨h3, h4⟩ := zu_S q2
      subst h2 h4
      have R' := R
      obtain ⟨r, m, h, v'⟩ := R'
      obtain ⟨k1, k2, k3, k4⟩ := h.2 s h1
      obtain ⟨g1, g2, g3, g4, g5⟩ := h.1 s h1
      rw [q9_putG F h1 h3, k1, k2, k3, q5_findingOf F _ _ _ (by omega) g3 g5, zo_S, zo_S, zo_S, zo_S]
      have hl := cLk_le (cTh S s) (cFm S s) f (cSz S s) w
      simp only [zz_b1]
      by_cases q0 : cLk (cTh S s) (cFm S s) f (cSz S s) w = 0
      · obtain ⟨-, -, i, hi, rfl⟩ := cLk_0 q0
        rw [q0, if_pos rfl, if_pos rfl, if_pos rfl, q5_store F _ _ _ hi g3 g5]
        refine ⟨_, rfl, ?_⟩
        unfold puS
        rw [nI_clamp (by omega)]
        refine R9_it R h1 (fun j hj => ?_) (fun j hj => ?_)
        · by_cases qj : j = i
          · subst qj; rw [pk_us, pk_us]
          · rw [pk_un qj, pk_un (by omega)]; exact k4 j hj
        · rw [pk_un (by omega)]
      · rw [if_neg (fun z => q0 ((nI_eq (by omega) (by omega)).mp z)), if_neg q0, if_neg q0, q9_found]
        exact ⟨_, rfl, R9_fnd R _⟩
/-! an item read -/
def lstI : Int32 := -nI 2147483648
def a_get (S : zz_M) (u v w : Int32) : Int32 := zo lstI (fun s => zo lstI (fun f => if cLk (cTh S s) (cFm S s) f (cSz S s) w = 0 then zz_gA S 18 (60 * s + w.toNatClampNeg) else lstI) (zu v 3)) (zu u 4)
def s_get (S : zz_M) (u v w : Int32) : zz_M := zo S (fun s => zo S (fun f => if cLk (cTh S s) (cFm S s) f (cSz S s) w = 0 then S else zz_sI S 13 (nI (cLk (cTh S s) (cFm S s) f (cSz S s) w))) (zu v 3)) (zu u 4)
theorem q10_get (F : Nat) {S : zz_M} (hk : hk10 S) (u v w : Int32) : pX10_get F u v w S = some (a_get S u v w, s_get S u v w) := by
  unfold pX10_get a_get s_get
  simp only [zl_lit, zz_lt]
  rw [q10_isSheet, q10_inN F v (by omega)]
  simp only [zz_b1, zb0]
  cases q : zu u 4 with
  | none => rfl
  | some s =>
    cases q2 : zu v 3 with
    | none => rfl
    | some f =>
      obtain ⟨h1, h2⟩ := zu_S q
      obtain ⟨h3, h4⟩ := zu_S q2
      subst h2 h4
      simp only [Option.isSome, zo_S]
      rw [if_neg (by decide), if_neg (by decide), q10_lacks F hk h1 (by omega)]
      have hl := cLk_le (cTh S s) (cFm S s) f (cSz S s) w
      simp only
      by_cases q0 : cLk (cTh S s) (cFm S s) f (cSz S s) w = 0
      · obtain ⟨-, -, i, hi, rfl⟩ := cLk_0 q0
        have := (hk s h1).2.2.2.2
        rw [q0, if_pos (by decide), if_pos rfl, if_pos rfl]
        simp (disch := omega) only [pk_mul, nI_add, zl_in, nI_clamp]
        rw [if_pos (by omega)]
      · rw [if_neg (nI_ge (by omega) (by omega)), if_neg q0, if_neg q0]; rfl
theorem q9_getG (F : Nat) {s f : Nat} (hs : s < 4) (hf : f < 3) (w : Int32) (C : zz_M) : pX9_get F (nI s) (nI f) w C = zz_b1 (pX5_findingOf F (nI f) w (zz_gI C (8 + 3 * s)) (zz_gI C (9 + 3 * s)) (zz_gI C (10 + 3 * s)) (zz_gA C (11 + s))) (fun r6 => if r6 = nI 0 then (if zz_in w 60 then some (zz_gA C (11 + s) w.toNatClampNeg, C) else none) else some (lstI, zz_sI C 24 r6)) := by
  unfold pX9_get
  rw [q9_isSheet, zu_nI hs (by omega), q5_isForm, zu_nI hf (by omega)]
  rcases (show s = 0 ∨ s = 1 ∨ s = 2 ∨ s = 3 by omega) with rfl | rfl | rfl | rfl <;> rfl
theorem q9_get (F : Nat) {C S : zz_M} (R : R9 C S) (u v w : Int32) : ∃ D, pX9_get F u v w C = some (a_get S u v w, D) ∧ R9 D (s_get S u v w) := by
  unfold a_get s_get
  cases q : zu u 4 with
  | none =>
    refine ⟨C, ?_, R⟩
    unfold pX9_get; rw [q9_isSheet, q]; rfl
  | some s =>
    cases q2 : zu v 3 with
    | none =>
      refine ⟨C, ?_, R⟩
      unfold pX9_get; rw [q9_isSheet, q, q5_isForm, q2]; rfl
    | some f =>
      obtain ⟨h1, h2⟩ := zu_S q
      obtain ⟨h3, h4⟩ := zu_S q2
      subst h2 h4
      have R' := R
      obtain ⟨r, m, h, v'⟩ := R'
      obtain ⟨k1, k2, k3, k4⟩ := h.2 s h1
      obtain ⟨g1, g2, g3, g4, g5⟩ := h.1 s h1
      rw [q9_getG F h1 h3, k1, k2, k3, q5_findingOf F _ _ _ (by omega) g3 g5, zo_S, zo_S, zo_S, zo_S]
      have hl := cLk_le (cTh S s) (cFm S s) f (cSz S s) w
      simp only [zz_b1]
      by_cases q0 : cLk (cTh S s) (cFm S s) f (cSz S s) w = 0
      · obtain ⟨-, -, i, hi, rfl⟩ := cLk_0 q0
        rw [q0, if_pos rfl, if_pos rfl, if_pos rfl, if_pos ((zl_in (show i < 2 ^ 31 by omega)).mpr (by omega)), nI_clamp (by omega), k4 i (by omega)]
        exact ⟨C, rfl, R⟩
      · rw [if_neg (fun z => q0 ((nI_eq (by omega) (by omega)).mp z)), if_neg q0, if_neg q0]
        exact ⟨_, rfl, R9_fnd R _⟩
