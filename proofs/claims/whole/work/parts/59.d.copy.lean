/-! items copied -/
def cpS (S : zz_M) (s i t j n : Nat) : zz_M := zz_sA (zz_sA S 19 (fb_put (zz_gA S 19) (fun k => zz_gA S 18 (60 * s + i + k)) 0 n)) 18 (fb_put (zz_gA S 18) (fun k => zz_gA S 18 (60 * s + i + k)) (60 * t + j) n)
def a_copy (S : zz_M) (u0 u1 u2 u3 u4 : Int32) : Int32 := zo (-nI 2) (fun s => zo (-nI 2) (fun t => if (cTh S s && cTh S t) = true then (if cFm S s = cFm S t then (if (hsI u1 u4 (cSz S s) && hsI u3 u4 (cSz S t)) = true then nI 1 else a_fnd 2) else a_fnd 4) else a_fnd 1) (zu u2 4)) (zu u0 4)
def s_copy (S : zz_M) (u0 u1 u2 u3 u4 : Int32) : zz_M := zo S (fun s => zo S (fun t => if (cTh S s && cTh S t) = true then (if cFm S s = cFm S t then (if (hsI u1 u4 (cSz S s) && hsI u3 u4 (cSz S t)) = true then cpS S s u1.toNatClampNeg t u3.toNatClampNeg u4.toNatClampNeg else zz_sI S 13 (nI 2)) else zz_sI S 13 (nI 4)) else zz_sI S 13 (nI 1)) (zu u2 4)) (zu u0 4)
theorem hsI_nI {i n sz : Nat} (hi : i < 2 ^ 31) (hn : n < 2 ^ 31) : hsI (nI i) (nI n) sz = decide (i + n ≤ sz) := by
  unfold hsI; rw [zl_T hi, zl_T hn, decide_eq_decide]; omega
theorem hsI_S {u n : Int32} {sz : Nat} (hz : sz ≤ 60) (h : hsI u n sz = true) : ∃ i m, u = nI i ∧ n = nI m ∧ i + m ≤ sz := by
  unfold hsI at h
  rw [decide_eq_true_eq] at h
  refine ⟨u.toInt.toNat, n.toInt.toNat, ?_, ?_, by omega⟩
  · rw [fa_eq, zl_T (by omega)]; omega
  · rw [fa_eq, zl_T (by omega)]; omega
theorem q10_cpL2 {X : zz_M} {t j n : Nat} {g : Nat → Int32} {w0 : Nat → Int32} (ht : t < 4) (hj : j + n ≤ 60) (hg : ∀ k, k < n → zz_gA X 19 k = g k) : ∀ (f m k : Nat), k + m = n → m < f →
    pX10_copy_L157_24 (nI t) (nI j) (nI n) f (nI k) (zz_sA X 18 (fb_put w0 g (60 * t + j) k)) = some (nI 1, zz_sA X 18 (fb_put w0 g (60 * t + j) n)) := by
  intro f
  induction f with
  | zero => intro m k _ h; omega
  | succ f ih =>
    intro m k hm hf
    rw [pX10_copy_L157_24]
    simp only [zz_lt]
    simp (disch := omega) only [zl_lit, nI_leI, zl_in, nI_clamp, nI_add, pk_mul]
    cases m with
    | zero => rw [if_pos (by omega), show k = n by omega]
    | succ m =>
      rw [if_neg (by omega), if_pos (by omega), if_pos (by omega), zs_AA, show zz_gA (zz_sA X 18 (fb_put w0 g (60 * t + j) k)) 18 = fb_put w0 g (60 * t + j) k from by rw [zg_AA, if_pos rfl], show zz_gA (zz_sA X 18 (fb_put w0 g (60 * t + j) k)) 19 = zz_gA X 19 from rfl, hg k (by omega), fb_put_succ]
      exact ih m (k + 1) (by omega) (by omega)
theorem q10_cpL1 (F : Nat) {S : zz_M} {s i t j n : Nat} (hs : s < 4) (hi : i + n ≤ 60) (ht : t < 4) (hj : j + n ≤ 60) (hF : 100 ≤ F) : ∀ (f m k : Nat), k + m = n → m < f →
    pX10_copy_L120_21 (nI s) (nI i) (nI t) (nI j) (nI n) F f (nI k) (zz_sA S 19 (fb_put (zz_gA S 19) (fun k => zz_gA S 18 (60 * s + i + k)) 0 k)) = some (nI 1, cpS S s i t j n) := by
  intro f
  induction f with
  | zero => intro m k _ h; omega
  | succ f ih =>
    intro m k hm hf
    rw [pX10_copy_L120_21]
    simp only [zz_lt]
    simp (disch := omega) only [zl_lit, nI_leI, zl_in, nI_clamp, nI_add, pk_mul]
    cases m with
    | zero =>
      have e : k = n := by omega
      subst e
      rw [if_pos (by omega)]
      have e := q10_cpL2 (X := zz_sA S 19 (fb_put (zz_gA S 19) (fun k => zz_gA S 18 (60 * s + i + k)) 0 k)) (w0 := zz_gA S 18) (g := fun k => zz_gA S 18 (60 * s + i + k)) ht hj (fun l hl => by rw [zg_AA, if_pos rfl, fb_put_in (by omega) (by omega), Nat.sub_zero]) F k 0 (by omega) (by omega)
      rw [fb_put_0] at e
      have e2 : zz_sA (zz_sA S 19 (fb_put (zz_gA S 19) (fun k => zz_gA S 18 (60 * s + i + k)) 0 k)) 18 (zz_gA S 18) = zz_sA S 19 (fb_put (zz_gA S 19) (fun k => zz_gA S 18 (60 * s + i + k)) 0 k) := by
        rw [show zz_gA S 18 = zz_gA (zz_sA S 19 (fb_put (zz_gA S 19) (fun k => zz_gA S 18 (60 * s + i + k)) 0 k)) 18 from rfl]
        exact ss_A _ _
      rw [e2] at e
      exact e
    | succ m =>
      rw [if_neg (by omega), if_pos (by omega), if_pos (by omega), zs_AA, show zz_gA (zz_sA S 19 (fb_put (zz_gA S 19) (fun k => zz_gA S 18 (60 * s + i + k)) 0 k)) 19 = fb_put (zz_gA S 19) (fun k => zz_gA S 18 (60 * s + i + k)) 0 k from by rw [zg_AA, if_pos rfl]]
      have e := fb_put_succ (zz_gA S 19) (fun k => zz_gA S 18 (60 * s + i + k)) 0 k
      rw [Nat.zero_add] at e
      have e2 : zz_gA (zz_sA S 19 (fb_put (zz_gA S 19) (fun k => zz_gA S 18 (60 * s + i + k)) 0 k)) 18 (60 * s + i + k) = (fun k => zz_gA S 18 (60 * s + i + k)) k := rfl
      rw [e2, e]
      exact ih m (k + 1) (by omega) (by omega)
theorem q10_copy (F : Nat) {S : zz_M} (hk : hk10 S) (hF : 100 ≤ F) (u0 u1 u2 u3 u4 : Int32) : pX10_copy F u0 u1 u2 u3 u4 S = some (a_copy S u0 u1 u2 u3 u4, s_copy S u0 u1 u2 u3 u4) := by
  unfold pX10_copy a_copy s_copy
  simp only [zl_lit, zz_lt]
  rw [q10_isSheet, q10_isSheet, q10_meets, q10_meets, q10_meets]
  simp only [zz_b1, zz_b2, zb0]
  cases q : zu u0 4 with
  | none => rfl
  | some s =>
    cases q2 : zu u2 4 with
    | none => rfl
    | some t =>
      obtain ⟨h1, h2⟩ := zu_S q
      obtain ⟨h3, h4⟩ := zu_S q2
      subst h2 h4
      obtain ⟨k1, k2, k3, k4, k5⟩ := hk s h1
      obtain ⟨l1, l2, l3, l4, l5⟩ := hk t h3
      have y1 : zz_in (nI s) 4 := (zl_in (by omega)).mpr h1
      have y3 : zz_in (nI t) 4 := (zl_in (by omega)).mpr h3
      have yf : (nI (cFm S s) = nI (cFm S t)) ↔ cFm S s = cFm S t := nI_eq (by omega) (by omega)
      simp only [if_pos y1, if_pos y3, nI_clamp (show s < 2 ^ 31 by omega), nI_clamp (show t < 2 ^ 31 by omega), Option.isSome, zo_S, k1, k2, k4, l1, l2, l4, zb0, yf]
      rw [if_neg (by decide), if_neg (by decide)]
      cases qs : cTh S s
      · rfl
      · cases qt : cTh S t
        · rfl
        · simp only [Bool.true_eq_false, if_false, Bool.and_self, if_true]
          by_cases qf : cFm S s = cFm S t
          · rw [if_pos qf, if_pos qf, if_pos qf]
            have no : ∀ {b : Bool}, b = false → ((a_fnd 2, zz_sI S 13 (nI 2)) : Int32 × zz_M) = (if b = true then nI 1 else a_fnd 2, if b = true then cpS S s u1.toNatClampNeg t u3.toNatClampNeg u4.toNatClampNeg else zz_sI S 13 (nI 2)) := fun e => by rw [e]; rfl
            have e0 : ∀ x : Int32, (x < nI 0) ↔ x.toInt < 0 := fun x => by rw [fa_lt, zl_T (by omega)]; omega
            by_cases q1 : u1 < nI 0
            · rw [if_pos q1]; rw [e0] at q1
              exact congrArg some (no (by rw [show hsI u1 u4 (cSz S s) = false from decide_eq_false (by omega)]; rfl))
            · rw [if_neg q1]
              by_cases q3 : u3 < nI 0
              · rw [if_pos q3]; rw [e0] at q3
                exact congrArg some (no (by rw [show hsI u3 u4 (cSz S t) = false from decide_eq_false (by omega), Bool.and_false]))
              · rw [if_neg q3]
                by_cases q4 : u4 < nI 0
                · rw [if_pos q4]; rw [e0] at q4
                  exact congrArg some (no (by rw [show hsI u1 u4 (cSz S s) = false from decide_eq_false (by omega)]; rfl))
                · rw [if_neg q4]
                  obtain ⟨i, hi, rfl⟩ := nI_of q1
                  obtain ⟨j, hj, rfl⟩ := nI_of q3
                  obtain ⟨n, hn, rfl⟩ := nI_of q4
                  rw [nI_l hi, nI_l hj, nI_l hn, nI_l (show cSz S s < 2 ^ 31 by omega), nI_l (show cSz S t < 2 ^ 31 by omega), lN_add, lN_add, hsI_nI hi hn, hsI_nI hj hn]
                  have e1 : (nI 0 < lg_cmp (lN (i + n)) (lN (cSz S s))) ↔ cSz S s < i + n := by
                    rw [show nI 0 = 0 from rfl, lg_cmp_gt, pk_lLT (by omega) (by omega)]
                  have e2 : (lg_cmp (lN (j + n)) (lN (cSz S t)) ≤ nI 0) ↔ j + n ≤ cSz S t := by
                    rw [show nI 0 = 0 from rfl, lg_cmp_le, pk_lLE (by omega) (by omega)]
                  by_cases q5 : cSz S s < i + n
                  · rw [if_pos (e1.mpr q5)]
                    exact congrArg some (no (by rw [decide_eq_false (by omega)]; rfl))
                  · rw [if_neg (fun z => q5 (e1.mp z))]
                    by_cases q6 : j + n ≤ cSz S t
                    · rw [if_pos (e2.mpr q6), decide_eq_true (show i + n ≤ cSz S s by omega), decide_eq_true q6]
                      have e := q10_cpL1 F (S := S) h1 (show i + n ≤ 60 by omega) h3 (show j + n ≤ 60 by omega) hF F n 0 (by omega) (by omega)
                      rw [fb_put_0, ss_A] at e
                      rw [e, nI_clamp hi, nI_clamp hj, nI_clamp hn]
                      rfl
                    · rw [if_neg (fun z => q6 (e2.mp z))]
                      exact congrArg some (no (by rw [decide_eq_false q6, Bool.and_false]))
          · rw [if_neg qf, if_neg qf, if_neg qf]
theorem q9_copyG (F : Nat) {s t : Nat} (hs : s < 4) (ht : t < 4) (u1 u3 u4 : Int32) (C : zz_M) : pX9_copy F (nI s) u1 (nI t) u3 u4 C =
    if zz_gI C (8 + 3 * s) = nI 0 then (if zz_gI C (8 + 3 * t) = nI 0 then (if zz_gI C (9 + 3 * s) = zz_gI C (9 + 3 * t) then zz_b1 (pX5_hasItems F u1 u4 (zz_gI C (8 + 3 * s)) (zz_gI C (9 + 3 * s)) (zz_gI C (10 + 3 * s)) (zz_gA C (11 + s))) (fun r10 => if r10 = nI 0 then some (a_fnd 2, zz_sI C 24 (nI 2)) else zz_b1 (pX5_hasItems F u3 u4 (zz_gI C (8 + 3 * t)) (zz_gI C (9 + 3 * t)) (zz_gI C (10 + 3 * t)) (zz_gA C (11 + t))) (fun r16 => if r16 = nI 0 then some (a_fnd 2, zz_sI C 24 (nI 2)) else (if ¬ u1 < nI 0 then (if ¬ u3 < nI 0 then (if ¬ u4 < nI 0 then (if u1.toNatClampNeg + u4.toNatClampNeg ≤ 60 then (if u3.toNatClampNeg + u4.toNatClampNeg ≤ 60 then some (nI 1, zz_sA C (11 + t) (va_cpy (zz_gA C (11 + s)) (zz_gA C (11 + t)) u1.toNatClampNeg u3.toNatClampNeg u4.toNatClampNeg)) else none) else none) else none) else none) else none))) else some (a_fnd 4, zz_sI C 24 (nI 4))) else some (a_fnd 1, zz_sI C 24 (nI 1))) else some (a_fnd 1, zz_sI C 24 (nI 1)) := by
  unfold pX9_copy
  rw [q9_isSheet, zu_nI hs (by omega), q9_isSheet, zu_nI ht (by omega)]
  rcases (show s = 0 ∨ s = 1 ∨ s = 2 ∨ s = 3 by omega) with rfl | rfl | rfl | rfl <;> rcases (show t = 0 ∨ t = 1 ∨ t = 2 ∨ t = 3 by omega) with rfl | rfl | rfl | rfl <;> rfl
theorem R9_19 {C S : zz_M} {w : Nat → Int32} (R : R9 C S) : R9 C (zz_sA S 19 w) := R
theorem q9_copy (F : Nat) {C S : zz_M} (R : R9 C S) (u0 u1 u2 u3 u4 : Int32) : ∃ D, pX9_copy F u0 u1 u2 u3 u4 C = some (a_copy S u0 u1 u2 u3 u4, D) ∧ R9 D (s_copy S u0 u1 u2 u3 u4) := by
  unfold a_copy s_copy
  cases q : zu u0 4 with
  | none =>
    refine ⟨C, ?_, R⟩
    unfold pX9_copy; rw [q9_isSheet, q]; rfl
  | some s =>
    cases q2 : zu u2 4 with
    | none =>
      refine ⟨C, ?_, R⟩
      unfold pX9_copy; rw [q9_isSheet, q, q9_isSheet, q2]; rfl
    | some t =>
      obtain ⟨h1, h2⟩ := zu_S q
      obtain ⟨h3, h4⟩ := zu_S q2
      subst h2 h4
      have R' := R
      obtain ⟨r, m, h, v'⟩ := R'
      obtain ⟨k1, k2, k3, k4⟩ := h.2 s h1
      obtain ⟨g1, g2, g3, g4, g5⟩ := h.1 s h1
      obtain ⟨l1, l2, l3, l4⟩ := h.2 t h3
      obtain ⟨f1, f2, f3, f4, f5⟩ := h.1 t h3
      rw [q9_copyG F h1 h3, k1, k2, k3, l1, l2, l3, q5_hasItems F _ _ _ _ g5, q5_hasItems F _ _ _ _ f5, zo_S, zo_S, zo_S, zo_S]
      simp only [zz_b1, zb0]
      cases qs : cTh S s
      · rw [if_neg (show ¬ (!false) = false by decide), if_neg (show ¬ (false && cTh S t) = true by simp), if_neg (show ¬ (false && cTh S t) = true by simp)]
        exact ⟨_, rfl, R9_fnd R _⟩
      · rw [if_pos (show (!true) = false from rfl)]
        cases qt : cTh S t
        · rw [if_neg (show ¬ (!false) = false by decide), if_neg (show ¬ (true && false) = true by decide), if_neg (show ¬ (true && false) = true by decide)]
          exact ⟨_, rfl, R9_fnd R _⟩
        · rw [if_pos (show (!true) = false from rfl), if_pos (show (true && true) = true from rfl), if_pos (show (true && true) = true from rfl)]
          by_cases qf : cFm S s = cFm S t
          · rw [if_pos (show nI (cFm S s) = nI (cFm S t) by rw [qf]), if_pos qf, if_pos qf]
            cases qa : hsI u1 u4 (cSz S s)
            · rw [if_pos (show false = false from rfl), if_neg (show ¬ (false && hsI u3 u4 (cSz S t)) = true by simp), if_neg (show ¬ (false && hsI u3 u4 (cSz S t)) = true by simp)]
              exact ⟨_, rfl, R9_fnd R _⟩
            · rw [if_neg (show ¬ true = false by decide)]
              cases qb : hsI u3 u4 (cSz S t)
              · rw [if_pos (show false = false from rfl), if_neg (show ¬ (true && false) = true by decide), if_neg (show ¬ (true && false) = true by decide)]
                exact ⟨_, rfl, R9_fnd R _⟩
              · rw [if_neg (show ¬ true = false by decide), if_pos (show (true && true) = true from rfl), if_pos (show (true && true) = true from rfl)]
                obtain ⟨i, n, rfl, rfl, hin⟩ := hsI_S g5 qa
                obtain ⟨j, n', rfl, hn', hjn⟩ := hsI_S f5 qb
                have en : n' = n := ((nI_eq (by omega) (by omega)).mp hn').symm
                subst en
                rw [nI_clamp (show i < 2 ^ 31 by omega), nI_clamp (show j < 2 ^ 31 by omega), nI_clamp (show n' < 2 ^ 31 by omega)]
                rw [if_pos (show ¬ nI i < nI 0 from nI_pos (by omega)), if_pos (show ¬ nI j < nI 0 from nI_pos (by omega)), if_pos (show ¬ nI n' < nI 0 from nI_pos (by omega)), if_pos (show i + n' ≤ 60 by omega), if_pos (show j + n' ≤ 60 by omega)]
                refine ⟨_, rfl, ?_⟩
                unfold cpS
                refine R9_it (S := zz_sA S 19 _) (R9_19 R) h3 (fun k hk => ?_) (fun k hk => ?_)
                · by_cases qk : j ≤ k ∧ k < j + n'
                  · rw [pk_cpy_in qk.1 qk.2, fb_put_in (by omega) (by omega), k4 _ (by omega)]
                    congr 1; omega
                  · rw [pk_cpy_out (by omega), fb_put_out (by omega)]; exact l4 k hk
                · rw [fb_put_out (by omega)]; rfl
          · rw [if_neg (show ¬ nI (cFm S s) = nI (cFm S t) from fun z => qf ((nI_eq (by omega) (by omega)).mp z)), if_neg qf, if_neg qf]
            exact ⟨_, rfl, R9_fnd R _⟩
