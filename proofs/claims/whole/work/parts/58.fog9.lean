/-! fog by chance: the class -/
theorem qJ_fillLL {N : Nat} (hN : N ≤ 60) (x : Int64) : ∀ (f l c : Nat) (z : Nat → Int64), c + l = N → l < f → (∀ d, d < c → z d = x) →
    ∃ z', pJ7_fill_d0a16_L6_3 x N (nI N) f (nI c) z = some z' ∧ ∀ d, d < N → z' d = x := by
  intro f
  induction f with
  | zero => intro l c z _ h; omega
  | succ f ih =>
    intro l c z hl hf hz
    rw [pJ7_fill_d0a16_L6_3]
    simp only [zz_lt]
    simp (disch := omega) only [zl_lit, nI_leI, zl_in, nI_clamp, nI_add]
    cases l with
    | zero => rw [if_pos (by omega)]; exact ⟨z, rfl, fun d hd => hz d (by omega)⟩
    | succ l =>
      rw [if_neg (by omega), if_pos (by omega)]
      refine ih l (c + 1) _ (by omega) (by omega) (fun d hd => ?_)
      by_cases q : d = c
      · subst q; rw [pk_uLs]
      · rw [pk_uLn q]; exact hz d (by omega)
theorem qJ_fillJ (F : Nat) {N : Nat} (hN : N ≤ 60) (x : Int64) (z : Nat → Int64) (hF : 100 ≤ F) : ∃ z', pJ7_fill_d0a16 F N x z = some z' ∧ ∀ d, d < N → z' d = x := by
  unfold pJ7_fill_d0a16
  simp only [zz_lt]
  exact qJ_fillLL hN x F N 0 z (by omega) (by omega) (fun d hd => by omega)
theorem q3_goL {u a : Nat} (hu : u ≤ a) {w : Nat → Nat} : ∀ (i f X : Nat) (z : Nat → Int64), i < 10 → i + 2 ≤ f → (∀ r, r ≤ i → z r = lN (w r)) →
    ∃ z', pX3_goOn_L45_8 (lN u) (lN a) f (lN X) (nI i) z = some z' ∧ (∀ r, i < r → z' r = z r) ∧ z' 0 = lN (X + fb_sm (fun j => w j * (a - u)) (i + 1)) ∧ ∀ r, r + 1 ≤ i → z' (r + 1) = lN (w r * u)
  | 0, f, X, z, hi, hf, hz => by
    obtain ⟨g, rfl⟩ : ∃ g, f = g + 1 + 1 := ⟨f - 2, by omega⟩
    rw [pX3_goOn_L45_8]
    simp only [zz_lt]
    simp (disch := omega) only [zl_lit, nI_ltI, zl_in, nI_clamp, nI_eq]
    rw [if_neg (by omega), if_pos (by omega), if_pos trivial, hz 0 (by omega), lN_sub hu, lN_mul, lN_add, show nI 0 + -nI 1 = -nI 1 by decide, pX3_goOn_L45_8]
    rw [if_pos (show (-nI 1 : Int32) < 0 by decide)]
    refine ⟨_, rfl, fun r hr => by rw [pk_uLn (by omega)], ?_, fun r hr => by omega⟩
    rw [pk_uLs, fb_sm_succ]
    show _ = lN (X + (0 + _))
    rw [Nat.zero_add]
  | i + 1, f, X, z, hi, hf, hz => by
    obtain ⟨g, rfl⟩ : ∃ g, f = g + 1 := ⟨f - 1, by omega⟩
    rw [pX3_goOn_L45_8]
    simp only [zz_lt]
    rw [show (nI (i + 1) - (1 : Int32)) = nI i from nI_pred i]
    simp (disch := omega) only [zl_lit, nI_ltI, zl_in, nI_clamp, nI_eq]
    rw [if_neg (by omega), if_pos (by omega), if_neg (by omega), if_pos (by omega), if_pos (by omega), hz (i + 1) (by omega), hz i (by omega), lN_sub hu, lN_mul, lN_mul, lN_add, show (-nI 1 : Int32) = -1 from rfl, pk_m1]
    obtain ⟨z', e1, e2, e3, e4⟩ := q3_goL hu i g (X + w (i + 1) * (a - u)) (vp_updL z (i + 1) (lN (w i * u))) (by omega) (by omega) (fun r hr => by rw [pk_uLn (by omega)]; exact hz r (by omega))
    refine ⟨z', e1, fun r hr => by rw [e2 r (by omega), pk_uLn (by omega)], ?_, fun r hr => ?_⟩
    · rw [e3, fb_sm_succ _ (i + 1)]; congr 1; omega
    · by_cases q : r = i
      · subst q; rw [e2 (r + 1) (by omega), pk_uLs]
      · exact e4 r (by omega)
theorem q3_goOn (F : Nat) {u a need : Nat} {w w' : Nat → Nat} {z : Nat → Int64} (hu : u ≤ a) (h1 : 1 ≤ need) (h9 : need ≤ 9) (hz : ∀ r, r ≤ need → z r = lN (w r)) (g1 : w' need = w need * a + w (need - 1) * u) (g2 : w' 0 = fb_sm w need * (a - u)) (g3 : ∀ r, r + 1 < need → w' (r + 1) = w r * u) (hF : 100 ≤ F) : ∃ z', pX3_goOn F (lN u) (lN a) (nI need) z = some z' ∧ ∀ r, r ≤ need → z' r = lN (w' r) := by
  obtain ⟨m, rfl⟩ : ∃ m, need = m + 1 := ⟨need - 1, by omega⟩
  rw [show m + 1 - 1 = m by omega] at g1
  unfold pX3_goOn
  simp only [zz_lt]
  rw [show (nI (m + 1) - (1 : Int32)) = nI m from nI_pred m]
  simp (disch := omega) only [zl_lit, zl_litL, zl_in, nI_clamp]
  rw [if_pos (by omega), if_pos (by omega), if_pos (by omega), hz (m + 1) (by omega), hz m (by omega), lN_mul, lN_mul, lN_add, ← g1]
  obtain ⟨z', e1, e2, e3, e4⟩ := q3_goL hu (w := w) m F 0 (vp_updL z (m + 1) (lN (w' (m + 1)))) (by omega) (by omega) (fun r hr => by rw [pk_uLn (by omega)]; exact hz r (by omega))
  refine ⟨z', e1, fun r hr => ?_⟩
  by_cases q : r = m + 1
  · subst q; rw [e2 _ (by omega), pk_uLs]
  · cases r with
    | zero =>
      rw [e3, g2, Nat.zero_add]
      congr 1
      have : ∀ n, fb_sm (fun j => w j * (a - u)) n = fb_sm w n * (a - u) := fun n => by
        induction n with
        | zero => exact (Nat.zero_mul _).symm
        | succ n ih => rw [fb_sm_succ, fb_sm_succ, ih, Nat.add_mul]
      exact this _
    | succ r => rw [e4 r (by omega), g3 r (by omega)]
theorem q8_isInView (F : Nat) {n w s c : Nat} {sh : Int64} {ks kd : Nat → Int32} (h : sp_W n w ks) (he : ∀ j, j < n → ks j = kd j) (hs : s ≤ 9) (hc : c < 60) (hF : 12 ≤ F) (o : Option Nat) (ho : ∀ c, o = some c → c < n) : pX8_isInView F (sp_i o) (nI c) (nI s) (nI n) (nI w) sh ks = some (zb ((sp_see n w kd s o).testBit c)) := by
  have hn := h.1
  have hlt := sp_see_lt (s := s) h o ho
  have e : pX8_viewFrom F (sp_i o) (nI s) (nI n) (nI w) sh ks = some (lN (sp_see n w ks s o)) := by
    cases o with
    | none => exact q8_viewFromN F hn
    | some c' => exact q8_viewFrom F h hs (ho c' rfl) hF
  unfold pX8_isInView
  rw [e]
  simp only [zz_b1, zz_lt, zl_lit, zl_litL]
  rw [← sp_see_cg h he o ho]
  cases q : (sp_see n w ks s o).testBit c
  · rw [if_pos ((q9_bit (by omega) (by omega)).mpr q)]; rfl
  · rw [if_neg (by rw [q9_bit (by omega) (by omega), q]; decide)]; rfl
def wR (S : zz_M) (c L k t r : Nat) : Nat := wA c L (cNd S k) (sSc S k) (sFo S k) t (if r = cNd S k then none else some r)
theorem wR_sum {S : zz_M} {c L k t : Nat} : fb_sm (wR S c L k t) (cNd S k) = fb_sm (fun r => wA c L (cNd S k) (sSc S k) (sFo S k) t (some r)) (cNd S k) := by
  apply sm_cgr
  intro r hr
  unfold wR; rw [if_neg (by omega)]
theorem q9_wyL (F : Nat) {C S : zz_M} {c l k : Nat} (h : ok10 S) (p : p9 C S) (n : n9 C S) (hc : c ≤ 16) (hl : l ≤ 9) (hk : k < cT S) (hF : 100 ≤ F) : ∀ (f m t : Nat) (z : Nat → Int64), t + m = 96 → m < f → (∀ r, r ≤ cNd S k → z r = lN (wR S c (l + 1) k t r)) →
    ∃ z', pX9_waysToTake_L44_11 (nI c) (nI l) F (nI (cWt S k)) f (nI t) (zz_sL (zz_sI C 23 (nI (cNd S k))) 5 z) = some (lN (wA c (l + 1) (cNd S k) (sSc S k) (sFo S k) 96 none), zz_sL (zz_sI C 23 (nI (cNd S k))) 5 z') := by
  have hnn := cN_le S
  obtain ⟨k1, k2, k3⟩ := cWt_le h hk
  have n3 := n.2.2.1
  have p' := p
  obtain ⟨-, -, -, ⟨-, -, a2, -⟩, ⟨w1, w2, w3, w4⟩, -, -⟩ := p'
  have hW : sp_W (cN S) (cW S) (zz_gA C 5) := sp_W_cg (cK_W S) (fun j hj => (w4 j hj).symm)
  have hsi := h.2.2.2.2.1.2
  have ho : ∀ t c, cP S t = some c → c < cN S := fun t c q => (sp_pl_ok (cK_W S) t c q).1
  intro f
  induction f with
  | zero => intro m t z _ h; omega
  | succ f ih =>
    intro m t z hm hf hz
    rw [pX9_waysToTake_L44_11]
    simp only [zz_lt]
    have g23 : zz_gI (zz_sL (zz_sI C 23 (nI (cNd S k))) 5 z) 23 = nI (cNd S k) := rfl
    have g5 : zz_gL (zz_sL (zz_sI C 23 (nI (cNd S k))) 5 z) 5 = z := rfl
    have g17 : zz_gA (zz_sL (zz_sI C 23 (nI (cNd S k))) 5 z) 17 = zz_gA C 17 := rfl
    have g4 : zz_gA (zz_sL (zz_sI C 23 (nI (cNd S k))) 5 z) 4 = zz_gA C 4 := rfl
    have gA5 : zz_gA (zz_sL (zz_sI C 23 (nI (cNd S k))) 5 z) 5 = zz_gA C 5 := rfl
    have gI3 : zz_gI (zz_sL (zz_sI C 23 (nI (cNd S k))) 5 z) 3 = nI (cN S) := w1
    have gI4 : zz_gI (zz_sL (zz_sI C 23 (nI (cNd S k))) 5 z) 4 = nI (cW S) := w2
    simp only [g23, g5, g17, g4, gA5, gI3, gI4]
    simp (disch := omega) only [zl_lit, zl_litL, nI_leI, nI_ltI, zl_in, nI_clamp, nI_add]
    cases m with
    | zero =>
      have et : t = 96 := by omega
      subst et
      rw [if_pos (by omega)]
      unfold pX3_taken
      rw [if_pos ((zl_in (by omega)).mpr (by omega)), nI_clamp (by omega), hz _ (Nat.le_refl _)]
      unfold wR
      rw [if_pos rfl]
      exact ⟨z, rfl⟩
    | succ m =>
      rw [if_neg (by omega), if_pos (by omega), n3 t (by omega), a2, q8_isInView F hW w4 hsi (by omega) (by omega) _ (ho t)]
      have efs : pX9_foggySight F (zz_sL (zz_sI C 23 (nI (cNd S k))) 5 z) = some (nI (if cSi S ≤ 1 then cSi S else 1)) := by
        unfold pX9_foggySight
        simp only [g4, zl_lit]
        rw [show (nI 2).toNatClampNeg = 2 from rfl, a2]
        simp (disch := omega) only [nI_ltI]
        by_cases q : cSi S ≤ 1
        · rw [if_neg (by omega), if_pos q]
        · rw [if_pos (by omega), if_neg q]
      rw [efs]
      simp only [zz_b1]
      rw [q8_isInView F hW w4 (show (if cSi S ≤ 1 then cSi S else 1) ≤ 9 by split <;> omega) (by omega) (by omega) _ (ho t)]
      simp only [zb0]
      have e1 : (sp_see (cN S) (cW S) (cK S) (cSi S) (cP S t)).testBit (cWt S k) = sSc S k t := rfl
      have e2 : (sp_see (cN S) (cW S) (cK S) (if cSi S ≤ 1 then cSi S else 1) (cP S t)).testBit (cWt S k) = sFo S k t := rfl
      rw [e1, e2]
      have en : ∀ b : Bool, (if b = false then nI 1 else nI 0) = nI (nb b) := fun b => by cases b <;> rfl
      have hb : ∀ b : Bool, nb b ≤ 1 := fun b => by cases b <;> decide
      have hb1 := hb (sSc S k t)
      have hb2 := hb (sFo S k t)
      rw [en, en]
      obtain ⟨u, a, hua, hu, ha, s1, s2, s3⟩ := wA_step (c := c) (L := l + 1) (need := cNd S k) (t := t) (sc := sSc S k) (sf := sFo S k) hc k2
      have G := fun hFF => q3_goOn F (u := u) (a := a) (need := cNd S k) (w := wR S c (l + 1) k t) (w' := wR S c (l + 1) k (t + 1)) (z := z) hua k2 k3 hz (by
        unfold wR
        rw [if_pos rfl, if_neg (by omega)]; exact s1) (by
        rw [wR_sum]
        unfold wR
        rw [if_neg (by omega)]; exact s2) (fun r hr => by
        unfold wR
        rw [if_neg (by omega), if_neg (by omega)]; exact s3 r hr) hFF
      obtain ⟨z', r1, r2⟩ := G hF
      have hih := ih m (t + 1) z' (by omega) (by omega) r2
      have eset : ∀ y, zz_sL (zz_sL (zz_sI C 23 (nI (cNd S k))) 5 z) 5 y = zz_sL (zz_sI C 23 (nI (cNd S k))) 5 y := fun y => by unfold zz_sL; rw [zs_up1]
      by_cases q : l < t
      · rw [if_neg (by omega)] at hu ha
        rw [if_pos q, nI_l (by omega)]
        rw [hu, ha] at r1
        rw [r1]
        simp only
        rw [eset]
        exact hih
      · rw [if_pos (by omega)] at hu ha
        rw [if_neg q, pk_sub hc, pk_mul, pk_mul, nI_add]
        have hlt : nb (sSc S k t) * (16 - c) + nb (sFo S k t) * c < 2 ^ 31 := by rw [← hu]; omega
        rw [nI_l hlt]
        rw [hu, ha] at r1
        rw [r1]
        simp only
        rw [eset]
        exact hih
theorem q9_waysToTake (F : Nat) {C S : zz_M} {c l k : Nat} (h : ok10 S) (p : p9 C S) (n : n9 C S) (hc : c ≤ 16) (hl : l ≤ 9) (hk : k < cT S) (hF : 100 ≤ F) : ∃ D, pX9_waysToTake F (nI c) (nI l) (nI k) C = some (lN (sFg S c (l + 1) k), D) ∧ kp C D := by
  have hnn := cN_le S
  have ht := cT_le h
  obtain ⟨k1, k2, k3⟩ := cWt_le h hk
  have p' := p
  obtain ⟨-, -, -, -, ⟨w1, w2, w3, w4⟩, -, t1, t2⟩ := p'
  obtain ⟨v1, -, v3, -⟩ := t2.2 k hk
  unfold pX9_waysToTake sFg
  simp only [zz_lt]
  simp (disch := omega) only [zl_lit, zl_litL, zl_in, nI_clamp]
  rw [if_pos (by omega), if_pos (by omega), v1, w1, q8_isShop F hnn (by omega), sp_shop_cg w4, v3]
  simp only [zz_b1, zb0]
  cases q : sp_shop (cN S) (cK S) (cWt S k)
  · rw [if_pos rfl, if_neg (by decide)]; exact ⟨C, rfl, kp_rfl C⟩
  · rw [if_neg (by decide), if_pos rfl]
    unfold pX3_startFor
    simp only [zz_lt]
    obtain ⟨z, z1, z2⟩ := qJ_fillJ F (N := 10) (by omega) (lN 0) (zz_gL C 5) hF
    simp only [zl_lit, zl_litL]
    rw [z1]
    simp only [zz_b1, zz_b2]
    have en : (if nI 1 < (if nI 9 < nI (cNd S k) then nI 9 else nI (cNd S k)) then (if nI 9 < nI (cNd S k) then nI 9 else nI (cNd S k)) else nI 1) = nI (cNd S k) := by
      rw [if_neg (show ¬ nI 9 < nI (cNd S k) from nI_nlt (by omega) (by omega))]
      by_cases q1 : 1 < cNd S k
      · rw [if_pos (nI_lt q1 (by omega))]
      · rw [if_neg (nI_nlt (by omega) (by omega)), show cNd S k = 1 by omega]
    rw [en]
    obtain ⟨z', e1⟩ := q9_wyL F h p n hc hl hk hF F 96 0 (vp_updL z 0 (lN 1)) (by omega) (by omega) (fun r hr => by
      unfold wR
      rw [wA_0 _ (by omega)]
      unfold ib
      cases r with
      | zero =>
        have z0 : ¬ 0 = cNd S k := by omega
        rw [pk_uLs]; simp [z0]
      | succ r =>
        rw [pk_uLn (by omega), z2 _ (by omega)]
        by_cases qr : r + 1 = cNd S k
        · rw [if_pos qr]; simp
        · rw [if_neg qr]; simp)
    refine ⟨zz_sL (zz_sI C 23 (nI (cNd S k))) 5 z', ?_, kp_L (kp_I (kp_rfl C) (by decide)) (by decide)⟩
    exact e1
theorem q9_fgL {D : zz_M} {j H : Nat} (hj : j < 2) (hH : H ≤ 40) : ∀ (h f a i : Nat), i + h = H → h < f → a ≤ 2 ^ 40 →
    pX9_fogged_L69_15 (nI j) D (nI H) f (lN a) (lN (2 ^ h)) (nI i) = some (if j = 0 then lN (a / Nat.gcd a (2 ^ h)) else lN (2 ^ h / Nat.gcd a (2 ^ h)), D)
  | h, 0, a, i, hi, hf, ha => by omega
  | h, f + 1, a, i, hi, hf, ha => by
    rw [pX9_fogged_L69_15]
    simp only [zz_lt]
    have hp : 2 ^ h ≤ 2 ^ 40 := Nat.pow_le_pow_right (by decide) (by omega)
    simp (disch := omega) only [zl_lit, zl_litL, nI_leI, nI_add, nI_eq]
    have fin : Nat.gcd a (2 ^ h) = 1 → some (if j = 0 then lN a else lN (2 ^ h), D) = some (if j = 0 then lN (a / Nat.gcd a (2 ^ h)) else lN (2 ^ h / Nat.gcd a (2 ^ h)), D) := fun e => by
      rw [e, Nat.div_one, Nat.div_one]
    cases h with
    | zero =>
      rw [if_pos (by omega)]
      exact fin (by rw [Nat.pow_zero, Nat.gcd_one_right])
    | succ h =>
      rw [if_neg (by omega), pk_lRem (by omega) (by omega) (by omega)]
      by_cases q : a % 2 = 0
      · rw [if_pos (show lg_cmp (lN (a % 2)) (lN 0) = nI 0 from (lg_cmp_eq _ _).mpr (by rw [q])), pk_lDiv (by omega) (by omega) (by omega), pk_lDiv (by omega) (by omega) (by omega)]
        obtain ⟨b, rfl⟩ : ∃ b, a = 2 * b := ⟨a / 2, by omega⟩
        have e1 : 2 ^ (h + 1) = 2 * 2 ^ h := by rw [Nat.pow_succ, Nat.mul_comm]
        rw [e1, Nat.mul_div_cancel_left _ (by decide), Nat.mul_div_cancel_left _ (by decide), Nat.gcd_mul_left, Nat.mul_div_mul_left _ _ (by decide), Nat.mul_div_mul_left _ _ (by decide)]
        exact q9_fgL hj hH h f b (i + 1) (by omega) (by omega) (by omega)
      · rw [if_neg (show ¬ lg_cmp (lN (a % 2)) (lN 0) = nI 0 from fun z => q ((pk_lEQ (by omega) (by omega)).mp ((lg_cmp_eq _ _).mp z)))]
        refine fin ?_
        have hodd : Nat.gcd a 2 = 1 := by
          rw [Nat.gcd_comm, Nat.gcd_rec, show a % 2 = 1 by omega, Nat.gcd_one_left]
        exact Nat.Coprime.pow_right (h + 1) hodd
theorem q9_rng4 {α : Type} {u : Int32} {N : Nat} (hN : N < 2 ^ 31 - 1) (a b : α) : (if u < nI 0 then a else if nI N < u then a else b) = if (zu u (N + 1)).isSome = true then b else a := by
  rw [← q9_rng (by omega)]
  have : (nI N < u) ↔ nI (N + 1) ≤ u := by rw [fa_le, fa_lt, zl_T (by omega), zl_T (by omega)]; omega
  by_cases q1 : u < nI 0
  · rw [if_pos q1, if_pos q1]
  · rw [if_neg q1, if_neg q1]
    by_cases q : nI N < u
    · rw [if_pos q, if_pos (this.mp q)]
    · rw [if_neg q, if_neg (fun z => q (this.mpr z))]
theorem q9_fogged (F : Nat) {C S : zz_M} (h : ok10 S) (r : r9 C S) (hF : 100 ≤ F) (u0 u1 u2 u3 : Int32) : ∃ D, pX9_fogged F u0 u1 u2 u3 C = some (a_fogged S u0 u1 u2 u3, D) ∧ r9 D S ∧ ke C D := by
  unfold pX9_fogged a_fogged
  simp only [zl_lit, zl_litL, zz_lt]
  rw [q9_rng4 (N := 9) (by omega), q9_rng4 (N := 16) (by omega), q9_isThief F r.1, q9_isEither]
  simp only [zz_b1, zb0]
  cases q0 : zu u0 17 with
  | none => exact ⟨C, rfl, r, ke_rfl C⟩
  | some c =>
    cases q1 : zu u1 10 with
    | none => exact ⟨C, rfl, r, ke_rfl C⟩
    | some l =>
      cases q2 : zu u2 (cT S) with
      | none => exact ⟨C, rfl, r, ke_rfl C⟩
      | some k =>
        cases q3 : zu u3 2 with
        | none => exact ⟨C, rfl, r, ke_rfl C⟩
        | some j =>
          obtain ⟨a1, a2⟩ := zu_S q0
          obtain ⟨b1, b2⟩ := zu_S q1
          obtain ⟨c1, c2⟩ := zu_S q2
          obtain ⟨d1, d2⟩ := zu_S q3
          subst a2 b2 c2 d2
          obtain ⟨D, e1, e2, e3, e4, e5, e6⟩ := q9_set9 F h r hF
          obtain ⟨E, f1, f2⟩ := q9_waysToTake F h e2.1 e4 (show c ≤ 16 by omega) (show l ≤ 9 by omega) c1 hF
          refine ⟨E, ?_, r9_kp e2 f2, ke_tr e3 (ke_kp f2)⟩
          simp only [Option.isSome, zo_S]
          rw [if_pos trivial, if_pos trivial, if_neg (by decide), if_neg (by decide), e1]
          simp only
          rw [f1]
          simp only [zz_b2]
          rw [nI_add, pk_mul, zl_shl1 (by omega), q9_fgL d1 (by omega) (4 * (l + 1)) F _ 0 (by omega) (by omega) (sFg_le S k (by omega) (by omega))]
          rfl
