/-! fog by chance: the reference -/
def sSc (S : zz_M) (k t : Nat) : Bool := (sp_see (cN S) (cW S) (cK S) (cSi S) (cP S t)).testBit (cWt S k)
def sFo (S : zz_M) (k t : Nat) : Bool := (sp_see (cN S) (cW S) (cK S) (if cSi S ≤ 1 then cSi S else 1) (cP S t)).testBit (cWt S k)
def sFg (S : zz_M) (c L k : Nat) : Nat := if sp_shop (cN S) (cK S) (cWt S k) then wA c L (cNd S k) (sSc S k) (sFo S k) 96 none else 0
def sFa (S : zz_M) (c L k j : Nat) : Int64 := if j = 0 then lN (sFg S c L k / Nat.gcd (sFg S c L k) (2 ^ (4 * L))) else lN (2 ^ (4 * L) / Nat.gcd (sFg S c L k) (2 ^ (4 * L)))
def rfL : Int64 := -lN 9223372036854775806
def a_fogged (S : zz_M) (u0 u1 u2 u3 : Int32) : Int64 := zo rfL (fun c => zo rfL (fun l => zo rfL (fun k => zo rfL (fun j => sFa S c (l + 1) k j) (zu u3 2)) (zu u2 (cT S))) (zu u1 10)) (zu u0 17)
theorem sFg_le (S : zz_M) {c L : Nat} (k : Nat) (hc : c ≤ 16) (hL : L ≤ 10) : sFg S c L k ≤ 2 ^ 40 := by
  unfold sFg
  split
  · have h1 := wA_le (c := c) (L := L) (need := cNd S k) (t := 96) (sc := sSc S k) (sf := sFo S k) hc (by omega) none
    have h2 : 16 ^ L ≤ 16 ^ 10 := Nat.pow_le_pow_right (by decide) hL
    have h3 : (16 : Nat) ^ 10 = 2 ^ 40 := by decide
    omega
  · omega
theorem mod_half {y r : Nat} (h0 : 0 < r) (h : r < y) : 2 * (y % r) < y := by
  have h1 := Nat.mod_lt y h0
  by_cases q : 2 * r ≤ y
  · omega
  · rw [Nat.mod_eq_sub_mod (by omega), Nat.mod_eq_of_lt (by omega)]; omega
theorem q10_loL {a b j : Nat} (hj : j < 2) (ha : a < 2 ^ 63) (hb : b < 2 ^ 63) : ∀ (n f x y : Nat), y < 2 ^ n → n ≤ 60 → x < 2 ^ 63 → 0 < Nat.gcd x y → 2 * n + 2 ≤ f →
    pX10_lowest_L6_2 (lN a) (lN b) (nI j) f (lN x) (lN y) = some (if j = 0 then lN (a / Nat.gcd x y) else lN (b / Nat.gcd x y)) := by
  have base : ∀ f x, x < 2 ^ 63 → 0 < x → pX10_lowest_L6_2 (lN a) (lN b) (nI j) (f + 1) (lN x) (lN 0) = some (if j = 0 then lN (a / x) else lN (b / x)) := by
    intro f x hx h0
    rw [pX10_lowest_L6_2]
    simp only [zz_lt, zl_lit, zl_litL]
    rw [if_pos (show lg_cmp (lN 0) (lN 0) = nI 0 from (lg_cmp_eq _ _).mpr rfl)]
    have e : ¬ lN x = lN 0 := fun z => by have := (pk_lEQ hx (by omega)).mp z; omega
    rw [if_pos e, if_pos e, pk_lDiv ha h0 hx, pk_lDiv hb h0 hx]
    simp (disch := omega) only [nI_eq]
    split <;> rfl
  have step : ∀ f x y, x < 2 ^ 63 → y < 2 ^ 63 → 0 < y → pX10_lowest_L6_2 (lN a) (lN b) (nI j) (f + 1) (lN x) (lN y) = pX10_lowest_L6_2 (lN a) (lN b) (nI j) f (lN y) (lN (x % y)) := by
    intro f x y hx hy h0
    rw [pX10_lowest_L6_2]
    simp only [zz_lt, zl_lit, zl_litL]
    have e : ¬ lN y = lN 0 := fun z => by have := (pk_lEQ hy (by omega)).mp z; omega
    rw [if_neg (show ¬ lg_cmp (lN y) (lN 0) = nI 0 from fun z => e ((lg_cmp_eq _ _).mp z)), if_pos e, pk_lRem hx h0 hy]
  intro n
  induction n with
  | zero =>
    intro f x y hy _ hx hg hf
    have e : y = 0 := by rw [Nat.pow_zero] at hy; omega
    subst e
    rw [Nat.gcd_zero_right] at hg ⊢
    obtain ⟨g, rfl⟩ : ∃ g, f = g + 1 := ⟨f - 1, by omega⟩
    exact base g x hx hg
  | succ n ih =>
    intro f x y hy hn hx hg hf
    have hp : 2 ^ (n + 1) = 2 ^ n * 2 := Nat.pow_succ ..
    have hp2 : 2 ^ (n + 1) ≤ 2 ^ 61 := Nat.pow_le_pow_right (by decide) (by omega)
    by_cases q : y = 0
    · subst q
      rw [Nat.gcd_zero_right] at hg ⊢
      obtain ⟨g, rfl⟩ : ∃ g, f = g + 1 := ⟨f - 1, by omega⟩
      exact base g x hx hg
    · obtain ⟨g, rfl⟩ : ∃ g, f = g + 1 + 1 := ⟨f - 2, by omega⟩
      have hr := Nat.mod_lt x (show 0 < y by omega)
      rw [step (g + 1) x y hx (by omega) (by omega)]
      have e1 : Nat.gcd x y = Nat.gcd y (x % y) := by rw [Nat.gcd_comm x y, Nat.gcd_rec y x, Nat.gcd_comm]
      rw [e1]
      by_cases q2 : x % y = 0
      · rw [q2, Nat.gcd_zero_right]
        exact base g y (by omega) (by omega)
      · rw [step g y (x % y) (by omega) (by omega) (by omega)]
        have e2 : Nat.gcd y (x % y) = Nat.gcd (x % y) (y % (x % y)) := by rw [Nat.gcd_comm y, Nat.gcd_rec (x % y) y, Nat.gcd_comm]
        have hh := mod_half (show 0 < x % y by omega) hr
        rw [e2]
        exact ih g (x % y) (y % (x % y)) (by omega) (by omega) (by omega) (by rw [← e2, ← e1]; exact hg) (by omega)
theorem q10_lowest (F : Nat) {a H j : Nat} (hj : j < 2) (ha : a ≤ 2 ^ 40) (hH : H ≤ 40) (hF : 2000 ≤ F) : pX10_lowest F (lN a) (lN (2 ^ H)) (nI j) = some (if j = 0 then lN (a / Nat.gcd a (2 ^ H)) else lN (2 ^ H / Nat.gcd a (2 ^ H))) := by
  have hp : 2 ^ H ≤ 2 ^ 40 := Nat.pow_le_pow_right (by decide) hH
  unfold pX10_lowest
  exact q10_loL hj (by omega) (by omega) 41 F a (2 ^ H) (by omega) (by omega) (by omega) (Nat.gcd_pos_of_pos_right _ (Nat.two_pow_pos H)) (by omega)
/-- texts read, the beat laid, no fog from some moment on -/
def fo10 (T S : zz_M) (L : Nat) : Prop := sm S T ∧ rd10 T ∧ zz_gI T 9 = nI (cM S) ∧ sp_B (cM S) (zz_gA T 6) (cB S) ∧ ∀ t, L ≤ t → t < 96 → zz_gA T 7 t = zb false
theorem sTk_fog (S : zz_M) (L k s : Nat) : (sTk S (cM S) (cB S) (fgS L s) k).isSome = (if sp_shop (cN S) (cK S) (cWt S k) then (sp_tk (snS L (sSc S k) (sFo S k) s) (cNd S k)).isSome else false) := by
  unfold sTk sp_takes
  split
  · have e : (fun t => (sp_vm (cN S) (cW S) (cK S) (cSi S) (fgS L s) (sp_pl (cN S) (cW S) (cK S) (cGi S) (cSt S) (cM S) (cB S)) t).testBit (cWt S k)) = snS L (sSc S k) (sFo S k) s := by
      funext t
      unfold sp_vm sp_sg snS sSc sFo cP
      split <;> rfl
    rw [e]
  · rfl
def fwt (S : zz_M) (c L k s : Nat) : Nat := sp_wg c s L * (if (sTk S (cM S) (cB S) (fgS L s) k).isSome then 1 else 0)
theorem fwt_sum {S : zz_M} {c L k : Nat} (h1 : 1 ≤ cNd S k) (hL : L ≤ 96) : fb_sm (fwt S c L k) (2 ^ L) = sFg S c L k := by
  unfold sFg
  cases q : sp_shop (cN S) (cK S) (cWt S k)
  · rw [if_neg (by decide)]
    have : ∀ n, fb_sm (fwt S c L k) n = 0 := fun n => by
      induction n with
      | zero => rfl
      | succ n ih =>
        rw [fb_sm_succ, ih]
        unfold fwt
        rw [sTk_fog, q]; simp
    exact this _
  · rw [if_pos rfl, ← wA_sum h1 hL]
    apply sm_cgr
    intro s _
    unfold fwt
    rw [sTk_fog, q, if_pos rfl]
theorem q10_fgL2 (F : Nat) {S : zz_M} {c l k s : Nat} (h : ok10 S) (hc : c ≤ 16) (hl : l ≤ 9) (hk : k < cT S) (hs : s < 2 ^ (l + 1)) (x6 : Int64) (kL : Int64 → Int32 → zz_M → Option (Int64 × zz_M)) (hF : 2000 ≤ F) : ∀ (f m i : Nat) (T : zz_M), fo10 T S (l + 1) → (∀ t, t < i → zz_gA T 7 t = zb (s.testBit t)) → i + m = l + 1 → m < f →
    ∃ U, pX10_foggedOf_L50_14 (nI c) (nI l) (nI k) F x6 (nI s) kL f (lN (sp_wg c s i)) (nI i) T = kL (x6 + lN (fwt S c (l + 1) k s)) (nI (s + 1)) U ∧ fo10 U S (l + 1) := by
  have hp : 2 ^ (l + 1) ≤ 2 ^ 10 := Nat.pow_le_pow_right (by decide) (by omega)
  intro f
  induction f with
  | zero => intro m i T _ _ _ h; omega
  | succ f ih =>
    intro m i T g hA hm hf
    rw [pX10_foggedOf_L50_14]
    simp only [zz_lt]
    simp (disch := omega) only [zl_lit, zl_litL, nI_ltI, zl_in, nI_clamp, nI_add]
    cases m with
    | zero =>
      have ei : i = l + 1 := by omega
      subst ei
      rw [if_pos (by omega)]
      obtain ⟨g1, g2, g3, g4, g5⟩ := g
      have hg : go10 T (cM S) (cB S) (fgS (l + 1) s) := ⟨g2, g3, g4, fun t ht => by
        unfold fgS
        by_cases q : t < l + 1
        · rw [hA t q, decide_eq_true q]; rfl
        · rw [g5 t (by omega) ht, decide_eq_false q]; rfl⟩
      obtain ⟨U, u1, u2, u3⟩ := q10_walked F (sm_ok g1 h) hg (by omega)
      have hs' := sm_tr g1 u2
      rw [u1]
      simp only [zz_b1]
      rw [q10_takesT F u3 (by omega) (show k < cT U by rw [sm_T hs']; exact hk)]
      have et : sp_takes (cN U) (cK U) (sp_vm (cN U) (cW U) (cK U) (cSi U) (fgS (l + 1) s) (sp_pl (cN U) (cW U) (cK U) (cGi U) (cSt U) (cM S) (cB S))) (cWt U) (cNd U) k = sTk S (cM S) (cB S) (fgS (l + 1) s) k := by
        rw [← sm_sTk hs']; rfl
      rw [et]
      simp only
      have gB := u3.1.2.2.1
      have g9 := u3.1.2.1
      have g7 := u3.1.2.2.2
      refine ⟨U, ?_, hs', u3.1.1, g9, gB, fun t h1 h2 => by rw [g7 t h2]; unfold fgS; rw [decide_eq_false (by omega)]; rfl⟩
      unfold fwt
      cases q : sTk S (cM S) (cB S) (fgS (l + 1) s) k with
      | none => rw [if_pos sp_iN]; simp
      | some x =>
        have hx : x < 96 := sp_takes_lt q
        rw [if_neg (by rw [sp_iS, zl_m1a (by omega)]; exact id)]
        simp
    | succ m =>
      rw [if_neg (by omega), q10_isIn F (by omega) (by omega)]
      simp only [zz_b1]
      rw [if_pos (show i < 96 by omega), if_pos (show i < 96 by omega), zb_n]
      rw [show ∀ y, zz_gA (zz_sA T 7 y) 7 = y from fun y => by rw [zg_AA, if_pos rfl], pk_us]
      simp only [zb0]
      rw [pk_sub hc, nI_l (show 16 - c < 2 ^ 31 by omega), nI_l (show c < 2 ^ 31 by omega)]
      have ew : lN (sp_wg c s i) * (if s.testBit i = false then lN (16 - c) else lN c) = lN (sp_wg c s (i + 1)) := by
        rw [sp_wg, ← lN_mul]
        cases s.testBit i <;> rfl
      rw [ew]
      obtain ⟨g1, g2, g3, g4, g5⟩ := g
      have s1 : sm T (zz_sA T 7 (upd (zz_gA T 7) i (zb (s.testBit i)))) := sm_sA (sm_rfl T) (by decide)
      refine ih m (i + 1) _ ⟨sm_tr g1 s1, rd_sm s1 rfl rfl rfl rfl rfl rfl rfl rfl g2, g3, g4, fun t h1 h2 => ?_⟩ (fun t ht => ?_) (by omega) (by omega)
      · rw [show ∀ y, zz_gA (zz_sA T 7 y) 7 = y from fun y => by rw [zg_AA, if_pos rfl], pk_un (by omega)]; exact g5 t h1 h2
      · rw [show ∀ y, zz_gA (zz_sA T 7 y) 7 = y from fun y => by rw [zg_AA, if_pos rfl]]
        by_cases q : t = i
        · subst q; rw [pk_us]
        · rw [pk_un q]; exact hA t (by omega)
theorem q10_fgL1 (F : Nat) {S : zz_M} {c l k j : Nat} (h : ok10 S) (hc : c ≤ 16) (hl : l ≤ 9) (hk : k < cT S) (hj : j < 2) (hF : 2000 ≤ F) : ∀ (f m s : Nat) (T : zz_M), fo10 T S (l + 1) → s + m = 2 ^ (l + 1) → m < f →
    ∃ U, pX10_foggedOf_L34_8 (nI c) (nI l) (nI k) (nI j) F f (lN (fb_sm (fwt S c (l + 1) k) s)) (nI s) T = some (sFa S c (l + 1) k j, U) ∧ sm S U ∧ rd10 U := by
  have hp : 2 ^ (l + 1) ≤ 2 ^ 10 := Nat.pow_le_pow_right (by decide) (by omega)
  have hsh := zl_ishl1 (l + 1) (by omega)
  intro f
  induction f with
  | zero => intro m i T _ _ h; omega
  | succ f ih =>
    intro m s T g hm hf
    rw [pX10_foggedOf_L34_8]
    simp only [zl_lit, zl_litL, nI_add]
    rw [hsh]
    simp (disch := omega) only [nI_leI]
    cases m with
    | zero =>
      rw [if_pos (by omega), show s = 2 ^ (l + 1) by omega, fwt_sum (cWt_le h hk).2.1 (by omega), pk_mul, zl_shl1 (by omega), q10_lowest F hj (sFg_le S k hc (by omega)) (by omega) hF]
      exact ⟨T, rfl, g.1, g.2.1⟩
    | succ m =>
      rw [if_neg (by omega)]
      obtain ⟨U, u1, u2⟩ := q10_fgL2 F h hc hl hk (show s < 2 ^ (l + 1) by omega) (lN (fb_sm (fwt S c (l + 1) k) s)) (fun b0 b1 b2 => pX10_foggedOf_L34_8 (nI c) (nI l) (nI k) (nI j) F f b0 b1 b2) hF F (l + 1) 0 T g (fun t ht => by omega) (by omega) (by omega)
      rw [sp_wg] at u1
      rw [u1]
      obtain ⟨V, v1, v2⟩ := ih m (s + 1) U u2 (by omega) (by omega)
      rw [fb_sm_succ, ← lN_add] at v1
      exact ⟨V, v1, v2⟩
theorem q10_fgL0 (F : Nat) (c l k j : Int32) {T : zz_M} : ∀ (f m i : Nat) (z : Nat → Int32), i + m = 96 → m < f → (∀ t, t < i → z t = zb false) →
    ∃ z', pX10_foggedOf_L10_4 c l k j F f (nI i) (zz_sA T 7 z) = pX10_foggedOf_L34_8 c l k j F F (lN 0) (nI 0) (zz_sA T 7 z') ∧ ∀ t, t < 96 → z' t = zb false := by
  intro f
  induction f with
  | zero => intro m i z _ h; omega
  | succ f ih =>
    intro m i z hm hf hz
    rw [pX10_foggedOf_L10_4]
    simp only [zz_lt]
    simp (disch := omega) only [zl_lit, zl_litL, nI_leI, zl_in, nI_clamp, nI_add]
    cases m with
    | zero => rw [if_pos (by omega)]; exact ⟨z, rfl, fun t ht => hz t (by omega)⟩
    | succ m =>
      rw [if_neg (by omega), if_pos (by omega), zs_AA, show zz_gA (zz_sA T 7 z) 7 = z from by rw [zg_AA, if_pos rfl], show vp_nar .boolean (nI 0) = zb false from zb_n false]
      refine ih m (i + 1) _ (by omega) (by omega) (fun t ht => ?_)
      by_cases q : t = i
      · subst q; rw [pk_us]
      · rw [pk_un q]; exact hz t (by omega)
theorem q10_foggedOf (F : Nat) {S : zz_M} {c l k j : Nat} (h : ok10 S) (hc : c ≤ 16) (hl : l ≤ 9) (hk : k < cT S) (hj : j < 2) (hF : 2000 ≤ F) : ∃ U, pX10_foggedOf F (nI c) (nI l) (nI k) (nI j) S = some (sFa S c (l + 1) k j, U) ∧ sm S U ∧ rd10 U := by
  have hp : 2 ^ (l + 1) ≤ 2 ^ 10 := Nat.pow_le_pow_right (by decide) (by omega)
  obtain ⟨T, e1, e2, e3, e4, e5, e6⟩ := q10_asTold F h (show 100 ≤ F by omega)
  unfold pX10_foggedOf
  rw [e1]
  simp only [zz_b1, zl_lit]
  obtain ⟨z, z1, z2⟩ := q10_fgL0 F (nI c) (nI l) (nI k) (nI j) (T := T) F 96 0 (zz_gA T 7) (by omega) (by omega) (fun t ht => by omega)
  rw [ss_A] at z1
  rw [z1]
  have s1 : sm T (zz_sA T 7 z) := sm_sA (sm_rfl T) (by decide)
  exact q10_fgL1 F h hc hl hk hj hF F (2 ^ (l + 1)) 0 (zz_sA T 7 z) ⟨sm_tr e2 s1, rd_sm s1 rfl rfl rfl rfl rfl rfl rfl rfl e3, e4, e5, fun t _ h2 => by rw [zg_AA, if_pos rfl]; exact z2 t h2⟩ (by omega) (by omega)
theorem sm_Fa {S T : zz_M} (h : sm S T) (c L k j : Nat) : sFa T c L k j = sFa S c L k j := by
  have e1 : sSc T k = sSc S k := by funext t; unfold sSc; rw [sm_N h, sm_W h, sm_K h, sm_Si h, sm_P h, sm_Wt h]
  have e2 : sFo T k = sFo S k := by funext t; unfold sFo; rw [sm_N h, sm_W h, sm_K h, sm_Si h, sm_P h, sm_Wt h]
  have e3 : sFg T c L k = sFg S c L k := by unfold sFg; rw [e1, e2, sm_N h, sm_K h, sm_Wt h, sm_Nd h]
  unfold sFa; rw [e3]
theorem q10_no (F : Nat) : pX10_no F (-nI 2) = some rfL := by
  unfold pX10_no
  decide
theorem q10_fogged (F : Nat) {S : zz_M} (h : ok10 S) (hF : 2000 ≤ F) (u0 u1 u2 u3 : Int32) : ∃ T, pX10_fogged F u0 u1 u2 u3 S = some (a_fogged S u0 u1 u2 u3, T) ∧ sm S T := by
  unfold pX10_fogged a_fogged
  simp only [zl_lit, zz_lt]
  rw [q10_inN F u0 (by omega), q10_inN F u1 (by omega), q10_inN F u3 (by omega), q10_no]
  simp only [zz_b1, zb0]
  cases q0 : zu u0 17 with
  | none => exact ⟨S, rfl, sm_rfl S⟩
  | some c =>
    cases q1 : zu u1 10 with
    | none => exact ⟨S, rfl, sm_rfl S⟩
    | some l =>
      obtain ⟨T, e1, e2, -⟩ := q10_isThief F h (show 100 ≤ F by omega) u2
      rw [e1]
      simp only [zz_b2, zb0]
      cases q2 : zu u2 (cT S) with
      | none => exact ⟨T, rfl, e2⟩
      | some k =>
        cases q3 : zu u3 2 with
        | none => exact ⟨T, rfl, e2⟩
        | some j =>
          obtain ⟨a1, a2⟩ := zu_S q0
          obtain ⟨b1, b2⟩ := zu_S q1
          obtain ⟨c1, c2⟩ := zu_S q2
          obtain ⟨d1, d2⟩ := zu_S q3
          subst a2 b2 c2 d2
          obtain ⟨U, f1, f2, -⟩ := q10_foggedOf F (sm_ok e2 h) (show c ≤ 16 by omega) (show l ≤ 9 by omega) (show k < cT T by rw [sm_T e2]; exact c1) d1 hF
          rw [sm_Fa e2] at f1
          rw [f1]
          exact ⟨U, rfl, sm_tr e2 f2⟩
