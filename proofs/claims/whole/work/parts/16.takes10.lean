/-! who takes, on the reference's side -/
theorem zl_smod : ∀ k, k < 32 → ((nI k &&& nI 31).toBitVec.smod 32).toNat = k := by decide
theorem zl_ishr {a k : Nat} (ha : a < 2 ^ 31) (hk : k < 32) : nI a >>> (nI k &&& nI 31) = nI (a / 2 ^ k) := pk_shrN ha _ k (zl_smod k hk)
theorem q10_isIn (F : Nat) {a k : Nat} (ha : a < 2 ^ 31) (hk : k < 31) : pX10_isIn F (nI a) (nI k) = some (zb (a.testBit k)) := by
  unfold pX10_isIn
  simp only [zz_lt]
  simp only [zl_lit]
  rw [zl_ishr ha (by omega), show nI (a / 2 ^ k) &&& nI 1 = nI (a / 2 ^ k % 2) from fa_mask (a / 2 ^ k) 1, Nat.testBit_eq_decide_div_mod_eq]
  have hb : a / 2 ^ k % 2 < 2 := Nat.mod_lt _ (by decide)
  generalize a / 2 ^ k % 2 = x at hb ⊢
  by_cases q : x = 1
  · rw [if_pos (by rw [q]), decide_eq_true q]; rfl
  · rw [if_neg (fun z => q ((nI_eq (by omega) (by omega)).mp z)), decide_eq_false q]; rfl
def sp_LH (lo hi : Nat → Int32) (vm : Nat → Nat) : Prop := ∀ t, t < 96 → lo t = nI (vm t % 2 ^ 18) ∧ hi t = nI (vm t / 2 ^ 18) ∧ vm t < 2 ^ 36
theorem q10_isSeenAt (F : Nat) {S : zz_M} {vm : Nat → Nat} (hv : sp_LH (zz_gA S 9) (zz_gA S 10) vm) {t c : Nat} (ht : t < 96) (hc : c < 36) : pX10_isSeenAt F (nI t) (nI c) S = some (zb ((vm t).testBit c)) := by
  obtain ⟨h1, h2, h3⟩ := hv t ht
  unfold pX10_isSeenAt
  simp only [zz_lt]
  have h4 : vm t % 2 ^ 18 < 2 ^ 18 := Nat.mod_lt _ (by decide)
  have h5 : vm t / 2 ^ 18 < 2 ^ 18 := by omega
  simp (disch := omega) only [zl_lit, nI_leI, zl_in, nI_clamp]
  by_cases q : 18 ≤ c
  · rw [if_pos q, if_pos (by omega), h2, pk_sub (by omega), q10_isIn F (by omega) (by omega), Nat.testBit_div_two_pow, show c - 18 + 18 = c by omega]
    simp only [zz_b1, zb1']
    rw [if_pos trivial]
  · rw [if_neg q, if_pos (by omega), h1, q10_isIn F (by omega) (by omega), Nat.testBit_mod_two_pow, decide_eq_true (show c < 18 by omega), Bool.true_and]
    simp only [zz_b1, zb1']
    rw [if_pos trivial]
theorem q10_tnL (F : Nat) {S : zz_M} {vm : Nat → Nat} (hv : sp_LH (zz_gA S 9) (zz_gA S 10) vm) {i c need : Nat} (hi : i < 8) (hc : c < 36) (hn : zz_gA S 5 i = nI need) (h1 : 1 ≤ need) (h9 : need ≤ 9) : ∀ (f k t r : Nat), t + k = 96 → k < f → r ≤ t → r < need → pX10_takesNow_L32_6 (nI i) F S (nI c) f (nI r) (nI t) = some (sp_i (sp_end (fun t => (vm t).testBit c) need k t r)) := by
  intro f
  induction f with
  | zero => intro k t r _ h; omega
  | succ f ih =>
    intro k t r hk hf hr hrn
    rw [pX10_takesNow_L32_6]
    cases k with
    | zero =>
      simp (disch := omega) only [zl_lit, nI_leI]
      rw [if_pos (by omega), sp_end]; rfl
    | succ k =>
      rw [q10_isSeenAt F hv (by omega) hc]
      simp only [zz_lt, zz_b1]
      simp (disch := omega) only [zl_lit, nI_leI, zl_in, nI_clamp, nI_add, zb0]
      rw [if_neg (by omega), if_pos (by omega), sp_end, hn]
      have e : (if (vm t).testBit c = false then nI (r + 1) else nI 0) = nI (if (vm t).testBit c then 0 else r + 1) := by
        cases (vm t).testBit c <;> rfl
      rw [e]
      have hr3 : (if (vm t).testBit c then 0 else r + 1) ≤ need := by split <;> omega
      have hr2 : (if (vm t).testBit c then 0 else r + 1) ≤ t + 1 := by split <;> omega
      generalize (if (vm t).testBit c then 0 else r + 1) = r' at hr2 hr3 ⊢
      simp (disch := omega) only [nI_eq]
      by_cases q : r' = need
      · rw [if_pos q, if_pos (by omega)]; rfl
      · rw [if_neg q, if_neg (by omega)]
        exact ih k (t + 1) r' (by omega) (by omega) hr2 (by omega)
theorem q10_takesNow (F : Nat) {S : zz_M} {n m i : Nat} {kd wa ne : Nat → Int32} {vm wt nd : Nat → Nat} (hn : n ≤ 36) (hT : sp_T m wa ne wt nd) (hv : sp_LH (zz_gA S 9) (zz_gA S 10) vm) (g2 : zz_gI S 2 = nI n) (gk : zz_gA S 2 = kd) (gw : zz_gA S 4 = wa) (gn : zz_gA S 5 = ne) (hi : i < m) (hF : 100 ≤ F) : pX10_takesNow F (nI i) S = some (sp_i (sp_takes n kd vm wt nd i)) := by
  obtain ⟨hm, hT⟩ := hT
  obtain ⟨t1, t2, t3, t4, t5⟩ := hT i hi
  unfold pX10_takesNow sp_takes sp_shop
  simp only [zz_lt]
  rw [g2, gk, gw, if_pos ((zl_in (by omega)).mpr (by omega)), nI_clamp (by omega), t1]
  simp (disch := omega) only [zl_lit, nI_leI, zl_in, nI_clamp]
  by_cases q : wt i < n
  · rw [if_neg (by omega), if_pos (by omega), decide_eq_true q]
    by_cases q2 : kd (wt i) = nI 2
    · rw [if_pos q2, decide_eq_true q2, if_pos (by decide)]
      exact q10_tnL F hv (by omega) (by omega) (by rw [gn]; exact t3) t4 t5 F 96 0 0 rfl (by omega) (by omega) (by omega)
    · rw [if_neg q2, decide_eq_false q2, if_neg (by decide)]; rfl
  · rw [if_pos (by omega), decide_eq_false q, if_neg (by simp)]; rfl
/-- is a cell taken from by one of the first i thieves? -/
def sp_any (tk : Nat → Option Nat) (wt : Nat → Nat) (c : Nat) : Nat → Bool
  | 0 => false
  | i + 1 => sp_any tk wt c i || (decide (wt i = c) && (tk i).isSome)
theorem q10_itL (F : Nat) {S : zz_M} {n m c : Nat} {kd wa ne : Nat → Int32} {vm wt nd : Nat → Nat} (hn : n ≤ 36) (hT : sp_T m wa ne wt nd) (hv : sp_LH (zz_gA S 9) (zz_gA S 10) vm) (g2 : zz_gI S 2 = nI n) (gk : zz_gA S 2 = kd) (gw : zz_gA S 4 = wa) (gn : zz_gA S 5 = ne) (gm : zz_gI S 4 = nI m) (hc : c < 2 ^ 31) (hF : 100 ≤ F) : ∀ (f k i : Nat), i + k = m → k < f → pX10_isTaken_L4_2 (nI c) F S f (zb (sp_any (sp_takes n kd vm wt nd) wt c i)) (nI i) = some (zb (sp_any (sp_takes n kd vm wt nd) wt c m)) := by
  have hm := hT.1
  intro f
  induction f with
  | zero => intro k i _ h; omega
  | succ f ih =>
    intro k i hk hf
    rw [pX10_isTaken_L4_2]
    simp only [zz_lt]
    rw [gm]
    by_cases q : m ≤ i
    · rw [if_pos (by rw [nI_leI (by omega) (by omega)]; exact q), if_pos (zb1 _), show i = m by omega]
    · rw [if_neg (by rw [nI_leI (by omega) (by omega)]; exact q)]
      have h1 := ih (k - 1) (i + 1) (by omega) (by omega)
      rw [sp_any] at h1
      obtain ⟨t1, t2, -⟩ := hT.2 i (by omega)
      simp only [zb0']
      rw [gw, if_pos (show zz_in (nI i) 9 from (zl_in (by omega)).mpr (by omega)), nI_clamp (by omega), t1, q10_takesNow F hn hT hv g2 gk gw gn (by omega) hF]
      simp only [zz_b1]
      rw [nI_1 i]
      cases q1 : sp_any (sp_takes n kd vm wt nd) wt c i
      · rw [if_pos rfl]
        rw [q1, Bool.false_or] at h1
        by_cases q2 : wt i = c
        · rw [if_pos (by rw [q2])]
          rw [decide_eq_true q2, Bool.true_and] at h1
          cases q3 : sp_takes n kd vm wt nd i with
          | none => rw [if_pos (show sp_i none = (-1 : Int32) from rfl)]; rw [q3] at h1; exact h1
          | some x =>
            have := sp_takes_lt q3
            rw [if_neg (by rw [sp_iS, show (-1 : Int32) = -nI 1 from rfl, zl_m1a (by omega)]; exact id)]; rw [q3] at h1; exact h1
        · rw [if_neg (by rw [nI_eq (by omega) hc]; exact q2)]
          rw [decide_eq_false q2, Bool.false_and] at h1
          exact h1
      · rw [if_neg (by decide)]
        rw [q1, Bool.true_or] at h1
        exact h1
theorem q10_isTaken (F : Nat) {S : zz_M} {n m c : Nat} {kd wa ne : Nat → Int32} {vm wt nd : Nat → Nat} (hn : n ≤ 36) (hT : sp_T m wa ne wt nd) (hv : sp_LH (zz_gA S 9) (zz_gA S 10) vm) (g2 : zz_gI S 2 = nI n) (gk : zz_gA S 2 = kd) (gw : zz_gA S 4 = wa) (gn : zz_gA S 5 = ne) (gm : zz_gI S 4 = nI m) (hc : c < 2 ^ 31) (hF : 100 ≤ F) : pX10_isTaken F (nI c) S = some (zb (sp_any (sp_takes n kd vm wt nd) wt c m)) := by
  have hm := hT.1
  unfold pX10_isTaken
  exact q10_itL F hn hT hv g2 gk gw gn gm hc hF F m 0 (by omega) (by omega)
