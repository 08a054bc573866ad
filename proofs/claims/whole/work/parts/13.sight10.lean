/-! the reference's own sight -/
theorem q10_in (F : Nat) (x lo hi : Int32) : pX10_in F x lo hi = some (zb (decide (lo.toInt ≤ x.toInt ∧ x.toInt ≤ hi.toInt))) := by
  unfold pX10_in
  simp only [zz_lt, fa_lt]
  by_cases h1 : x.toInt < lo.toInt
  · rw [if_pos h1, decide_eq_false (by omega)]; rfl
  · rw [if_neg h1]
    by_cases h2 : hi.toInt < x.toInt
    · rw [if_pos h2, decide_eq_false (by omega)]; rfl
    · rw [if_neg h2, decide_eq_true (by omega)]; rfl
theorem q10_beside (F : Nat) {n w c d : Nat} {S : zz_M} {kd : Nat → Int32} (h : sp_W n w kd) (h0 : zz_gI S 0 = nI w) (h2' : zz_gI S 2 = nI n) (hc : c < n) (hd : d ≤ 4) : pX10_beside F (nI c) (nI d) S = some (sp_i (sp_nb n w c d)) := by
  have hlt := fun c' => @sp_nb_lt n w c d c' kd h hc
  obtain ⟨h1, h2, h3, -⟩ := h
  obtain ⟨h4, h5⟩ := h3 (by omega)
  have hw : ¬ w = 0 := by omega
  have hm1 : c % w < w := Nat.mod_lt _ h4
  have hm2 : c % w ≤ c := Nat.mod_le _ _
  have key : ∀ (y : Int32) (o : Option Nat), (∀ c', o = some c' → c' < n) → ((∃ c', y = nI c' ∧ o = (if c' < n then some c' else none) ∧ c' < 2 ^ 31) ∨ (y.toInt < 0 ∧ o = none)) → (zz_b1 (pX10_in F y (nI 0) (nI (n - 1))) (fun r3 => some (if r3 = nI 0 then -nI 1 else y))) = some (sp_i o) := by
    intro y o _ hy
    rw [q10_in, zl_T (by omega), zl_T (by omega)]
    simp only [zz_b1, zb0]
    rcases hy with ⟨c', e1, e2, e3⟩ | ⟨e1, e2⟩
    · rw [e1, e2, zl_T (by omega)]
      by_cases q : c' < n
      · rw [if_pos q, if_neg (by rw [decide_eq_true (by omega)]; decide)]; rfl
      · rw [if_neg q, if_pos (decide_eq_false (by omega))]; rfl
    · rw [e2, if_pos (decide_eq_false (by omega))]; rfl
  unfold pX10_beside
  rw [h0, h2', zl_rem (by omega) h4 (by omega)]
  simp only [zz_lt]
  unfold sp_nb at hlt ⊢
  generalize c % w = m at hm1 hm2 hlt ⊢
  rcases (show d = 0 ∨ d = 1 ∨ d = 2 ∨ d = 3 ∨ d = 4 by omega) with rfl | rfl | rfl | rfl | rfl <;> simp (disch := omega) only [zl_lit, nI_eq, nI_leI, nI_add, pk_sub] <;> simp only [hw, if_true, if_false, not_false_eq_true, Nat.reduceEqDiff, reduceIte, Nat.one_ne_zero] at hlt ⊢
  · refine key _ _ hlt ?_
    by_cases q : w ≤ c
    · exact Or.inl ⟨c - w, pk_sub q, by rw [if_pos q, if_pos (by omega)], by omega⟩
    · exact Or.inr ⟨by rw [pk_sub_toInt (by omega) (by omega)]; omega, by rw [if_neg q]⟩
  · by_cases q : w - 1 ≤ m
    · rw [if_pos q]
      exact key (-nI 1) _ hlt (Or.inr ⟨by decide, by rw [if_neg (by omega)]⟩)
    · rw [if_neg q]
      have := hlt (c + 1) (by rw [if_pos (by omega)])
      exact key _ _ hlt (Or.inl ⟨c + 1, rfl, by rw [if_pos (by omega), if_pos this], by omega⟩)
  · exact key _ _ hlt (Or.inl ⟨c + w, rfl, rfl, by omega⟩)
  · by_cases q : m ≤ 0
    · rw [if_pos q]
      exact key (-nI 1) _ hlt (Or.inr ⟨by decide, by rw [if_neg (by omega)]⟩)
    · rw [if_neg q]
      exact key (nI (c - 1)) _ hlt (Or.inl ⟨c - 1, rfl, by rw [if_pos (by omega), if_pos (by omega)], by omega⟩)
  · exact key (-nI 1) _ hlt (Or.inr ⟨by decide, rfl⟩)
theorem zs_up1 {α : Type} (f : Nat → α) (k : Nat) (a b : α) : zz_up (zz_up f k a) k b = zz_up f k b := by
  funext j; unfold zz_up; cases Nat.beq j k <;> rfl
theorem zs_up2 {α : Type} (f : Nat → α) {j k : Nat} (h : j ≠ k) (a b : α) : zz_up (zz_up f j a) k b = zz_up (zz_up f k b) j a := by
  funext i; unfold zz_up
  cases e1 : Nat.beq i j <;> cases e2 : Nat.beq i k <;> try rfl
  exact absurd ((Nat.eq_of_beq_eq_true e1).symm.trans (Nat.eq_of_beq_eq_true e2)) h
theorem zs_II (S : zz_M) (k : Nat) (a b : Int32) : zz_sI (zz_sI S k a) k b = zz_sI S k b := by
  unfold zz_sI; rw [zs_up1]
theorem zs_IIc (S : zz_M) {j k : Nat} (h : j ≠ k) (a b : Int32) : zz_sI (zz_sI S j a) k b = zz_sI (zz_sI S k b) j a := by
  unfold zz_sI; rw [zs_up2 _ h]
/-- the reference's marks: two numbers of 18 bits -/
def mkS (S : zz_M) (m : Nat) : zz_M := zz_sI (zz_sI S 10 (nI (m % 2 ^ 18))) 11 (nI (m / 2 ^ 18))
theorem mkS_set (S : zz_M) (m : Nat) (x y : Int32) : zz_sI (zz_sI (mkS S m) 10 x) 11 y = zz_sI (zz_sI S 10 x) 11 y := by
  unfold mkS
  rw [zs_IIc _ (show (11 : Nat) ≠ 10 by decide), zs_II, zs_II]
theorem mkS_I (S : zz_M) (m j : Nat) (h1 : j ≠ 10) (h2 : j ≠ 11) : zz_gI (mkS S m) j = zz_gI S j := by
  unfold mkS; rw [zg_II, if_neg h2, zg_II, if_neg h1]
theorem mkS_A (S : zz_M) (m j : Nat) : zz_gA (mkS S m) j = zz_gA S j := rfl
theorem mkS_10 (S : zz_M) (m : Nat) : zz_gI (mkS S m) 10 = nI (m % 2 ^ 18) := by
  unfold mkS; rw [zg_II, if_neg (by decide), zg_II, if_pos rfl]
theorem mkS_11 (S : zz_M) (m : Nat) : zz_gI (mkS S m) 11 = nI (m / 2 ^ 18) := by
  unfold mkS; rw [zg_II, if_pos rfl]
theorem zl_ishl1 : ∀ c, c < 31 → nI 1 <<< (nI c &&& nI 31) = nI (2 ^ c) := by decide
theorem or_lo {m c : Nat} (hc : c < 36) : (m ||| 2 ^ c) % 2 ^ 18 = m % 2 ^ 18 ||| (if c < 18 then 2 ^ c else 0) := by
  rw [Nat.or_mod_two_pow]
  by_cases q : c < 18
  · rw [if_pos q, Nat.mod_eq_of_lt (Nat.pow_lt_pow_right (by decide) q)]
  · rw [if_neg q, Nat.mod_eq_zero_of_dvd (Nat.pow_dvd_pow 2 (by omega))]
theorem or_hi {m c : Nat} (hc : c < 36) : (m ||| 2 ^ c) / 2 ^ 18 = m / 2 ^ 18 ||| (if c < 18 then 0 else 2 ^ (c - 18)) := by
  rw [Nat.or_div_two_pow]
  by_cases q : c < 18
  · rw [if_pos q, Nat.div_eq_of_lt (Nat.pow_lt_pow_right (by decide) q)]
  · rw [if_neg q, Nat.pow_div (by omega) (by decide)]
theorem q10_marks (F : Nat) {S : zz_M} {m c : Nat} (hc : c < 36) : pX10_marks F (nI c) (mkS S m) = some (mkS S (m ||| 2 ^ c)) := by
  unfold pX10_marks
  simp only [zz_lt]
  rw [mkS_10, zg_II, if_neg (show ¬ (11 : Nat) = 10 by decide), mkS_11, mkS_set]
  unfold mkS
  rw [or_lo hc, or_hi hc, ← fa_or, ← fa_or]
  simp (disch := omega) only [zl_lit, nI_leI]
  by_cases q : 18 ≤ c
  · rw [if_pos q, if_pos q, if_neg (show ¬ c < 18 by omega), if_neg (show ¬ c < 18 by omega), pk_sub (by omega), zl_ishl1 _ (by omega)]
  · rw [if_neg q, if_neg q, if_pos (show c < 18 by omega), if_pos (show c < 18 by omega), zl_ishl1 _ (by omega)]
theorem q10_lkL2 (F : Nat) {n w s d : Nat} {S : zz_M} {kd : Nat → Int32} (h : sp_W n w kd) (h0 : zz_gI S 0 = nI w) (h2 : zz_gI S 2 = nI n) (hk : zz_gA S 2 = kd) (hs : s ≤ 9) (hd : d < 4) (kL : Int32 → zz_M → Option zz_M) :
    ∀ (f a m : Nat) (o : Option Nat), (∀ c, o = some c → c < n) → a ≤ s → s + 1 ≤ f + a → pX10_looks_L39_12 (nI s) F (nI d) kL f (sp_i o) (nI a) (mkS S m) = kL (nI (d + 1)) (mkS S (m ||| sp_ray n w kd d (s - a) o)) := by
  have hn := h.1
  intro f
  induction f with
  | zero => intro a m o _ h1 h3; omega
  | succ f ih =>
    intro a m o ho h1 h3
    rw [pX10_looks_L39_12]
    simp only [zz_lt]
    rw [mkS_A, hk]
    simp (disch := omega) only [zl_lit, nI_leI, nI_add]
    by_cases q : s ≤ a
    · rw [if_pos q, show s - a = 0 by omega, sp_ray, Nat.or_zero]
    · rw [if_neg q]
      obtain ⟨k, hk'⟩ : ∃ k, s - a = k + 1 := ⟨s - a - 1, by omega⟩
      cases o with
      | none => rw [if_pos sp_iN, hk', sp_ray, Nat.or_zero]
      | some c =>
        have hc := ho c rfl
        simp only [sp_iS]
        rw [if_neg (by rw [zl_m1a (by omega)]; exact id), if_pos ((zl_in (by omega)).mpr (by omega)), nI_clamp (by omega), hk', sp_ray]
        by_cases q2 : kd c = nI 1
        · rw [if_pos q2, if_pos q2, Nat.or_zero]
        · rw [if_neg q2, if_neg q2, q10_marks F (by omega)]
          simp only [zz_b1]
          rw [q10_beside F h (by rw [mkS_I _ _ _ (by decide) (by decide)]; exact h0) (by rw [mkS_I _ _ _ (by decide) (by decide)]; exact h2) hc (by omega)]
          simp only
          rw [ih (a + 1) (m ||| 2 ^ c) (sp_nb n w c d) (fun c' e => sp_nb_lt h hc e) (by omega) (by omega), Nat.or_assoc, show s - (a + 1) = k by omega]
theorem q10_lkL1 (F : Nat) {n w s c : Nat} {S : zz_M} {kd : Nat → Int32} (h : sp_W n w kd) (h0 : zz_gI S 0 = nI w) (h2 : zz_gI S 2 = nI n) (hk : zz_gA S 2 = kd) (hs : s ≤ 9) (hc : c < n) (hF : 12 ≤ F) :
    ∀ (f d : Nat), d ≤ 4 → 5 ≤ f + d → pX10_looks_L23_6 (nI c) (nI s) F f (nI d) (mkS S (sp_vd n w kd s c d)) = some (mkS S (sp_view n w kd s c)) := by
  intro f
  induction f with
  | zero => intro d h1 h3; omega
  | succ f ih =>
    intro d h1 h3
    rw [pX10_looks_L23_6]
    simp (disch := omega) only [zl_lit, nI_leI]
    by_cases q : 4 ≤ d
    · rw [if_pos q, show d = 4 by omega]; rfl
    · rw [if_neg q, q10_beside F h (by rw [mkS_I _ _ _ (by decide) (by decide)]; exact h0) (by rw [mkS_I _ _ _ (by decide) (by decide)]; exact h2) hc (by omega)]
      simp only [zz_b1]
      rw [q10_lkL2 F h h0 h2 hk hs (by omega) _ F 0 _ _ (fun c' e => sp_nb_lt h hc e) (by omega) (by omega)]
      exact ih (d + 1) (by omega) (by omega)
def sp_see (n w : Nat) (kd : Nat → Int32) (s : Nat) : Option Nat → Nat
  | none => 0
  | some c => sp_view n w kd s c
theorem q10_looks (F : Nat) {n w s : Nat} {S : zz_M} {kd : Nat → Int32} (h : sp_W n w kd) (h0 : zz_gI S 0 = nI w) (h2 : zz_gI S 2 = nI n) (hk : zz_gA S 2 = kd) (hs : s ≤ 9) (hF : 12 ≤ F) (o : Option Nat) (ho : ∀ c, o = some c → c < n) : pX10_looks F (sp_i o) (nI s) S = some (mkS S (sp_see n w kd s o)) := by
  have hn := h.1
  unfold pX10_looks
  simp only [zz_lt]
  have e0 : zz_sI (zz_sI S 10 0) 11 0 = mkS S 0 := rfl
  rw [e0]
  cases o with
  | none => rw [if_pos (show sp_i none = (-1 : Int32) from rfl)]; rfl
  | some c =>
    have hc := ho c rfl
    rw [if_neg (by rw [sp_iS, show (-1 : Int32) = -nI 1 from rfl, zl_m1a (by omega)]; exact id), sp_iS, q10_marks F (by omega)]
    simp only [zz_b1]
    rw [Nat.zero_or]
    exact q10_lkL1 F h h0 h2 hk hs hc hF F 0 (by omega) (by omega)
