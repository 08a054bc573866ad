/-! the ward: neighbours -/
def sp_nb (n w c d : Nat) : Option Nat :=
  if d = 0 then (if w ≤ c then some (c - w) else none)
  else if d = 1 then (if c % w + 1 < w then some (c + 1) else none)
  else if d = 2 then (if c + w < n then some (c + w) else none)
  else if d = 3 then (if 0 < c % w then some (c - 1) else none)
  else none
def sp_W (n w : Nat) (kd : Nat → Int32) : Prop := n ≤ 36 ∧ w ≤ 6 ∧ (0 < n → 0 < w ∧ n % w = 0) ∧ ∀ i, i < n → ∃ j, j ≤ 4 ∧ kd i = nI j
theorem sp_nb_lt {n w c d c' : Nat} {kd : Nat → Int32} (h : sp_W n w kd) (hc : c < n) (e : sp_nb n w c d = some c') : c' < n := by
  obtain ⟨h1, h2, h3, -⟩ := h
  obtain ⟨h4, h5⟩ := h3 (by omega)
  unfold sp_nb at e
  split at e
  · split at e <;> simp at e; omega
  · split at e
    · split at e <;> simp at e
      rename_i q
      rcases (show w = 1 ∨ w = 2 ∨ w = 3 ∨ w = 4 ∨ w = 5 ∨ w = 6 by omega) with rfl | rfl | rfl | rfl | rfl | rfl <;> omega
    · split at e
      · split at e <;> simp at e; omega
      · split at e
        · split at e <;> simp at e; omega
        · cases e
theorem q8_neighbour (F : Nat) {n w c d : Nat} {sh : Int64} {ks : Nat → Int32} (h : sp_W n w ks) (hc : c < n) (hd : d < 4) : pX8_neighbour F (nI c) (nI d) (nI n) (nI w) sh ks = some (sp_i (sp_nb n w c d)) := by
  obtain ⟨h1, h2, h3, -⟩ := h
  obtain ⟨h4, h5⟩ := h3 (by omega)
  unfold pX8_neighbour
  simp only [zz_lt]
  have hw : ¬ w = 0 := by omega
  have hm1 : c % w < w := Nat.mod_lt _ h4
  have hm2 : c % w ≤ c := Nat.mod_le _ _
  rw [zl_rem (by omega) h4 (by omega)]
  unfold sp_nb
  generalize c % w = m at hm1 hm2 ⊢
  rcases (show d = 0 ∨ d = 1 ∨ d = 2 ∨ d = 3 by omega) with rfl | rfl | rfl | rfl <;> simp (disch := omega) only [zl_lit, nI_eq, nI_ltI, nI_leI, nI_add] <;> simp only [hw, if_true, if_false, not_false_eq_true, Nat.reduceEqDiff, reduceIte, Nat.one_ne_zero]
  · by_cases q : c < w
    · rw [if_pos q, if_neg (by omega)]; rfl
    · rw [if_neg q, if_pos (by omega), pk_sub (by omega)]; rfl
  · by_cases q : w ≤ m + 1
    · rw [if_pos q, if_neg (by omega)]; rfl
    · rw [if_neg q, if_pos (by omega)]; rfl
  · by_cases q : n ≤ c + w
    · rw [if_pos q, if_neg (by omega)]; rfl
    · rw [if_neg q, if_pos (by omega)]; rfl
  · by_cases q : m ≤ 0
    · rw [if_pos q, if_neg (by omega)]; rfl
    · rw [if_neg q, if_pos (by omega), pk_sub (by omega)]; rfl
theorem q8_neighbour4 (F : Nat) {n w c : Nat} {sh : Int64} {ks : Nat → Int32} (h : sp_W n w ks) (hc : c < n) : pX8_neighbour F (nI c) (nI 4) (nI n) (nI w) sh ks = some (nI c) := by
  obtain ⟨h1, h2, h3, -⟩ := h
  obtain ⟨h4, h5⟩ := h3 (by omega)
  have hw : ¬ w = 0 := by omega
  unfold pX8_neighbour
  simp only [zz_lt]
  simp (disch := omega) only [zl_lit, nI_eq, zl_T]
  simp [hw]
theorem q8_has (F : Nat) {n : Nat} {w : Int32} {sh : Int64} {ks : Nat → Int32} (hn : n ≤ 36) (o : Option Nat) (ho : ∀ c, o = some c → c < 2 ^ 31) : pX8_has F (sp_i o) (nI n) w sh ks = some (zb (match o with | none => false | some c => decide (c < n))) := by
  unfold pX8_has
  simp only [zz_lt]
  cases o with
  | none =>
    simp (disch := omega) only [zl_lit, sp_iN, zl_m1c, zl_m1d, zl_m1e]
    rfl
  | some c =>
    have hc := ho c rfl
    simp (disch := omega) only [zl_lit, sp_iS, nI_ltI, nI_leI]
    by_cases q : c < n
    · simp [q, zb]; rw [if_neg (by omega)]; rfl
    · simp [q, zb]; rw [if_pos (by omega)]; rfl
theorem zl_shl1 {c : Nat} (hc : c < 64) : zz_lshl (lN 1) (nI c) = lN (2 ^ c) := by
  unfold zz_lshl
  rw [wb_shl 1 hc, Nat.one_mul]
/-! what is seen -/
def sp_ray (n w : Nat) (kd : Nat → Int32) (d : Nat) : Nat → Option Nat → Nat
  | 0, _ => 0
  | _ + 1, none => 0
  | k + 1, some c => if kd c = nI 1 then 0 else 2 ^ c ||| sp_ray n w kd d k (sp_nb n w c d)
def sp_vd (n w : Nat) (kd : Nat → Int32) (s c : Nat) : Nat → Nat
  | 0 => 2 ^ c
  | d + 1 => sp_vd n w kd s c d ||| sp_ray n w kd d s (sp_nb n w c d)
def sp_view (n w : Nat) (kd : Nat → Int32) (s c : Nat) : Nat := sp_vd n w kd s c 4
theorem q8_vfL2 (F : Nat) {n w s d : Nat} {sh : Int64} {ks : Nat → Int32} (h : sp_W n w ks) (hs : s ≤ 9) (hd : d < 4) (kL : Int64 → Int32 → Option Int64) :
    ∀ (f a m : Nat) (o : Option Nat), (∀ c, o = some c → c < n) → 1 ≤ a → a ≤ s + 1 → s + 2 ≤ f + a → pX8_viewFrom_L35_11 (nI s) F (nI n) (nI w) sh ks (nI d) kL f (lN m) (sp_i o) (nI a) = kL (lN (m ||| sp_ray n w ks d (s + 1 - a) o)) (nI (d + 1)) := by
  have hn := h.1
  intro f
  induction f with
  | zero => intro a m o _ h1 h2 h3; omega
  | succ f ih =>
    intro a m o ho h1 h2 h3
    rw [pX8_viewFrom_L35_11]
    simp only [zz_lt]
    rw [q8_has F hn o (fun c e => by have := ho c e; omega)]
    simp only [zz_b1]
    simp (disch := omega) only [zl_lit, zl_litL, nI_ltI, nI_add]
    by_cases q : s < a
    · rw [if_pos q, show s + 1 - a = 0 by omega, sp_ray, Nat.or_zero]
    · rw [if_neg q]
      obtain ⟨k, hk⟩ : ∃ k, s + 1 - a = k + 1 := ⟨s - a, by omega⟩
      cases o with
      | none =>
        simp only [zb0]
        rw [if_pos trivial, hk, sp_ray, Nat.or_zero]
      | some c =>
        have hc := ho c rfl
        simp only [zb0, sp_iS]
        rw [if_neg (by simp [hc]), if_pos ((zl_in (by omega)).mpr (by omega)), nI_clamp (by omega), hk, sp_ray]
        by_cases q2 : ks c = nI 1
        · rw [if_pos q2, if_pos q2, Nat.or_zero]
        · rw [if_neg q2, if_neg q2, q8_neighbour F h hc hd]
          simp only
          rw [zl_shl1 (by omega), fb_orL, ih (a + 1) (m ||| 2 ^ c) (sp_nb n w c d) (fun c' e => sp_nb_lt h hc e) (by omega) (by omega) (by omega), Nat.or_assoc, show s + 1 - (a + 1) = k by omega]
theorem q8_vfL1 (F : Nat) {n w s c : Nat} {sh : Int64} {ks : Nat → Int32} (h : sp_W n w ks) (hs : s ≤ 9) (hc : c < n) (hF : 12 ≤ F) :
    ∀ (f d : Nat), d ≤ 4 → 5 ≤ f + d → pX8_viewFrom_L17_5 (nI c) (nI s) F (nI n) (nI w) sh ks f (lN (sp_vd n w ks s c d)) (nI d) = some (lN (sp_view n w ks s c)) := by
  intro f
  induction f with
  | zero => intro d h1 h2; omega
  | succ f ih =>
    intro d h1 h2
    rw [pX8_viewFrom_L17_5]
    simp (disch := omega) only [zl_lit, nI_leI]
    by_cases q : 4 ≤ d
    · rw [if_pos q, show d = 4 by omega]; rfl
    · rw [if_neg q, q8_neighbour F h hc (by omega)]
      simp only [zz_b1]
      rw [q8_vfL2 F h hs (by omega) _ F 1 _ _ (fun c' e => sp_nb_lt h hc e) (by omega) (by omega) (by omega)]
      exact ih (d + 1) (by omega) (by omega)
theorem q8_viewFrom (F : Nat) {n w s c : Nat} {sh : Int64} {ks : Nat → Int32} (h : sp_W n w ks) (hs : s ≤ 9) (hc : c < n) (hF : 12 ≤ F) : pX8_viewFrom F (nI c) (nI s) (nI n) (nI w) sh ks = some (lN (sp_view n w ks s c)) := by
  have hn := h.1
  unfold pX8_viewFrom
  rw [← sp_iS, q8_has F hn (some c) (fun c' e => by cases e; omega)]
  simp only [zz_b1, zz_lt, zb0', sp_iS]
  rw [if_neg (by simp [hc]), show (1 : Int64) = lN 1 from rfl, zl_shl1 (by omega)]
  exact q8_vfL1 F h hs hc hF F 0 (by omega) (by omega)
theorem q8_viewFromN (F : Nat) {n : Nat} {w s : Int32} {sh : Int64} {ks : Nat → Int32} (hn : n ≤ 36) : pX8_viewFrom F (-1) s (nI n) w sh ks = some (lN 0) := by
  unfold pX8_viewFrom
  rw [show (-1 : Int32) = sp_i none from rfl, q8_has F hn none (fun c e => by cases e)]
  simp only [zz_b1, zb0']
  rfl
