/-! the reference reads the thieves' text -/
theorem sp_tl_bad {b : Nat → Int32} : ∀ (k i x : Nat), i ≤ x → x < i + k → (∀ j, i ≤ j → j < x → sp_ok (j % 4) (b j) = true) → sp_ok (x % 4) (b x) = false → sp_tl b k i = some x
  | 0, i, x, h1, h2, _, _ => by omega
  | k + 1, i, x, h1, h2, h3, h4 => by
    rw [sp_tl]
    by_cases e : i = x
    · subst e; rw [h4]; rfl
    · rw [h3 i (Nat.le_refl i) (by omega), if_pos rfl]
      exact sp_tl_bad k (i + 1) x (by omega) (by omega) (fun j hj1 hj2 => h3 j (by omega) hj2) h4
theorem sp_tl_all {b : Nat → Int32} : ∀ (k i : Nat), (∀ j, i ≤ j → j < i + k → sp_ok (j % 4) (b j) = true) → sp_tl b k i = none
  | 0, _, _ => rfl
  | k + 1, i, h => by
    rw [sp_tl, h i (Nat.le_refl i) (by omega), if_pos rfl]
    exact sp_tl_all k (i + 1) (fun j h1 h2 => h j (by omega) (by omega))
theorem sp_tfl_bad {b : Nat → Int32} {L x : Nat} (h1 : sp_tI b x) (h2 : x < L) (h3 : sp_ok (x % 4) (b x) = false) : sp_tfl b L = some x := by
  unfold sp_tfl; rw [sp_tl_bad L 0 x (by omega) (by omega) (fun j _ hj => h1 j hj) h3]
theorem sp_tfl_all {b : Nat → Int32} {L : Nat} (h1 : sp_tI b L) : sp_tfl b L = if L = 0 ∨ L % 4 = 3 then none else some L := by
  unfold sp_tfl; rw [sp_tl_all L 0 (fun j _ hj => h1 j (by omega))]
def thS (S : zz_M) (x4 : Int32) (k4 k5 : Nat → Int32) : zz_M := zz_sA (zz_sA (zz_sI S 4 x4) 4 k4) 5 k5
theorem thS_i (S : zz_M) (x y : Int32) (k4 k5 : Nat → Int32) : zz_sI (thS S x k4 k5) 4 y = thS S y k4 k5 := by
  show zz_sA (zz_sA (zz_sI (zz_sI S 4 x) 4 y) 4 k4) 5 k5 = _
  rw [zs_II]; rfl
theorem thS_4 (S : zz_M) (x : Int32) (k4 k5 k : Nat → Int32) : zz_sA (thS S x k4 k5) 4 k = thS S x k k5 := by
  unfold thS; rw [zs_AAc _ (show (5 : Nat) ≠ 4 by decide), zs_AA]
theorem thS_5 (S : zz_M) (x : Int32) (k4 k5 k : Nat → Int32) : zz_sA (thS S x k4 k5) 5 k = thS S x k4 k := by
  unfold thS; rw [zs_AA]
theorem thS_g4 (S : zz_M) (x : Int32) (k4 k5 : Nat → Int32) : zz_gA (thS S x k4 k5) 4 = k4 := rfl
theorem thS_g5 (S : zz_M) (x : Int32) (k4 k5 : Nat → Int32) : zz_gA (thS S x k4 k5) 5 = k5 := rfl
theorem thS_I (S : zz_M) (x : Int32) (k4 k5 : Nat → Int32) {j : Nat} (h : j ≠ 4) : zz_gI (thS S x k4 k5) j = zz_gI S j := by
  unfold thS; rw [zg_IA, zg_IA, zg_II, if_neg h]
theorem thS_A (S : zz_M) (x : Int32) (k4 k5 : Nat → Int32) {j : Nat} (h4 : j ≠ 4) (h5 : j ≠ 5) : zz_gA (thS S x k4 k5) j = zz_gA S j := by
  unfold thS; rw [zg_AA, if_neg h5, zg_AA, if_neg h4]; rfl
theorem thS_self (S : zz_M) (x : Int32) : zz_sI S 4 x = thS S x (zz_gA S 4) (zz_gA S 5) := by
  unfold thS
  have e1 : ∀ (T : zz_M) (k : Nat), zz_sA T k (zz_gA T k) = T := fun T k => by unfold zz_sA zz_gA; rw [zs_upS]
  rw [show zz_gA S 4 = zz_gA (zz_sI S 4 x) 4 from rfl, show zz_gA S 5 = zz_gA (zz_sI S 4 x) 5 from rfl, e1, e1]
/-- a figure of the text, or none -/
theorem q10_fig (F : Nat) {x : Int32} (hx : -1 ≤ x.toInt ∧ x.toInt ≤ 255) (lo hi : Nat) (hlo : lo ≤ 9) (hhi : hi ≤ 9) : pX10_in F (x - nI 48) (nI lo) (nI hi) = some (zb (decide ((48 + lo : Int) ≤ x.toInt ∧ x.toInt ≤ (48 + hi : Int)))) := by
  have k : (nI 48).toInt = 48 := by decide
  rw [q10_in, fb_subI (by rw [k]; omega) (by rw [k]; omega), k, zl_T (by omega), zl_T (by omega)]
  congr 2
  by_cases q : (lo : Int) ≤ x.toInt - 48 ∧ x.toInt - 48 ≤ (hi : Int)
  · rw [decide_eq_true q, decide_eq_true (by omega)]
  · rw [decide_eq_false q, decide_eq_false (by omega)]
def sp_by (b : Nat → Int32) (L j : Nat) : Int32 := if j < L then b j else -nI 1
theorem sp_by_ok {b : Nat → Int32} {L j : Nat} (hb : ∀ j, j < L → 0 ≤ (b j).toInt ∧ (b j).toInt ≤ 255) : -1 ≤ (sp_by b L j).toInt ∧ (sp_by b L j).toInt ≤ 255 := by
  unfold sp_by
  split
  · rename_i q; have := hb j q; omega
  · rw [zl_m1T]; omega
theorem sp_by_no {b : Nat → Int32} {L j p : Nat} (hj : ¬ j < L) : sp_ok p (sp_by b L j) = false := by
  unfold sp_by; rw [if_neg hj]
  unfold sp_ok
  split
  · decide
  · split
    · decide
    · split
      · decide
      · decide
theorem q10_readsThief (F L : Nat) {S : zz_M} (b wa ne : Nat → Int32) (x : Int32) (hL : L ≤ 31) (gt : zz_gA S 0 2 = nI L) (gb : ∀ j, j < L → zz_gA S 1 (82 + j) = b j) (hb : ∀ j, j < L → 0 ≤ (b j).toInt ∧ (b j).toInt ≤ 255) {t : Nat} (ht : t < 8) : pX10_readsThief F (nI t) (nI (4 * t)) (thS S x wa ne) =
    if sp_ok 0 (sp_by b L (4 * t)) = false then some (nI 0, thS S x wa ne) else if sp_ok 1 (sp_by b L (4 * t + 1)) = false then some (nI 1, thS S x wa ne) else if sp_ok 2 (sp_by b L (4 * t + 2)) = false then some (nI 2, thS S x wa ne) else some (nI 3, thS S x (upd wa t (nI (sp_wt (sp_by b L) t))) (upd ne t (nI (sp_nd (sp_by b L) t)))) := by
  have eby : ∀ j, j < 100 → pX10_byteAt F (nI 2) (nI j) (thS S x wa ne) = some (sp_by b L j) := by
    intro j hj
    rw [q10_byteAt F (tx := 2) (by decide) (by rw [thS_A _ _ _ _ (by decide) (by decide)]; exact gt) (by omega) hj, thS_A _ _ _ _ (by decide) (by decide)]
    unfold sp_by
    by_cases q : j < L
    · rw [if_pos q, if_pos q, gb j q]
    · rw [if_neg q, if_neg q]
  unfold pX10_readsThief
  simp only [zl_lit, nI_add]
  rw [eby _ (by omega), eby _ (by omega), eby _ (by omega)]
  simp only [zz_b1, zz_lt]
  rw [q10_fig F (sp_by_ok hb) 0 3 (by omega) (by omega), q10_fig F (sp_by_ok hb) 0 9 (by omega) (by omega), q10_fig F (sp_by_ok hb) 1 9 (by omega) (by omega)]
  simp only [zb0]
  have o0 : decide ((48 + (0 : Nat) : Int) ≤ (sp_by b L (4 * t)).toInt ∧ (sp_by b L (4 * t)).toInt ≤ (48 + (3 : Nat) : Int)) = sp_ok 0 (sp_by b L (4 * t)) := rfl
  have o1 : decide ((48 + (0 : Nat) : Int) ≤ (sp_by b L (4 * t + 1)).toInt ∧ (sp_by b L (4 * t + 1)).toInt ≤ (48 + (9 : Nat) : Int)) = sp_ok 1 (sp_by b L (4 * t + 1)) := rfl
  have o2 : decide ((48 + (1 : Nat) : Int) ≤ (sp_by b L (4 * t + 2)).toInt ∧ (sp_by b L (4 * t + 2)).toInt ≤ (48 + (9 : Nat) : Int)) = sp_ok 2 (sp_by b L (4 * t + 2)) := rfl
  rw [o0, o1, o2]
  cases q0 : sp_ok 0 (sp_by b L (4 * t))
  · rfl
  · cases q1 : sp_ok 1 (sp_by b L (4 * t + 1))
    · rfl
    · cases q2 : sp_ok 2 (sp_by b L (4 * t + 2))
      · rfl
      · obtain ⟨-, -, -, e0, e1, e2⟩ := sp_ok3 q0 q1 q2
        simp only [if_neg (show ¬ true = false by decide)]
        rw [if_pos ((zl_in (by omega)).mpr (by omega)), if_pos ((zl_in (by omega)).mpr (by omega)), nI_clamp (by omega), e0, e1, e2, pk_mul, nI_add, thS_g4, thS_4, thS_g5, thS_5]
        rfl
theorem sp_wt_by {b : Nat → Int32} {L t : Nat} (h : 4 * t + 2 < L) : sp_wt (sp_by b L) t = sp_wt b t ∧ sp_nd (sp_by b L) t = sp_nd b t := by
  unfold sp_wt sp_nd sp_by
  rw [if_pos (by omega), if_pos (by omega), if_pos (by omega)]; exact ⟨rfl, rfl⟩
theorem q10_rtL (F L : Nat) {S : zz_M} (b : Nat → Int32) (hL : L ≤ 31) (gt : zz_gA S 0 2 = nI L) (gb : ∀ j, j < L → zz_gA S 1 (82 + j) = b j) (hb : ∀ j, j < L → 0 ≤ (b j).toInt ∧ (b j).toInt ≤ 255) : ∀ (f t : Nat) (wa ne : Nat → Int32), 4 * t ≤ L → 9 ≤ f + t → sp_tI b (4 * t) → (∀ i, i < t → wa i = nI (sp_wt b i) ∧ ne i = nI (sp_nd b i)) →
    ∃ wa' ne' : Nat → Int32, pX10_readsThieves_L9_4 F f (nI t) (nI (4 * t)) (thS S (nI 0) wa ne) = some (sp_i (sp_tfl b L), thS S (nI (sp_tm b L)) wa' ne') ∧ ∀ i, i < sp_tm b L → wa' i = nI (sp_wt b i) ∧ ne' i = nI (sp_nd b i) := by
  intro f
  induction f with
  | zero => intro t wa ne h1 h2; omega
  | succ f ih =>
    intro t wa ne h1 h2 hI hw
    rw [pX10_readsThieves_L9_4]
    simp only [zz_lt]
    rw [thS_A (j := 0) _ _ _ _ (by decide) (by decide), show Int32.toNatClampNeg 2 = 2 from rfl, gt]
    -- the fault's end: no thieves
    have flt : ∀ x : Nat, sp_tfl b L = some x → ∃ wa' ne' : Nat → Int32, some (nI x, thS S (nI 0) wa ne) = some (sp_i (sp_tfl b L), thS S (nI (sp_tm b L)) wa' ne') ∧ ∀ i, i < sp_tm b L → wa' i = nI (sp_wt b i) ∧ ne' i = nI (sp_nd b i) := by
      intro x hx
      have hm : sp_tm b L = 0 := by unfold sp_tm; rw [hx]; rfl
      rw [hx, hm]
      exact ⟨wa, ne, rfl, fun i hi => absurd hi (Nat.not_lt_zero i)⟩
    by_cases q0 : L = 0
    · have e : t = 0 := by omega
      subst q0; subst e
      rw [if_neg (by decide), if_pos (by decide)]
      have hx : sp_tfl b 0 = none := rfl
      have hm : sp_tm b 0 = 0 := rfl
      rw [hx, hm]
      exact ⟨wa, ne, rfl, fun i hi => absurd hi (Nat.not_lt_zero i)⟩
    · have key : ∃ wa' ne' : Nat → Int32, (if nI t = 8 then (if (3 : Int32) ≤ 0 then (if nI (4 * t) + 3 = zz_gA (thS S (nI 0) wa ne) 0 2 then some (-1, zz_sI (thS S (nI 0) wa ne) 4 (nI t + 1)) else zz_b1 (pX10_byteAt F 2 (nI (4 * t) + 3) (thS S (nI 0) wa ne)) fun r12 => if r12 = 59 then pX10_readsThieves_L9_4 F f (nI t + 1) (nI (4 * t) + 3 + 1) (thS S (nI 0) wa ne) else some (nI (4 * t) + 3, thS S (nI 0) wa ne)) else some (nI (4 * t) + 0, thS S (nI 0) wa ne)) else zz_b2 (pX10_readsThief F (nI t) (nI (4 * t)) (thS S (nI 0) wa ne)) fun r16 S17 => if (3 : Int32) ≤ r16 then (if nI (4 * t) + 3 = zz_gA S17 0 2 then some (-1, zz_sI S17 4 (nI t + 1)) else zz_b1 (pX10_byteAt F 2 (nI (4 * t) + 3) S17) fun r12 => if r12 = 59 then pX10_readsThieves_L9_4 F f (nI t + 1) (nI (4 * t) + 3 + 1) S17 else some (nI (4 * t) + 3, S17)) else some (nI (4 * t) + r16, S17)) = some (sp_i (sp_tfl b L), thS S (nI (sp_tm b L)) wa' ne') ∧ ∀ i, i < sp_tm b L → wa' i = nI (sp_wt b i) ∧ ne' i = nI (sp_nd b i) := by
        rw [if_neg (show ¬ nI t = 8 from fun z => by have := (nI_eq (b := 8) (by omega) (by omega)).mp z; omega), q10_readsThief F L b wa ne _ hL gt gb hb (by omega)]
        have bad : ∀ x : Nat, x < 3 → (∀ y, y < x → 4 * t + y < L ∧ sp_ok y (b (4 * t + y)) = true) → sp_ok x (sp_by b L (4 * t + x)) = false → sp_tfl b L = some (4 * t + x) := by
          intro x hx hp hbad
          have hI' : sp_tI b (4 * t + x) := fun j hj => by
            by_cases e : j < 4 * t
            · exact hI j e
            · obtain ⟨y, hy⟩ : ∃ y, j = 4 * t + y := ⟨j - 4 * t, by omega⟩
              subst hy
              rw [show (4 * t + y) % 4 = y by omega]
              exact (hp y (by omega)).2
          by_cases e : 4 * t + x < L
          · refine sp_tfl_bad hI' e ?_
            rw [show (4 * t + x) % 4 = x by omega]
            unfold sp_by at hbad; rw [if_pos e] at hbad; exact hbad
          · have eL : L = 4 * t + x := by
              rcases Nat.eq_zero_or_pos x with z | z
              · omega
              · have := (hp (x - 1) (by omega)).1; omega
            rw [eL, sp_tfl_all hI', if_neg (by omega)]
        have lt_of_ok : ∀ y p : Nat, sp_ok p (sp_by b L y) = true → y < L ∧ sp_ok p (b y) = true := by
          intro y p hy
          by_cases e : y < L
          · refine ⟨e, ?_⟩; unfold sp_by at hy; rw [if_pos e] at hy; exact hy
          · rw [sp_by_no e] at hy; cases hy
        cases g0 : sp_ok 0 (sp_by b L (4 * t))
        · rw [if_pos rfl]
          simp only [zz_b2]
          rw [if_neg (show ¬ (3 : Int32) ≤ nI 0 by decide), nI_add]
          exact flt _ (bad 0 (by omega) (fun y hy => absurd hy (Nat.not_lt_zero y)) g0)
        · obtain ⟨l0, k0⟩ := lt_of_ok _ _ g0
          rw [if_neg (by decide)]
          cases g1 : sp_ok 1 (sp_by b L (4 * t + 1))
          · rw [if_pos rfl]
            simp only [zz_b2]
            rw [if_neg (show ¬ (3 : Int32) ≤ nI 1 by decide), nI_add]
            exact flt _ (bad 1 (by omega) (fun y hy => by rw [show y = 0 by omega]; exact ⟨l0, k0⟩) g1)
          · obtain ⟨l1, k1⟩ := lt_of_ok _ _ g1
            rw [if_neg (by decide)]
            cases g2 : sp_ok 2 (sp_by b L (4 * t + 2))
            · rw [if_pos rfl]
              simp only [zz_b2]
              rw [if_neg (show ¬ (3 : Int32) ≤ nI 2 by decide), nI_add]
              exact flt _ (bad 2 (by omega) (fun y hy => by
                rcases (show y = 0 ∨ y = 1 by omega) with rfl | rfl
                · exact ⟨l0, k0⟩
                · exact ⟨l1, k1⟩) g2)
            · obtain ⟨l2, k2⟩ := lt_of_ok _ _ g2
              rw [if_neg (by decide), (sp_wt_by l2).1, (sp_wt_by l2).2]
              simp only [zz_b2]
              rw [if_pos (show (3 : Int32) ≤ nI 3 by decide), thS_A (j := 0) _ _ _ _ (by decide) (by decide), gt, show nI (4 * t) + 3 = nI (4 * t + 3) from nI_add (4 * t) 3, nI_1, nI_1, thS_i]
              have hI3 : sp_tI b (4 * t + 3) := fun j hj => by
                by_cases e : j < 4 * t
                · exact hI j e
                · rcases (show j = 4 * t ∨ j = 4 * t + 1 ∨ j = 4 * t + 2 by omega) with rfl | rfl | rfl
                  · rw [show 4 * t % 4 = 0 by omega]; exact k0
                  · rw [show (4 * t + 1) % 4 = 1 by omega]; exact k1
                  · rw [show (4 * t + 2) % 4 = 2 by omega]; exact k2
              have hw' : ∀ i, i < t + 1 → upd wa t (nI (sp_wt b t)) i = nI (sp_wt b i) ∧ upd ne t (nI (sp_nd b t)) i = nI (sp_nd b i) := fun i hi => by
                by_cases e : i = t
                · subst e; exact ⟨pk_us, pk_us⟩
                · rw [pk_un e, pk_un e]; exact hw i (by omega)
              by_cases qe : 4 * t + 3 = L
              · rw [if_pos (by rw [qe])]
                have hx : sp_tfl b L = none := by rw [← qe, sp_tfl_all hI3, if_pos (by omega)]
                have hm : sp_tm b L = t + 1 := by unfold sp_tm; rw [hx]; show (L + 1) / 4 = t + 1; omega
                rw [hx, hm]
                exact ⟨_, _, rfl, hw'⟩
              · have l3 : 4 * t + 3 < L := by omega
                rw [if_neg (fun z => qe ((nI_eq (by omega) (by omega)).mp z)), show (2 : Int32) = nI 2 from rfl, q10_byteAt F (tx := 2) (by decide) (by rw [thS_A _ _ _ _ (by decide) (by decide)]; exact gt) (by omega) (by omega), if_pos l3, thS_A (j := 1) _ _ _ _ (by decide) (by decide), gb _ l3]
                simp only [zz_b1]
                by_cases q59 : b (4 * t + 3) = nI 59
                · rw [if_pos (show b (4 * t + 3) = (59 : Int32) from q59), show 4 * t + 3 + 1 = 4 * (t + 1) by omega]
                  refine ih (t + 1) _ _ (by omega) (by omega) (fun j hj => ?_) hw'
                  by_cases e : j < 4 * t + 3
                  · exact hI3 j e
                  · rw [show j = 4 * t + 3 by omega, show (4 * t + 3) % 4 = 3 by omega, q59]; decide
                · rw [if_neg (show ¬ b (4 * t + 3) = (59 : Int32) from q59)]
                  have hx : sp_tfl b L = some (4 * t + 3) := sp_tfl_bad hI3 l3 (by rw [show (4 * t + 3) % 4 = 3 by omega]; exact decide_eq_false q59)
                  have hm : sp_tm b L = 0 := by unfold sp_tm; rw [hx]; rfl
                  rw [hx, hm]
                  exact ⟨_, _, rfl, fun i hi => absurd hi (Nat.not_lt_zero i)⟩
      by_cases q : nI (4 * t) < nI L
      · rw [if_pos q]; exact key
      · rw [if_neg q, if_neg (show ¬ nI (4 * t) ≤ 0 from fun z => by
          have h3 := (nI_leI (b := 0) (by omega) (by omega)).mp z
          exact q ((nI_ltI (by omega) (by omega)).mpr (by omega)))]
        exact key
theorem q10_readsThieves (F L : Nat) {S : zz_M} (b : Nat → Int32) (hL : L ≤ 31) (gt : zz_gA S 0 2 = nI L) (gb : ∀ j, j < L → zz_gA S 1 (82 + j) = b j) (hb : ∀ j, j < L → 0 ≤ (b j).toInt ∧ (b j).toInt ≤ 255) (hF : 100 ≤ F) : ∃ wa ne : Nat → Int32, pX10_readsThieves F S = some (sp_i (sp_tfl b L), thS S (nI (sp_tm b L)) wa ne) ∧ ∀ i, i < sp_tm b L → wa i = nI (sp_wt b i) ∧ ne i = nI (sp_nd b i) := by
  unfold pX10_readsThieves
  simp only [zz_lt]
  rw [thS_self]
  exact q10_rtL F L b hL gt gb hb F 0 _ _ (by omega) (by omega) (fun j hj => by omega) (fun i hi => absurd hi (Nat.not_lt_zero i))
