/-! a night, on the reference's side -/
theorem zs_upS {α : Type} (f : Nat → α) (k : Nat) : zz_up f k (f k) = f := by
  funext j; unfold zz_up
  cases e : Nat.beq j k
  · rfl
  · rw [Nat.eq_of_beq_eq_true e]; rfl
theorem zs_AA (S : zz_M) (k : Nat) (a b : Nat → Int32) : zz_sA (zz_sA S k a) k b = zz_sA S k b := by
  unfold zz_sA; rw [zs_up1]
theorem zs_AAc (S : zz_M) {j k : Nat} (h : j ≠ k) (a b : Nat → Int32) : zz_sA (zz_sA S j a) k b = zz_sA (zz_sA S k b) j a := by
  unfold zz_sA; rw [zs_up2 _ h]
def wS (S : zz_M) (pl lo hi : Nat → Int32) (a b : Int32) : zz_M := zz_sA (zz_sA (zz_sA (zz_sI (zz_sI S 10 a) 11 b) 8 pl) 9 lo) 10 hi
theorem wS_self (S : zz_M) : S = wS S (zz_gA S 8) (zz_gA S 9) (zz_gA S 10) (zz_gI S 10) (zz_gI S 11) := by
  unfold wS
  rw [zs_IIc _ (by decide)]
  have e1 : ∀ (T : zz_M) (k : Nat), zz_sA T k (zz_gA T k) = T := fun T k => by unfold zz_sA zz_gA; rw [zs_upS]
  have e2 : ∀ (T : zz_M) (k : Nat), zz_sI T k (zz_gI T k) = T := fun T k => by unfold zz_sI zz_gI; rw [zs_upS]
  rw [e2, e2, e1, e1, e1]
theorem wS_8 (S : zz_M) (pl lo hi p : Nat → Int32) (a b : Int32) : zz_sA (wS S pl lo hi a b) 8 p = wS S p lo hi a b := by
  unfold wS
  rw [zs_AAc _ (show (10 : Nat) ≠ 8 by decide), zs_AAc _ (show (9 : Nat) ≠ 8 by decide), zs_AA]
theorem wS_9 (S : zz_M) (pl lo hi p : Nat → Int32) (a b : Int32) : zz_sA (wS S pl lo hi a b) 9 p = wS S pl p hi a b := by
  unfold wS
  rw [zs_AAc _ (show (10 : Nat) ≠ 9 by decide), zs_AA]
theorem wS_10 (S : zz_M) (pl lo hi p : Nat → Int32) (a b : Int32) : zz_sA (wS S pl lo hi a b) 10 p = wS S pl lo p a b := by
  unfold wS; rw [zs_AA]
theorem wS_mk (S : zz_M) (pl lo hi : Nat → Int32) (a b : Int32) (m : Nat) : mkS (wS S pl lo hi a b) m = wS S pl lo hi (nI (m % 2 ^ 18)) (nI (m / 2 ^ 18)) := by
  show zz_sA (zz_sA (zz_sA (zz_sI (zz_sI (zz_sI (zz_sI S 10 a) 11 b) 10 _) 11 _) 8 pl) 9 lo) 10 hi = _
  rw [zs_IIc _ (show (11 : Nat) ≠ 10 by decide), zs_II, zs_II]; rfl
theorem wS_I (S : zz_M) (pl lo hi : Nat → Int32) (a b : Int32) {j : Nat} (h1 : j ≠ 10) (h2 : j ≠ 11) : zz_gI (wS S pl lo hi a b) j = zz_gI S j := by
  unfold wS
  rw [zg_IA, zg_IA, zg_IA, zg_II, if_neg h2, zg_II, if_neg h1]
theorem wS_I10 (S : zz_M) (pl lo hi : Nat → Int32) (a b : Int32) : zz_gI (wS S pl lo hi a b) 10 = a := rfl
theorem wS_I11 (S : zz_M) (pl lo hi : Nat → Int32) (a b : Int32) : zz_gI (wS S pl lo hi a b) 11 = b := rfl
theorem wS_A8 (S : zz_M) (pl lo hi : Nat → Int32) (a b : Int32) : zz_gA (wS S pl lo hi a b) 8 = pl := rfl
theorem wS_A9 (S : zz_M) (pl lo hi : Nat → Int32) (a b : Int32) : zz_gA (wS S pl lo hi a b) 9 = lo := rfl
theorem wS_A10 (S : zz_M) (pl lo hi : Nat → Int32) (a b : Int32) : zz_gA (wS S pl lo hi a b) 10 = hi := rfl
theorem wS_A (S : zz_M) (pl lo hi : Nat → Int32) (a b : Int32) {j : Nat} (h1 : j ≠ 8) (h2 : j ≠ 9) (h3 : j ≠ 10) : zz_gA (wS S pl lo hi a b) j = zz_gA S j := by
  unfold wS
  rw [zg_AA, if_neg h3, zg_AA, if_neg h2, zg_AA, if_neg h1]; rfl
theorem q10_isFor (F : Nat) {n w gi c : Nat} {S : zz_M} {kd : Nat → Int32} (h : sp_W n w kd) (gk : zz_gA S 2 = kd) (g6 : zz_gI S 6 = nI gi) (hg : gi ≤ 9) (hc : c < n) : pX10_isFor F (nI c) S = some (zb (sp_for kd gi c)) := by
  have hn := h.1
  obtain ⟨j, hj, e⟩ := h.2.2.2 c hc
  unfold pX10_isFor
  simp only [zz_lt]
  rw [gk, g6, if_pos ((zl_in (by omega)).mpr (by omega)), nI_clamp (by omega)]
  unfold sp_for
  rw [e]
  simp (disch := omega) only [zl_lit, nI_ltI, nI_leI, nI_eq]
  rcases (show j = 0 ∨ j = 1 ∨ j = 2 ∨ j = 3 ∨ j = 4 by omega) with rfl | rfl | rfl | rfl | rfl
  · rfl
  · rfl
  · rfl
  · by_cases q2 : gi ≤ 7
    · simp [q2, show gi < 8 by omega]; rfl
    · simp [q2, show ¬ gi < 8 by omega]; decide
  · by_cases q2 : gi ≤ 2
    · simp [q2, show ¬ 3 ≤ gi by omega]; rfl
    · simp [q2, show 3 ≤ gi by omega]; decide
def sp_sg (si : Nat) (fg : Nat → Bool) (t : Nat) : Nat := if fg t then (if si ≤ 1 then si else 1) else si
/-- what the reference's state holds when it walks -/
def sp_R (S : zz_M) (n w : Nat) (kd : Nat → Int32) (st gi si m : Nat) (sa : Nat → Int32) (fg : Nat → Bool) : Prop := zz_gI S 0 = nI w ∧ zz_gI S 2 = nI n ∧ zz_gA S 2 = kd ∧ zz_gI S 5 = nI st ∧ zz_gI S 6 = nI gi ∧ zz_gI S 7 = nI si ∧ zz_gI S 9 = nI m ∧ zz_gA S 6 = sa ∧ ∀ t, t < 96 → zz_gA S 7 t = zb (fg t)
def sp_vm (n w : Nat) (kd : Nat → Int32) (si : Nat) (fg : Nat → Bool) (P : Nat → Option Nat) (t : Nat) : Nat := sp_see n w kd (sp_sg si fg t) (P t)
def sp_N10 (P : Nat → Option Nat) (vm : Nat → Nat) (pl lo hi : Nat → Int32) (k : Nat) : Prop := ∀ t, t < k → pl t = sp_i (P t) ∧ lo t = nI (vm t % 2 ^ 18) ∧ hi t = nI (vm t / 2 ^ 18)
theorem q10_walksL (F : Nat) {n w gi st si m : Nat} {S : zz_M} {kd sa : Nat → Int32} {bs : Nat → Nat} {fg : Nat → Bool} (h : sp_W n w kd) (hB : sp_B m sa bs) (hg : gi ≤ 9) (hs : si ≤ 9) (hR : sp_R S n w kd st gi si m sa fg) (hF : 100 ≤ F) :
    ∀ (f t : Nat) (pl lo hi : Nat → Int32) (a b : Int32), t ≤ 96 → 96 < f + t → sp_N10 (sp_pl n w kd gi st m bs) (sp_vm n w kd si fg (sp_pl n w kd gi st m bs)) pl lo hi t → ∃ (pl' lo' hi' : Nat → Int32) (a' b' : Int32), pX10_walks_L33_5 F f (sp_i (sp_pl n w kd gi st m bs t)) (nI t) (wS S pl lo hi a b) = some (wS S pl' lo' hi' a' b') ∧ sp_N10 (sp_pl n w kd gi st m bs) (sp_vm n w kd si fg (sp_pl n w kd gi st m bs)) pl' lo' hi' 96 ∧ pl' 96 = sp_i (sp_pl n w kd gi st m bs 96) := by
  have hn := h.1
  obtain ⟨hm, hB⟩ := hB
  obtain ⟨g0, g2, gk, g5, g6, g7, g9, gb, gf⟩ := hR
  intro f
  induction f with
  | zero => intro t pl lo hi a b h1 h2; omega
  | succ f ih =>
    intro t pl lo hi a b h1 h2 hN
    rw [pX10_walks_L33_5]
    by_cases q : 96 ≤ t
    · have e : t = 96 := by omega
      subst e
      rw [if_pos (show (96 : Int32) ≤ nI 96 from by decide)]
      simp only [zz_lt]
      rw [wS_A8, wS_8]
      refine ⟨_, lo, hi, a, b, rfl, fun t ht => ?_, pk_us⟩
      rw [pk_un (show t ≠ Int32.toNatClampNeg 96 from fun e => by rw [show Int32.toNatClampNeg 96 = 96 from rfl] at e; omega)]
      exact hN t ht
    · rw [if_neg (show ¬ (96 : Int32) ≤ nI t from nI_ge (b := 96) (by omega) (by omega))]
      have hok := fun c => sp_pl_ok (gi := gi) (st := st) (m := m) (bs := bs) h t c
      have hin6 : zz_in (nI t) 96 := (zl_in (by omega)).mpr (by omega)
      have hin7 : zz_in (nI t) 97 := (zl_in (by omega)).mpr (by omega)
      simp only [zz_lt]
      simp only [if_pos hin6, if_pos hin7]
      rw [nI_clamp (show t < 2 ^ 31 by omega), wS_A8, wS_8, wS_A _ _ _ _ _ _ (by decide) (by decide) (by decide), gf t (by omega), wS_I _ _ _ _ _ _ (by decide) (by decide), g7]
      have esg : (if zb (fg t) = 0 then nI si else if nI si ≤ 1 then nI si else 1) = nI (sp_sg si fg t) := by
        simp only [zb0']
        unfold sp_sg
        cases fg t
        · rfl
        · rw [if_neg (by decide), if_pos rfl]
          by_cases q2 : si ≤ 1
          · rw [if_pos (show nI si ≤ 1 from nI_le (b := 1) q2 (by omega)), if_pos q2]
          · rw [if_neg (show ¬ nI si ≤ 1 from nI_ge (a := 1) (by omega) (by omega)), if_neg q2]; rfl
      have hsg : sp_sg si fg t ≤ 9 := by
        unfold sp_sg
        split
        · split <;> omega
        · exact hs
      rw [esg, q10_looks F h (by rw [wS_I _ _ _ _ _ _ (by decide) (by decide)]; exact g0) (by rw [wS_I _ _ _ _ _ _ (by decide) (by decide)]; exact g2) (by rw [wS_A _ _ _ _ _ _ (by decide) (by decide) (by decide)]; exact gk) hsg (by omega) _ (fun c e => (hok c e).1)]
      simp only [zz_b1]
      rw [wS_mk, wS_A9, wS_I10, wS_9, wS_A10, wS_I11, wS_10]
      have hext : sp_N10 (sp_pl n w kd gi st m bs) (sp_vm n w kd si fg (sp_pl n w kd gi st m bs)) (upd pl t (sp_i (sp_pl n w kd gi st m bs t))) (upd lo t (nI (sp_see n w kd (sp_sg si fg t) (sp_pl n w kd gi st m bs t) % 2 ^ 18))) (upd hi t (nI (sp_see n w kd (sp_sg si fg t) (sp_pl n w kd gi st m bs t) / 2 ^ 18))) (t + 1) := by
        intro t' ht'
        by_cases e : t' = t
        · subst e; rw [pk_us, pk_us, pk_us]; exact ⟨rfl, rfl, rfl⟩
        · rw [pk_un e, pk_un e, pk_un e]; exact hN t' (by omega)
      have hih := ih (t + 1) _ _ _ (nI (sp_see n w kd (sp_sg si fg t) (sp_pl n w kd gi st m bs t) % 2 ^ 18)) (nI (sp_see n w kd (sp_sg si fg t) (sp_pl n w kd gi st m bs t) / 2 ^ 18)) (by omega) (by omega) hext
      rw [wS_I (j := 9) _ _ _ _ _ _ (by decide) (by decide), g9, wS_A (j := 6) _ _ _ _ _ _ (by decide) (by decide) (by decide), gb, nI_1 t]
      rw [sp_pl] at hih
      generalize sp_see n w kd (sp_sg si fg t) (sp_pl n w kd gi st m bs t) = vv at hih ⊢
      cases q1 : sp_pl n w kd gi st m bs t with
      | none =>
        rw [q1] at hih
        rw [if_pos (show sp_i none = (-1 : Int32) from rfl)]
        exact hih
      | some c =>
        obtain ⟨hc, hfor⟩ := hok c q1
        rw [q1, sp_nx] at hih
        rw [if_neg (show ¬ sp_i (some c) = (-1 : Int32) from by rw [sp_iS, show (-1 : Int32) = -nI 1 from rfl, zl_m1a (by omega)]; exact id)]
        by_cases m0 : m = 0
        · subst m0
          rw [if_pos (show nI 0 ≤ 0 from by decide)]
          exact hih
        · have hr : t % m < m := Nat.mod_lt _ (by omega)
          obtain ⟨b1, b2⟩ := hB (t % m) hr
          rw [if_neg m0] at hih
          rw [if_neg (show ¬ nI m ≤ 0 from nI_nle (by omega) (by omega)), if_pos (show ¬ nI m = 0 from nI_ne0 (by omega) (by omega)), zl_rem (by omega) (by omega) (by omega)]
          rw [if_pos ((zl_in (by omega)).mpr (by omega)), nI_clamp (by omega), b1, sp_iS, q10_beside F h (by rw [wS_I _ _ _ _ _ _ (by decide) (by decide)]; exact g0) (by rw [wS_I _ _ _ _ _ _ (by decide) (by decide)]; exact g2) hc b2]
          simp only
          have ego : sp_go n w kd gi c (bs (t % m)) = (match sp_nb n w c (bs (t % m)) with | none => c | some c' => if sp_for kd gi c' then c' else c) := rfl
          rw [ego] at hih
          cases q5 : sp_nb n w c (bs (t % m)) with
          | none =>
            rw [q5] at hih
            rw [if_pos (show sp_i none = (-1 : Int32) from rfl)]
            exact hih
          | some c' =>
            have hc' := sp_nb_lt h hc q5
            rw [q5] at hih
            rw [if_neg (show ¬ sp_i (some c') = (-1 : Int32) from by rw [sp_iS, show (-1 : Int32) = -nI 1 from rfl, zl_m1a (by omega)]; exact id), sp_iS, q10_isFor F h (by rw [wS_A _ _ _ _ _ _ (by decide) (by decide) (by decide)]; exact gk) (by rw [wS_I _ _ _ _ _ _ (by decide) (by decide)]; exact g6) hg hc']
            simp only [zb0'] at hih ⊢
            cases q6 : sp_for kd gi c'
            · rw [q6] at hih; exact hih
            · rw [q6] at hih; exact hih
theorem q10_walks (F : Nat) {n w gi st si m : Nat} {S : zz_M} {kd sa : Nat → Int32} {bs : Nat → Nat} {fg : Nat → Bool} (h : sp_W n w kd) (hB : sp_B m sa bs) (hg : gi ≤ 9) (hs : si ≤ 9) (hst : st ≤ 35) (hR : sp_R S n w kd st gi si m sa fg) (hF : 100 ≤ F) : ∃ (pl' lo' hi' : Nat → Int32) (a' b' : Int32), pX10_walks F S = some (wS S pl' lo' hi' a' b') ∧ sp_N10 (sp_pl n w kd gi st m bs) (sp_vm n w kd si fg (sp_pl n w kd gi st m bs)) pl' lo' hi' 96 ∧ pl' 96 = sp_i (sp_pl n w kd gi st m bs 96) := by
  have hn := h.1
  have hR' := hR
  obtain ⟨g0, g2, gk, g5, g6, g7, g9, gb, gf⟩ := hR
  unfold pX10_walks
  simp only [zz_lt]
  rw [g2, g5]
  have e2 := q10_walksL F h hB hg hs hR' hF F 0 (zz_gA S 8) (zz_gA S 9) (zz_gA S 10) (zz_gI S 10) (zz_gI S 11) (by omega) (by omega) (fun t ht => by omega)
  rw [← wS_self, sp_pl, sp_st] at e2
  by_cases q : st < n
  · rw [decide_eq_true q, Bool.true_and] at e2
    rw [if_neg (nI_ge (by omega) (by omega)), q10_isFor F h gk g6 hg q]
    simp only [zz_b1, zb0']
    cases q6 : sp_for kd gi st
    · rw [q6] at e2; exact e2
    · rw [q6] at e2; exact e2
  · rw [decide_eq_false q, Bool.false_and] at e2
    rw [if_pos (nI_le (by omega) (by omega))]
    exact e2
