/-! the reference reads the ward's text -/
def wdS (S : zz_M) (x0 x1 x2 : Int32) (k : Nat → Int32) : zz_M := zz_sA (zz_sI (zz_sI (zz_sI S 0 x0) 1 x1) 2 x2) 2 k
theorem wdS_0 (S : zz_M) (x0 x1 x2 y : Int32) (k : Nat → Int32) : zz_sI (wdS S x0 x1 x2 k) 0 y = wdS S y x1 x2 k := by
  show zz_sA (zz_sI (zz_sI (zz_sI (zz_sI S 0 x0) 1 x1) 2 x2) 0 y) 2 k = _
  rw [zs_IIc _ (show (2 : Nat) ≠ 0 by decide), zs_IIc _ (show (1 : Nat) ≠ 0 by decide), zs_II]; rfl
theorem wdS_1 (S : zz_M) (x0 x1 x2 y : Int32) (k : Nat → Int32) : zz_sI (wdS S x0 x1 x2 k) 1 y = wdS S x0 y x2 k := by
  show zz_sA (zz_sI (zz_sI (zz_sI (zz_sI S 0 x0) 1 x1) 2 x2) 1 y) 2 k = _
  rw [zs_IIc _ (show (2 : Nat) ≠ 1 by decide), zs_II]; rfl
theorem wdS_2 (S : zz_M) (x0 x1 x2 y : Int32) (k : Nat → Int32) : zz_sI (wdS S x0 x1 x2 k) 2 y = wdS S x0 x1 y k := by
  show zz_sA (zz_sI (zz_sI (zz_sI (zz_sI S 0 x0) 1 x1) 2 x2) 2 y) 2 k = _
  rw [zs_II]; rfl
theorem wdS_k (S : zz_M) (x0 x1 x2 : Int32) (k k' : Nat → Int32) : zz_sA (wdS S x0 x1 x2 k) 2 k' = wdS S x0 x1 x2 k' := by
  unfold wdS; rw [zs_AA]
theorem wdS_g0 (S : zz_M) (x0 x1 x2 : Int32) (k : Nat → Int32) : zz_gI (wdS S x0 x1 x2 k) 0 = x0 := rfl
theorem wdS_g2 (S : zz_M) (x0 x1 x2 : Int32) (k : Nat → Int32) : zz_gI (wdS S x0 x1 x2 k) 2 = x2 := rfl
theorem wdS_gk (S : zz_M) (x0 x1 x2 : Int32) (k : Nat → Int32) : zz_gA (wdS S x0 x1 x2 k) 2 = k := rfl
theorem wdS_I (S : zz_M) (x0 x1 x2 : Int32) (k : Nat → Int32) {j : Nat} (h0 : j ≠ 0) (h1 : j ≠ 1) (h2 : j ≠ 2) : zz_gI (wdS S x0 x1 x2 k) j = zz_gI S j := by
  unfold wdS; rw [zg_IA, zg_II, if_neg h2, zg_II, if_neg h1, zg_II, if_neg h0]
theorem wdS_A (S : zz_M) (x0 x1 x2 : Int32) (k : Nat → Int32) {j : Nat} (h : j ≠ 2) : zz_gA (wdS S x0 x1 x2 k) j = zz_gA S j := by
  unfold wdS; rw [zg_AA, if_neg h]; rfl
set_option maxHeartbeats 4000000 in
theorem q10_rwL (F L : Nat) {S : zz_M} (b : Nat → Int32) (hL : L ≤ 41) (gt : zz_gA S 0 0 = nI L) (gb : ∀ j, j < L → zz_gA S 1 j = b j) : ∀ (f k i r c n w : Nat) (kn : Nat → Nat) (kd : Nat → Int32) (x1 : Int32), i + k = L → k < f → sp_wI r c n w kn → (∀ j, j < n → kd j = nI (kn j)) → w ≤ 6 → r ≤ i →
    ∃ (x0 : Nat) (x1' : Int32) (kd' : Nat → Int32), pX10_readsWard_L25_8 F f (nI r) (nI c) (nI n) (nI i) (wdS S (nI (if r = 0 then 6 else w)) x1 (nI 0) kd) = some (sp_i (sp_wend L (sp_wd b k i r c n w kn)).1, wdS S (nI x0) x1' (nI (sp_wend L (sp_wd b k i r c n w kn)).2.1) kd') ∧ ((sp_wend L (sp_wd b k i r c n w kn)).1 = none → x0 = (sp_wend L (sp_wd b k i r c n w kn)).2.2.1) ∧ x0 ≤ 6 ∧ (∀ j, j < (sp_wend L (sp_wd b k i r c n w kn)).2.1 → kd' j = nI ((sp_wend L (sp_wd b k i r c n w kn)).2.2.2 j)) := by
  intro f
  induction f with
  | zero => intro k i r c n w kn kd x1 _ h; omega
  | succ f ih =>
    intro k i r c n w kn kd x1 hk hf hI hks hw hri
    obtain ⟨n1', -, n2, n3⟩ := sp_wI_n hI
    have hr6 := hI.1
    have hcw : 0 < r → c ≤ w := fun e => (hI.2.2.1 e).2.2.1
    rw [pX10_readsWard_L25_8]
    rw [q10_kindOf]
    rw [wdS_A (j := 0) _ _ _ _ _ (by decide), wdS_A (j := 1) _ _ _ _ _ (by decide), show Int32.toNatClampNeg 0 = 0 from rfl, gt]
    simp only [zz_lt, zz_b1, wdS_g0, wdS_gk, wdS_0, wdS_k, wdS_1, wdS_2]
    rw [wdS_A (j := 0) _ _ _ _ _ (by decide), gt]
    simp (config := { maxSteps := 2000000 }) (disch := omega) only [zl_lit, nI_leI, nI_eq, zl_in, nI_clamp]
    have flt : ∀ (x y0 : Nat), y0 ≤ 6 → ∃ (x0 : Nat) (x1' : Int32) (kd' : Nat → Int32), some (nI x, wdS S (nI y0) x1 (nI 0) kd) = some (sp_i (sp_wend L (.inl x)).1, wdS S (nI x0) x1' (nI (sp_wend L (.inl x)).2.1) kd') ∧ ((sp_wend L (.inl x)).1 = none → x0 = (sp_wend L (.inl x)).2.2.1) ∧ x0 ≤ 6 ∧ (∀ j, j < (sp_wend L (.inl x)).2.1 → kd' j = nI ((sp_wend L (.inl x)).2.2.2 j)) := fun x y0 hy => ⟨y0, x1, kd, rfl, (fun e => absurd e (by simp [sp_wend])), hy, fun j hj => absurd hj (Nat.not_lt_zero j)⟩
    have e0 : r = 0 → (if r = 0 then 6 else w) = 6 := fun e => by rw [if_pos e]
    have e1 : ¬ r = 0 → (if r = 0 then 6 else w) = w := fun e => by rw [if_neg e]
    have hc36 := n3
    generalize hW0 : (if r = 0 then 6 else w) = W0 at e0 e1 hc36 ⊢
    have hW6 : W0 ≤ 6 := by
      by_cases q : r = 0
      · rw [e0 q]; omega
      · rw [e1 q]; exact hw
    cases k with
    | zero =>
      rw [if_pos (by omega), sp_wd, sp_wend]
      by_cases q : 0 < L ∧ (c = 0 ∨ (0 < r ∧ c < w))
      · rw [if_pos q, if_neg (by omega)]
        have hx : (if c = 0 then some (nI L, wdS S (nI W0) x1 (nI 0) kd) else if r ≤ 0 then some (-nI 1, wdS S (if r = 0 then nI c else nI W0) (if L = 0 then nI 0 else nI r + nI 1) (nI n) kd) else if nI W0 ≤ nI c then some (-nI 1, wdS S (if r = 0 then nI c else nI W0) (if L = 0 then nI 0 else nI r + nI 1) (nI n) kd) else some (nI L, wdS S (nI W0) x1 (nI 0) kd)) = some (nI L, wdS S (nI W0) x1 (nI 0) kd) := by
          by_cases q1 : c = 0
          · rw [if_pos q1]
          · have := e1 (by omega)
            rw [if_neg q1, if_neg (by omega), if_neg (nI_ge (by omega) (by omega))]
        rw [hx]
        exact flt L _ hW6
      · rw [if_neg q]
        have hx : ∃ y : Int32, (if L ≤ 0 then some (-nI 1, wdS S (if r = 0 then nI c else nI W0) (if L = 0 then nI 0 else nI r + nI 1) (nI n) kd) else if c = 0 then some (nI L, wdS S (nI W0) x1 (nI 0) kd) else if r ≤ 0 then some (-nI 1, wdS S (if r = 0 then nI c else nI W0) (if L = 0 then nI 0 else nI r + nI 1) (nI n) kd) else if nI W0 ≤ nI c then some (-nI 1, wdS S (if r = 0 then nI c else nI W0) (if L = 0 then nI 0 else nI r + nI 1) (nI n) kd) else some (nI L, wdS S (nI W0) x1 (nI 0) kd)) = some (-nI 1, wdS S (nI c) y (nI n) kd) := by
          refine ⟨(if L = 0 then nI 0 else nI r + nI 1), ?_⟩
          by_cases q1 : L ≤ 0
          · rw [if_pos q1, if_pos (show r = 0 by omega)]
          · rw [if_neg q1, if_neg (by omega)]
            by_cases q2 : r ≤ 0
            · rw [if_pos q2, if_pos (show r = 0 by omega)]
            · have h9 := e1 (by omega)
              have := hcw (by omega)
              have h8 : W0 = c := by omega
              rw [if_neg q2, if_pos (nI_le (by omega) (by omega)), if_neg (show ¬ r = 0 by omega), h8]
        obtain ⟨y, hx⟩ := hx
        rw [hx]
        exact ⟨c, y, kd, rfl, fun _ => rfl, n1', hks⟩
    | succ k =>
      rw [if_neg (by omega), sp_wd_s]
      by_cases q6 : r = 6
      · rw [if_pos q6, if_pos q6]; exact flt i _ hW6
      · rw [if_neg q6, if_neg q6]
        simp only [if_pos (show i < 123 by omega)]
        rw [gb i (by omega), hW0]
        have n2' := n2 q6
        by_cases q59 : b i = nI 59
        · rw [if_pos q59]
          have ek : sp_kind (b i) = none := by rw [q59]; exact sp_kind_59
          rw [ek]
          simp only
          by_cases qc : c = 0
          · rw [if_pos qc, if_neg (by omega)]; exact flt i _ hW6
          · rw [if_neg qc, nI_add, nI_add]
            by_cases q0 : r = 0
            · have h1 := ih k (i + 1) (r + 1) 0 n c kn kd x1 (by omega) (by omega) (sp_wI_row hI q6 (by omega) (Or.inl q0)) hks (by omega) (by omega)
              rw [if_pos (show r ≤ 0 by omega), if_pos q0, if_pos ⟨q59, by omega, Or.inl q0⟩]
              rw [if_neg (show ¬ r + 1 = 0 by omega)] at h1
              exact h1
            · have h9 := e1 q0
              have := hcw (by omega)
              rw [if_neg (show ¬ r ≤ 0 by omega), if_neg q0]
              by_cases q2 : W0 ≤ c
              · have h8 : c = w := by omega
                have h1 := ih k (i + 1) (r + 1) 0 n c kn kd x1 (by omega) (by omega) (sp_wI_row hI q6 (by omega) (Or.inr h8)) hks (by omega) (by omega)
                rw [if_pos (nI_le q2 (by omega)), if_pos ⟨q59, by omega, Or.inr h8⟩, show W0 = c by omega]
                rw [if_neg (show ¬ r + 1 = 0 by omega)] at h1
                exact h1
              · rw [if_neg (nI_ge (by omega) (by omega)), if_neg (fun z => by have := z.2.2; omega)]; exact flt i _ hW6
        · rw [if_neg q59]
          cases qk : sp_kind (b i) with
          | none =>
            rw [if_pos sp_iN]
            simp only
            rw [if_neg (fun z => q59 z.1)]
            exact flt i _ hW6
          | some j =>
            have hj := sp_kind_le qk
            rw [if_neg (show ¬ sp_i (some j) = -nI 1 from by rw [sp_iS, zl_m1a (by omega)]; exact id), sp_iS]
            simp only
            have hle : c ≤ W0 := by
              by_cases q0 : r = 0
              · have := e0 q0; omega
              · have := e1 q0; have := hcw (by omega); omega
            by_cases qc : c < W0
            · have h36 := hc36 q6 qc
              rw [if_neg (fun z => by have := (nI_eq (by omega) (by omega)).mp z; omega), if_pos (show n < 37 by omega), if_pos qc, nI_add, nI_add, nI_add]
              have h1 := ih k (i + 1) r (c + 1) (n + 1) w (sp_pt kn n j) (upd kd n (nI j)) x1 (by omega) (by omega) (sp_wI_add hI q6 (by rw [hW0]; exact qc) hj) (fun x hx => by
                unfold sp_pt
                by_cases e : x = n
                · subst e; rw [pk_us, if_pos rfl]
                · rw [pk_un e, if_neg e]; exact hks x (by omega)) hw (by omega)
              rw [hW0] at h1
              exact h1
            · rw [if_pos (by rw [show c = W0 by omega]), if_neg qc]
              exact flt i _ hW6
theorem q10_readsWard (F L : Nat) {S : zz_M} (b : Nat → Int32) (hL : L ≤ 41) (gt : zz_gA S 0 0 = nI L) (gb : ∀ j, j < L → zz_gA S 1 j = b j) (hF : 100 ≤ F) : ∃ (x0 : Nat) (x1' : Int32) (kd' : Nat → Int32), pX10_readsWard F S = some (sp_i (sp_ward b L).1, wdS S (nI x0) x1' (nI (sp_ward b L).2.1) kd') ∧ ((sp_ward b L).1 = none → x0 = (sp_ward b L).2.2.1) ∧ x0 ≤ 6 ∧ (∀ j, j < (sp_ward b L).2.1 → kd' j = nI ((sp_ward b L).2.2.2 j)) := by
  unfold pX10_readsWard
  simp only [zz_lt]
  have e : zz_sI (zz_sI (zz_sI S 2 0) 1 0) 0 6 = wdS S (nI 6) (nI 0) (nI 0) (zz_gA S 2) := by
    unfold wdS
    have e1 : ∀ (T : zz_M) (k : Nat), zz_sA T k (zz_gA T k) = T := fun T k => by unfold zz_sA zz_gA; rw [zs_upS]
    have e2 := e1 (zz_sI (zz_sI (zz_sI S 0 (nI 6)) 1 (nI 0)) 2 (nI 0)) 2
    rw [show zz_gA (zz_sI (zz_sI (zz_sI S 0 (nI 6)) 1 (nI 0)) 2 (nI 0)) 2 = zz_gA S 2 from rfl] at e2
    rw [e2, zs_IIc _ (show (1 : Nat) ≠ 0 by decide), zs_IIc _ (show (2 : Nat) ≠ 0 by decide), zs_IIc _ (show (2 : Nat) ≠ 1 by decide)]
    rfl
  rw [e]
  exact q10_rwL F L b hL gt gb F L 0 0 0 0 0 (fun _ => 0) _ _ (by omega) (by omega) ⟨by omega, fun _ => ⟨by omega, rfl⟩, fun h => absurd h (by decide), fun j hj => by omega⟩ (fun j hj => by omega) (by omega) (by omega)
