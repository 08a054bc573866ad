/-! which shop to ask of: the class -/
theorem qJ_fillL {N : Nat} (hN : N ≤ 60) (x : Int32) : ∀ (f l c : Nat) (z : Nat → Int32), c + l = N → l < f → (∀ d, d < c → z d = x) →
    ∃ z', pJ7_fill_53178_L5_3 x N (nI N) f (nI c) z = some z' ∧ ∀ d, d < N → z' d = x := by
  intro f
  induction f with
  | zero => intro l c z _ h; omega
  | succ f ih =>
    intro l c z hl hf hz
    rw [pJ7_fill_53178_L5_3]
    simp only [zz_lt]
    simp (disch := omega) only [zl_lit, nI_leI, zl_in, nI_clamp, nI_add]
    cases l with
    | zero => rw [if_pos (by omega)]; exact ⟨z, rfl, fun d hd => hz d (by omega)⟩
    | succ l =>
      rw [if_neg (by omega), if_pos (by omega)]
      refine ih l (c + 1) _ (by omega) (by omega) (fun d hd => ?_)
      by_cases q : d = c
      · subst q; rw [pk_us]
      · rw [pk_un q]; exact hz d (by omega)
theorem qJ_fill (F : Nat) {N : Nat} (hN : N ≤ 60) (x : Int32) (z : Nat → Int32) (hF : 100 ≤ F) : ∃ z', pJ7_fill_53178 F N x z = some z' ∧ ∀ d, d < N → z' d = x := by
  unfold pJ7_fill_53178
  simp only [zz_lt]
  exact qJ_fillL hN x F N 0 z (by omega) (by omega) (fun d hd => by omega)
theorem q9_bitI {u c : Nat} (hu : u < 2 ^ 63) (hc : c < 64) : ((zz_lushr (lN u) (nI c)) &&& lN 1).toInt32 = nI (if u.testBit c = true then 1 else 0) := by
  unfold zz_lushr
  rw [show lN 1 = 1 from rfl, wb_bit (by omega) hc, zl_l2i, Nat.testBit_eq_decide_div_mod_eq]
  have hb : u / 2 ^ c % 2 < 2 := Nat.mod_lt _ (by decide)
  generalize u / 2 ^ c % 2 = x at hb ⊢
  rcases (show x = 0 ∨ x = 1 by omega) with rfl | rfl <;> rfl
theorem q9_ctL {C : zz_M} {u : Nat} (hu : u < 2 ^ 63) {v0 : Nat → Nat} : ∀ (f l c : Nat) (w : Nat → Int32), c + l = 36 → l < f → (∀ d, d < 36 → w d = nI (v0 d + if d < c ∧ u.testBit d = true then 1 else 0)) →
    ∃ w', pX9_countTakings_L2_2 (lN u) f (nI c) (zz_sA C 22 w) = some (zz_sA C 22 w') ∧ ∀ d, d < 36 → w' d = nI (v0 d + if u.testBit d = true then 1 else 0) := by
  intro f
  induction f with
  | zero => intro l c w _ h; omega
  | succ f ih =>
    intro l c w hl hf hw
    rw [pX9_countTakings_L2_2]
    simp only [zz_lt]
    simp (disch := omega) only [zl_lit, zl_litL, nI_leI, zl_in, nI_clamp, nI_add]
    cases l with
    | zero =>
      rw [if_pos (by omega)]
      refine ⟨w, rfl, fun d hd => ?_⟩
      rw [hw d hd]
      cases u.testBit d <;> simp [show d < c by omega]
    | succ l =>
      rw [if_neg (by omega), if_pos (by omega), if_pos (by omega), zs_AA, show zz_gA (zz_sA C 22 w) 22 = w from by rw [zg_AA, if_pos rfl], q9_bitI hu (by omega)]
      refine ih l (c + 1) _ (by omega) (by omega) (fun d hd => ?_)
      by_cases q : d = c
      · subst q
        rw [pk_us, hw d hd]
        cases u.testBit d
        · simp [nI_add]
        · simp [nI_add]
      · rw [pk_un q, hw d hd]
        have : (d < c + 1 ∧ u.testBit d = true) ↔ (d < c ∧ u.testBit d = true) := by constructor <;> rintro ⟨a, b⟩ <;> exact ⟨by omega, b⟩
        simp only [this]
theorem q9_mtL (F : Nat) {C S : zz_M} (h : ok10 S) (p : p9 C S) (hA : ∀ c, c < 36 → zz_gA C 22 c = nI (sAk S c (cM S))) : ∀ (f l c : Nat), c + l = cN S → l < f →
    pX9_mostTellingShop_L7_3 (nI (sAl S (cM S))) F C f (sp_b1 (sp_bst (sp_shop (cN S) (cK S)) (sAv S) c)) (sp_b2 (nI 0) (sp_bst (sp_shop (cN S) (cK S)) (sAv S) c)) (nI c) = some (a_ask S) := by
  have hm := cM_le h
  have hn := cN_le S
  have hal := fa_cnt_le (sOm S) (cM S)
  have hal2 : sAl S (cM S) ≤ 24 := Nat.le_trans hal hm
  obtain ⟨-, -, -, -, ⟨w1, -, -, w4⟩, -⟩ := p
  intro f
  induction f with
  | zero => intro l c _ h; omega
  | succ f ih =>
    intro l c hl hf
    rw [pX9_mostTellingShop_L7_3, w1]
    simp only [zz_lt]
    simp (config := { maxSteps := 2000000 }) (disch := omega) only [zl_lit, nI_leI, zl_in, nI_clamp, nI_add]
    cases l with
    | zero => rw [if_pos (by omega), show c = cN S by omega]; rfl
    | succ l =>
      have hle := sAk_le S c (cM S)
      rw [if_neg (by omega), q8_isShop F hn (by omega), sp_shop_cg w4, hA c (by omega), pk_sub hle]
      simp only [zz_b1, zb0]
      simp only [if_pos (show c < 36 by omega)]
      have h1 := ih l (c + 1) (by omega) (by omega)
      rw [sp_bst] at h1
      have ev : (if nI (sAk S c (cM S)) < nI (sAl S (cM S) - sAk S c (cM S)) then nI (sAl S (cM S) - sAk S c (cM S)) else nI (sAk S c (cM S))) = nI (sAv S c) := by
        unfold sAv sp_mx
        by_cases q : sAk S c (cM S) < sAl S (cM S) - sAk S c (cM S)
        · rw [if_pos (nI_lt q (by omega)), if_pos (by omega)]
        · rw [if_neg (nI_nlt (by omega) (by omega))]
          by_cases q2 : sAk S c (cM S) ≤ sAl S (cM S) - sAk S c (cM S)
          · rw [if_pos q2]; congr 1; omega
          · rw [if_neg q2]
      have hv : sAv S c ≤ 24 := by unfold sAv sp_mx; split <;> omega
      rw [ev]
      cases qk : sp_shop (cN S) (cK S) c
      · rw [if_pos rfl]
        rw [qk, if_neg (by decide)] at h1
        exact h1
      · rw [if_neg (by decide)]
        rw [qk, if_pos rfl] at h1
        cases qo : sp_bst (sp_shop (cN S) (cK S)) (sAv S) c with
        | none =>
          rw [qo, sp_le, if_neg (by decide)] at h1
          exact h1
        | some x =>
          obtain ⟨b, y⟩ := x
          obtain ⟨b1, -, b3⟩ := sp_bst_ok _ _ _ qo
          have hy : y ≤ 24 := by
            rw [b3]; have := sAk_le S b (cM S); unfold sAv sp_mx; split <;> omega
          rw [qo, sp_le] at h1
          rw [show sp_b1 (some (b, y)) = nI b from rfl, show sp_b2 (nI 0) (some (b, y)) = nI y from rfl]
          simp (disch := omega) only [zl_m1a, nI_leI, if_false]
          by_cases q : y ≤ sAv S c
          · rw [decide_eq_true q, if_pos rfl] at h1
            rw [if_pos q]
            exact h1
          · rw [decide_eq_false q, if_neg (by decide)] at h1
            rw [if_neg q]
            exact h1
theorem q9_akL (F : Nat) {S : zz_M} (h : ok10 S) (hF : 100 ≤ F) : ∀ (f l i : Nat) (C : zz_M), p9 C S → n9 C S → m9 C S → (∀ c, c < 36 → zz_gA C 22 c = nI (sAk S c i)) → i + l = cM S → l < f →
    ∃ D, pX9_ask_L16_8 F f (nI (sAl S i)) (nI i) C = some (a_ask S, D) ∧ kp C D := by
  have hm := cM_le h
  have hn := cN_le S
  intro f
  induction f with
  | zero => intro l i C _ _ _ _ _ h; omega
  | succ f ih =>
    intro l i C p n m hA hl hf
    have g5 : zz_gI C 5 = nI (cM S) := p.2.2.2.2.2.1.1
    have hal := fa_cnt_le (sOm S) i
    rw [pX9_ask_L16_8, g5]
    simp (disch := omega) only [zl_lit, zz_lt, nI_leI, nI_add]
    cases l with
    | zero =>
      have e : i = cM S := by omega
      subst e
      rw [if_pos (by omega)]
      unfold pX9_mostTellingShop
      simp only [zl_lit]
      have e := q9_mtL F h p hA F (cN S) 0 (by omega) (by omega)
      rw [show sp_b1 (sp_bst (sp_shop (cN S) (cK S)) (sAv S) 0) = -nI 1 from rfl, show sp_b2 (nI 0) (sp_bst (sp_shop (cN S) (cK S)) (sAv S) 0) = nI 0 from rfl] at e
      rw [e]
      exact ⟨C, rfl, kp_rfl C⟩
    | succ l =>
      obtain ⟨D, f1, f2⟩ := q9_takenWo F h p n hF (nI i)
      have hlt := sWo_lt h (nI i) (-nI 1)
      have mD := m9_ke (ke_ko f2) m
      rw [if_neg (by omega), f1]
      simp only [zz_b2]
      rw [q9_agrees F (by omega) mD hF, sOm_e]
      simp only [zz_b1, zb0]
      have hAD : zz_gA D 22 = zz_gA C 22 := f2.2.1 22 (by decide) (by decide)
      cases q : sOm S i
      · rw [if_pos rfl]
        obtain ⟨E, h1, h2⟩ := ih l (i + 1) D (p9_ko f2 p) (n9_ko f2 n) mD (fun c hc => by
          have z : sAk S c (i + 1) = sAk S c i := by unfold sAk; rw [fa_cnt_no (by rw [q]; rfl)]
          rw [z, hAD]; exact hA c hc) (by omega) (by omega)
        have z : sAl S (i + 1) = sAl S i := by unfold sAl; rw [fa_cnt_no q]
        rw [z] at h1
        exact ⟨E, h1, kp_tr (kp_ko f2) h2⟩
      · rw [if_neg (by decide)]
        unfold pX9_countTakings
        simp only [zl_lit]
        obtain ⟨w', r1, r2⟩ := q9_ctL (C := D) (u := sp_tf (sWo S (nI i) (-nI 1)) (cWt S) none (cT S)) (by omega) (v0 := fun c => sAk S c i) F 36 0 (zz_gA D 22) (by omega) (by omega) (fun d hd => by rw [hAD, hA d hd, if_neg (by omega)]; rfl)
        rw [ss_A] at r1
        rw [r1]
        have kk : kp D (zz_sA D 22 w') := kp_A (kp_rfl D) (by decide)
        have kk2 := kp_tr (kp_ko f2) kk
        obtain ⟨E, h1, h2⟩ := ih l (i + 1) (zz_sA D 22 w') (p9_kp kk2 p) (n9_kp kk2 n) (m9_ke (ke_kp kk2) m) (fun c hc => by
          rw [show zz_gA (zz_sA D 22 w') 22 = w' from by rw [zg_AA, if_pos rfl], r2 c hc]
          rw [sp_tf_b]
          unfold sAk
          rw [fa_cnt, q, Bool.true_and]
          rfl) (by omega) (by omega)
        have z : sAl S (i + 1) = sAl S i + 1 := by unfold sAl; rw [fa_cnt_yes q]
        rw [z] at h1
        exact ⟨E, h1, kp_tr kk2 h2⟩
theorem q9_ask (F : Nat) {C S : zz_M} (h : ok10 S) (r : r9 C S) (m : m9 C S) (hF : 100 ≤ F) : ∃ D, pX9_ask F C = some (a_ask S, D) ∧ r9 D S ∧ ke C D := by
  obtain ⟨D, e1, e2, e3, e4, e5, e6⟩ := q9_set9 F h r hF
  have hm := cM_le h
  unfold pX9_ask
  rw [e1]
  simp only [zz_b1, zl_lit, zz_lt]
  obtain ⟨z, z1, z2⟩ := qJ_fill F (N := 36) (by omega) (nI 0) (zz_gA D 22) hF
  rw [z1]
  have kk : kp D (zz_sA D 22 z) := kp_A (kp_rfl D) (by decide)
  obtain ⟨E, f1, f2⟩ := q9_akL F h hF F (cM S) 0 (zz_sA D 22 z) (p9_kp kk e2.1) (n9_kp kk e4) (m9_ke (ke_kp kk) (m9_ke e3 m)) (fun c hc => by rw [show zz_gA (zz_sA D 22 z) 22 = z from by rw [zg_AA, if_pos rfl], z2 c hc]; rfl) (by omega) (by omega)
  exact ⟨E, f1, r9_kp e2 (kp_tr kk f2), ke_tr e3 (ke_kp (kp_tr kk f2))⟩
