/-! which shop to ask of -/
def sAk (S : zz_M) (c i : Nat) : Nat := fa_cnt (fun k => sOm S k && sTn9 S k c) i
def sAl (S : zz_M) (i : Nat) : Nat := fa_cnt (sOm S) i
def sp_mx (t a : Nat) : Nat := if t ≤ a - t then a - t else t
def sAv (S : zz_M) (c : Nat) : Nat := sp_mx (sAk S c (cM S)) (sAl S (cM S))
def sAsk (S : zz_M) : Option (Nat × Nat) := sp_bst (sp_shop (cN S) (cK S)) (sAv S) (cN S)
def a_ask (S : zz_M) : Int32 := sp_b1 (sAsk S)
theorem sAk_le (S : zz_M) (c : Nat) : ∀ i, sAk S c i ≤ sAl S i
  | 0 => Nat.le_refl 0
  | i + 1 => by
    have := sAk_le S c i
    unfold sAk sAl at this ⊢
    rw [fa_cnt, fa_cnt]
    cases sOm S i <;> cases sTn9 S i c <;> simp <;> omega
/-- the same in all that lasts, the counts of what is taken aside -/
def sa (S T : zz_M) : Prop := sm S (zz_sA T 14 (zz_gA S 14))
theorem sa_sm {S T : zz_M} (h : sm S T) : sa S T := by
  have e : zz_gA T 14 = zz_gA S 14 := h.1 14 (by decide) (by decide) (by decide) (by decide) (by decide) (by decide) (by decide) (by decide) (by decide) (by decide)
  unfold sa; rw [← e, ss_A]; exact h
theorem sm_cA {S T : zz_M} (h : sm S T) (k : Nat) (v : Nat → Int32) : sm (zz_sA S k v) (zz_sA T k v) :=
  ⟨fun j a b c d e f g i l m => by rw [zg_AA, zg_AA]; split; rfl; exact h.1 j a b c d e f g i l m, h.2⟩
theorem sa_tr {S T U : zz_M} (h : sa S T) (g : sm T U) : sa S U := by
  have := sm_cA g 14 (zz_gA S 14)
  exact sm_tr h this
theorem sa_up {S T : zz_M} {w : Nat → Int32} (h : sa S T) : sa S (zz_sA T 14 w) := by
  unfold sa at h ⊢; rw [zs_AA]; exact h
theorem sa_ok {S T : zz_M} (h : sa S T) (k : ok10 S) : ok10 T := by
  have := sm_ok h k
  exact this
theorem sa_mk {S T : zz_M} (h : sa S T) (k : mk10 S) : mk10 T := by
  have := sm_mk h k
  exact this
theorem sa_Tn9 {S T : zz_M} (h : sa S T) : sTn9 T = sTn9 S := by
  have := sm_Tn9 h
  exact this
theorem sa_M {S T : zz_M} (h : sa S T) : cM T = cM S := by
  have := sm_M h
  exact this
theorem sa_N {S T : zz_M} (h : sa S T) : cN T = cN S := by
  have := sm_N h
  exact this
theorem sa_K {S T : zz_M} (h : sa S T) : cK T = cK S := by
  have := sm_K h
  exact this
/-- a night without one step, walked by the reference, whatever is counted -/
theorem q10_nightWa (F : Nat) {S : zz_M} (h : ok10 S) (hF : 100 ≤ F) (k : Nat) : ∃ T U, pX10_without F (nI k) (-nI 1) S = some T ∧ pX10_walks F T = some U ∧ sm S U ∧ rd10 U ∧ ∀ w c, c < 36 → pX10_isTaken F (nI c) (zz_sA U 14 w) = some (zb (sTn9 S k c)) := by
  obtain ⟨T, e1, e2, e3⟩ := q10_without F h hF (nI k) (-nI 1)
  obtain ⟨U, f1, f2, f3⟩ := q10_walked F (sm_ok e2 h) e3 hF
  have hs := sm_tr e2 f2
  refine ⟨T, U, e1, f1, hs, f3.1.1, fun w c hc => ?_⟩
  have f4 := q10_isTakenW F (T := zz_sA U 14 w) (m := (sp_wo (cB S) (sp_sk (nI k) (-nI 1)) (cM S)).1) (bs := (sp_wo (cB S) (sp_sk (nI k) (-nI 1)) (cM S)).2) (fg := fgT S) (have q := f3; q) hF (show c < 2 ^ 31 by omega)
  rw [f4]
  have f5 : sTk (zz_sA U 14 w) (sp_wo (cB S) (sp_sk (nI k) (-nI 1)) (cM S)).1 (sp_wo (cB S) (sp_sk (nI k) (-nI 1)) (cM S)).2 (fgT S) = sTk U (sp_wo (cB S) (sp_sk (nI k) (-nI 1)) (cM S)).1 (sp_wo (cB S) (sp_sk (nI k) (-nI 1)) (cM S)).2 (fgT S) := rfl
  have f6 : cWt (zz_sA U 14 w) = cWt U := rfl
  have f7 : cT (zz_sA U 14 w) = cT U := rfl
  rw [f5, f6, f7, sm_sTk hs, sm_Wt hs, sm_T hs]
  rfl
theorem q10_akL1 (F : Nat) {U : zz_M} {n : Nat} {tk : Nat → Bool} (hn : n ≤ 36) (g2 : zz_gI U 2 = nI n) (ht : ∀ w c, c < 36 → pX10_isTaken F (nI c) (zz_sA U 14 w) = some (zb (tk c))) {v0 : Nat → Nat} (j : Int32 → zz_M → Option (Int32 × zz_M)) (x : Int32) : ∀ (f l c : Nat) (w : Nat → Int32), c + l = n → l < f → (∀ d, d < n → w d = nI (v0 d + if d < c ∧ tk d = true then 1 else 0)) →
    ∃ w', pX10_askNow_L66_46 F j x f (nI c) (zz_sA U 14 w) = j x (zz_sA U 14 w') ∧ ∀ d, d < n → w' d = nI (v0 d + if tk d = true then 1 else 0) := by
  intro f
  induction f with
  | zero => intro l c w _ h; omega
  | succ f ih =>
    intro l c w hl hf hw
    rw [pX10_askNow_L66_46]
    simp only [zz_lt]
    rw [show zz_gI (zz_sA U 14 w) 2 = nI n from g2]
    simp (disch := omega) only [zl_lit, nI_leI, zl_in, nI_clamp, nI_add]
    cases l with
    | zero =>
      rw [if_pos (by omega)]
      refine ⟨w, rfl, fun d hd => ?_⟩
      rw [hw d hd]
      cases tk d <;> simp [show d < c by omega]
    | succ l =>
      rw [if_neg (by omega), if_pos (by omega), ht w c (by omega)]
      simp only [zz_b1, zb0]
      rw [if_pos (show c < 36 by omega), zs_AA, show zz_gA (zz_sA U 14 w) 14 = w from by rw [zg_AA, if_pos rfl]]
      refine ih l (c + 1) _ (by omega) (by omega) (fun d hd => ?_)
      by_cases q : d = c
      · subst q
        rw [pk_us, hw d hd]
        cases tk d
        · simp [nI_add]
        · simp [nI_add]
      · rw [pk_un q, hw d hd]
        have : (d < c + 1 ∧ tk d = true) ↔ (d < c ∧ tk d = true) := by constructor <;> rintro ⟨a, b⟩ <;> exact ⟨by omega, b⟩
        simp only [this]
theorem q10_akL2 (F : Nat) {S : zz_M} (h : ok10 S) (hF : 100 ≤ F) : ∀ (f l i : Nat) (T : zz_M), sa S T → rd10 T → (∀ c, c < cN S → zz_gA T 14 c = nI (sAk S c i)) → i + l = cM S → l < f →
    ∃ U, pX10_askNow_L34_11 F (nI (a_omitted S)) f (nI (sAl S i)) (nI i) T = pX10_askNow_L119_15 (nI (sAl S (cM S))) U F (-nI 1) (nI 0) (nI 0) ∧ sa S U ∧ rd10 U ∧ ∀ c, c < cN S → zz_gA U 14 c = nI (sAk S c (cM S)) := by
  have hm := cM_le h
  have hn := cN_le S
  have ho : a_omitted S < 2 ^ 24 := Nat.lt_of_lt_of_le (sp_mk_lt _ _) (Nat.pow_le_pow_right (by decide) hm)
  intro f
  induction f with
  | zero => intro l i T _ _ _ _ h; omega
  | succ f ih =>
    intro l i T e2 e3 hA hl hf
    have g3 : zz_gI T 3 = nI (cM T) := e3.2.2.2.1
    rw [sa_M e2] at g3
    have hal := fa_cnt_le (sOm S) i
    rw [pX10_askNow_L34_11, g3]
    simp (disch := omega) only [zl_lit, zz_lt, nI_leI, nI_add]
    cases l with
    | zero =>
      have e : i = cM S := by omega
      subst e
      rw [if_pos (by omega)]
      exact ⟨T, rfl, e2, e3, hA⟩
    | succ l =>
      rw [if_neg (by omega), q10_isIn F (by omega) (by omega)]
      have eb : (a_omitted S).testBit i = sOm S i := by unfold a_omitted; rw [sp_mk_b, decide_eq_true (by omega), Bool.true_and]
      rw [eb]
      simp only [zz_b1, zb0]
      cases q : sOm S i
      · rw [if_pos rfl]
        have h1 := ih l (i + 1) T e2 e3 (fun c hc => by
          have z : sAk S c (i + 1) = sAk S c i := by unfold sAk; rw [fa_cnt_no (by rw [q]; rfl)]
          rw [z]; exact hA c hc) (by omega) (by omega)
        have z : sAl S (i + 1) = sAl S i := by unfold sAl; rw [fa_cnt_no q]
        rw [z] at h1
        exact h1
      · rw [if_neg (by decide)]
        obtain ⟨U, V, f1, f2, f3, f4, f5⟩ := q10_nightWa F (sa_ok e2 h) hF i
        rw [f1]
        simp only
        rw [f2]
        simp only
        have hs := sa_tr e2 f3
        have g2 : zz_gI V 2 = nI (cN V) := f4.2.1
        rw [sa_N hs] at g2
        have gA : zz_gA V 14 = zz_gA T 14 := f3.1 14 (by decide) (by decide) (by decide) (by decide) (by decide) (by decide) (by decide) (by decide) (by decide) (by decide)
        rw [sa_Tn9 e2] at f5
        obtain ⟨w', r1, r2⟩ := q10_akL1 F hn g2 f5 (v0 := fun c => sAk S c i) (fun x36 z37 => pX10_askNow_L34_11 F (nI (a_omitted S)) f x36 (nI (i + 1)) z37) (nI (sAl S i + 1)) F (cN S) 0 (zz_gA V 14) (by omega) (by omega) (fun d hd => by rw [gA, hA d hd, if_neg (by omega)]; rfl)
        rw [ss_A] at r1
        rw [r1]
        have h1 := ih l (i + 1) (zz_sA V 14 w') (sa_up hs) (have z := f4; z) (fun c hc => by
          rw [show zz_gA (zz_sA V 14 w') 14 = w' from by rw [zg_AA, if_pos rfl], r2 c hc]
          unfold sAk
          rw [fa_cnt, q, Bool.true_and]) (by omega) (by omega)
        have z : sAl S (i + 1) = sAl S i + 1 := by unfold sAl; rw [fa_cnt_yes q]
        rw [z] at h1
        exact h1
theorem q10_akL3 {S T : zz_M} (h : ok10 S) (e2 : sa S T) (e3 : rd10 T) (hA : ∀ c, c < cN S → zz_gA T 14 c = nI (sAk S c (cM S))) : ∀ (f l c : Nat), c + l = cN S → l < f →
    pX10_askNow_L119_15 (nI (sAl S (cM S))) T f (sp_b1 (sp_bst (sp_shop (cN S) (cK S)) (sAv S) c)) (sp_b2 (nI 0) (sp_bst (sp_shop (cN S) (cK S)) (sAv S) c)) (nI c) = some (a_ask S, T) := by
  have hm := cM_le h
  have hn := cN_le S
  have hal := fa_cnt_le (sOm S) (cM S)
  have hal2 : sAl S (cM S) ≤ 24 := Nat.le_trans hal hm
  obtain ⟨-, g2, gk, -⟩ := e3
  rw [sa_N e2] at g2 gk
  rw [sa_K e2] at gk
  intro f
  induction f with
  | zero => intro l c _ h; omega
  | succ f ih =>
    intro l c hl hf
    rw [pX10_askNow_L119_15, g2]
    simp only [zz_lt]
    simp (config := { maxSteps := 2000000 }) (disch := omega) only [zl_lit, nI_leI, zl_in, nI_clamp, nI_add]
    cases l with
    | zero => rw [if_pos (by omega), show c = cN S by omega]; rfl
    | succ l =>
      have hle := sAk_le S c (cM S)
      rw [if_neg (by omega), if_pos (by omega), gk c (by omega), hA c (by omega), pk_sub hle]
      simp (disch := omega) only [nI_leI]
      simp only [if_pos (show c < 36 by omega)]
      have h1 := ih l (c + 1) (by omega) (by omega)
      rw [sp_bst] at h1
      have es : sp_shop (cN S) (cK S) c = decide (cK S c = nI 2) := by unfold sp_shop; rw [decide_eq_true (show c < cN S by omega), Bool.true_and]
      rw [es] at h1
      have ev : (if sAk S c (cM S) ≤ sAl S (cM S) - sAk S c (cM S) then nI (sAl S (cM S) - sAk S c (cM S)) else nI (sAk S c (cM S))) = nI (sAv S c) := by
        unfold sAv sp_mx; split <;> rfl
      have hv : sAv S c ≤ 24 := by unfold sAv sp_mx; split <;> omega
      by_cases qk : cK S c = nI 2
      · rw [if_pos qk]
        rw [decide_eq_true qk, if_pos rfl] at h1
        cases qo : sp_bst (sp_shop (cN S) (cK S)) (sAv S) c with
        | none =>
          rw [qo, sp_le, if_neg (by decide)] at h1
          by_cases qm : sAk S c (cM S) ≤ sAl S (cM S) - sAk S c (cM S)
          · rw [if_pos qm] at ev ⊢
            rw [ev]; exact h1
          · rw [if_neg qm] at ev ⊢
            rw [ev]; exact h1
        | some x =>
          obtain ⟨b, y⟩ := x
          obtain ⟨b1, -, b3⟩ := sp_bst_ok _ _ _ qo
          have hy : y ≤ 24 := by
            rw [b3]; have := sAk_le S b (cM S); unfold sAv sp_mx; split <;> omega
          rw [qo, sp_le] at h1
          rw [show sp_b1 (some (b, y)) = nI b from rfl, show sp_b2 (nI 0) (some (b, y)) = nI y from rfl]
          simp (disch := omega) only [zl_m1a, if_false]
          have fin : ∀ x : Int32, x = nI (sAv S c) → pX10_askNow_L119_15 (nI (sAl S (cM S))) T f (if (if nI y ≤ x then nI 0 else nI 1) = nI 0 then nI b else nI c) (if (if nI y ≤ x then nI 0 else nI 1) = nI 0 then nI y else x) (nI (c + 1)) = some (a_ask S, T) := by
            intro x hx
            rw [hx]
            by_cases q : y ≤ sAv S c
            · rw [decide_eq_true q, if_pos rfl] at h1
              rw [if_pos (nI_le q (by omega)), if_pos rfl, if_pos rfl]
              exact h1
            · rw [decide_eq_false q, if_neg (by decide)] at h1
              rw [if_neg (nI_ge (by omega) (by omega)), if_neg (by decide), if_neg (by decide)]
              exact h1
          by_cases qm : sAk S c (cM S) ≤ sAl S (cM S) - sAk S c (cM S)
          · rw [if_pos qm] at ev ⊢
            exact fin _ ev
          · rw [if_neg qm] at ev ⊢
            exact fin _ ev
      · rw [if_neg qk]
        rw [decide_eq_false qk, if_neg (by decide)] at h1
        exact h1
theorem q10_akL0 (F : Nat) (r1 : Int32) {S T : zz_M} (e2 : sm S T) : ∀ (f l c : Nat) (w : Nat → Int32), c + l = 36 → l < f → (∀ d, d < c → w d = nI 0) →
    ∃ w', pX10_askNow_L9_5 F r1 f (nI c) (zz_sA T 14 w) = zz_b1 (pX10_reads F (zz_sA T 14 w')) (fun S7 => pX10_askNow_L34_11 F r1 F (nI 0) (nI 0) S7) ∧ ∀ d, d < 36 → w' d = nI 0 := by
  intro f
  induction f with
  | zero => intro l c w _ h; omega
  | succ f ih =>
    intro l c w hl hf hw
    rw [pX10_askNow_L9_5]
    simp only [zz_lt]
    simp (disch := omega) only [zl_lit, nI_leI, zl_in, nI_clamp, nI_add]
    cases l with
    | zero =>
      rw [if_pos (by omega)]
      exact ⟨w, rfl, fun d hd => hw d (by omega)⟩
    | succ l =>
      rw [if_neg (by omega), if_pos (by omega), zs_AA, show zz_gA (zz_sA T 14 w) 14 = w from by rw [zg_AA, if_pos rfl]]
      refine ih l (c + 1) _ (by omega) (by omega) (fun d hd => ?_)
      by_cases q : d = c
      · subst q; rw [pk_us]
      · rw [pk_un q]; exact hw d (by omega)
theorem q10_askNow (F : Nat) {S : zz_M} (h : ok10 S) (hm : mk10 S) (hF : 100 ≤ F) : ∃ U, pX10_askNow F S = some (a_ask S, U) ∧ sa S U := by
  obtain ⟨T, e1, e2⟩ := q10_omittedNow F h hm hF
  have hc := cM_le h
  have hn := cN_le S
  unfold pX10_askNow
  rw [e1]
  simp only [zz_b2, zl_lit]
  obtain ⟨w, f1, f2⟩ := q10_akL0 F (nI (a_omitted S)) e2 F 36 0 (zz_gA T 14) (by omega) (by omega) (fun d hd => by omega)
  rw [ss_A] at f1
  rw [f1]
  have s1 : sa S (zz_sA T 14 w) := sa_up (sa_sm e2)
  obtain ⟨U, u1, u2, u3⟩ := q10_reads F (sa_ok s1 h) hF
  rw [u1]
  simp only [zz_b1]
  have uA : zz_gA U 14 = w := u2.1 14 (by decide) (by decide) (by decide) (by decide) (by decide) (by decide) (by decide) (by decide) (by decide) (by decide)
  obtain ⟨V, v1, v2, v3, v4⟩ := q10_akL2 F h hF F (cM S) 0 U (sa_tr s1 u2) u3 (fun c hc => by rw [uA, f2 c (by omega)]; rfl) (by omega) (by omega)
  have z : sAl S 0 = 0 := rfl
  rw [z] at v1
  rw [v1]
  have e := q10_akL3 h v2 v3 v4 F (cN S) 0 (by omega) (by omega)
  exact ⟨V, e, v2⟩
theorem q10_ask (F : Nat) {S : zz_M} (h : ok10 S) (hm : mk10 S) (hF : 100 ≤ F) : ∃ U, pX10_ask F S = some (a_ask S, U) ∧ sa S U := by
  obtain ⟨U, e1, e2⟩ := q10_askNow F h hm hF
  unfold pX10_ask
  rw [e1]
  exact ⟨U, rfl, e2⟩
