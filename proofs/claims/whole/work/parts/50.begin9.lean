/-! another start, another girth: the class -/
/-- the same but for what is laid out for one answer alone -/
def kp (C D : zz_M) : Prop := (∀ j, j ≠ 21 → j ≠ 22 → j ≠ 23 → zz_gI D j = zz_gI C j) ∧ (∀ j, j ≠ 18 → j ≠ 19 → j ≠ 20 → j ≠ 21 → j ≠ 22 → zz_gA D j = zz_gA C j) ∧ (∀ j, j ≠ 3 → j ≠ 4 → j ≠ 5 → zz_gL D j = zz_gL C j)
theorem kp_rfl (C : zz_M) : kp C C := ⟨fun _ _ _ _ => rfl, fun _ _ _ _ _ _ => rfl, fun _ _ _ _ => rfl⟩
theorem kp_tr {C D E : zz_M} (h : kp C D) (g : kp D E) : kp C E := ⟨fun j a b c => (g.1 j a b c).trans (h.1 j a b c), fun j a b c d e => (g.2.1 j a b c d e).trans (h.2.1 j a b c d e), fun j a b c => (g.2.2 j a b c).trans (h.2.2 j a b c)⟩
theorem kp_ko {C D : zz_M} (h : ko C D) : kp C D := ⟨fun j a _ _ => h.1 j a, fun j a _ _ b _ => h.2.1 j a b, fun j _ a _ => h.2.2 j a⟩
theorem kp_I {C D : zz_M} {k : Nat} {x : Int32} (h : kp C D) (hk : 21 ≤ k ∧ k ≤ 23) : kp C (zz_sI D k x) := ⟨fun j a b c => by rw [zg_II, if_neg (by omega)]; exact h.1 j a b c, h.2.1, h.2.2⟩
theorem kp_A {C D : zz_M} {k : Nat} {x : Nat → Int32} (h : kp C D) (hk : 18 ≤ k ∧ k ≤ 22) : kp C (zz_sA D k x) := ⟨h.1, fun j a b c d e => by rw [zg_AA, if_neg (by omega)]; exact h.2.1 j a b c d e, h.2.2⟩
theorem kp_L {C D : zz_M} {k : Nat} {x : Nat → Int64} (h : kp C D) (hk : 3 ≤ k ∧ k ≤ 5) : kp C (zz_sL D k x) := ⟨h.1, h.2.1, fun j a b c => by rw [zg_LL, if_neg (by omega)]; exact h.2.2 j a b c⟩
theorem p9_kp {C D S : zz_M} (h : kp C D) (p : p9 C S) : p9 D S := by
  obtain ⟨h1, h2, h3⟩ := h
  unfold p9 at p ⊢
  rw [h1 3 (by decide) (by decide) (by decide), h1 4 (by decide) (by decide) (by decide), h1 5 (by decide) (by decide) (by decide), h1 6 (by decide) (by decide) (by decide), h2 3 (by decide) (by decide) (by decide) (by decide) (by decide), h2 4 (by decide) (by decide) (by decide) (by decide) (by decide), h2 5 (by decide) (by decide) (by decide) (by decide) (by decide), h2 6 (by decide) (by decide) (by decide) (by decide) (by decide), h2 7 (by decide) (by decide) (by decide) (by decide) (by decide), h2 8 (by decide) (by decide) (by decide) (by decide) (by decide), h3 0 (by decide) (by decide) (by decide)]
  obtain ⟨p1, p2, p3⟩ := p
  exact ⟨fun k hk => by rw [h1 k (by omega) (by omega) (by omega)]; exact p1 k hk, fun k j hk hj => by rw [h2 k (by omega) (by omega) (by omega) (by omega) (by omega)]; exact p2 k j hk hj, p3⟩
theorem n9_kp {C D S : zz_M} (h : kp C D) (n : n9 C S) : n9 D S := by
  obtain ⟨h1, h2, h3⟩ := h
  unfold n9 at n ⊢
  rw [h1 20 (by decide) (by decide) (by decide), h2 15 (by decide) (by decide) (by decide) (by decide) (by decide), h2 16 (by decide) (by decide) (by decide) (by decide) (by decide), h2 17 (by decide) (by decide) (by decide) (by decide) (by decide), h3 1 (by decide) (by decide) (by decide), h3 2 (by decide) (by decide) (by decide)]
  exact n
theorem r9_kp {C D S : zz_M} (r : r9 C S) (h : kp C D) : r9 D S := ⟨p9_kp h r.1, fun z => by
  rw [h.1 25 (by decide) (by decide) (by decide)] at z
  refine ⟨n9_kp h (r.2 z).1, ?_⟩
  have := (r.2 z).2
  unfold t9 at this ⊢
  rw [h.1 26 (by decide) (by decide) (by decide)]; exact this⟩
theorem ke_kp {C D : zz_M} (h : kp C D) : ke C D := ⟨fun j a b => h.1 j (by omega) (by omega) (by omega), h.1 24 (by decide) (by decide) (by decide), fun j a b => h.2.1 j (by omega) (by omega) (by omega) (by omega) (by omega)⟩
theorem q9_hm (F : Nat) {C S : zz_M} {vw : Nat → Int64} {vm : Nat → Nat} {pl : Nat → Int32} (p : p9 C S) (hv : sp_V vw vm) (hF : 100 ≤ F) : pX7_howManyTake F (zz_gI C 6) (zz_gA C 7) (zz_gA C 8) (zz_gI C 3) (zz_gI C 4) (zz_gL C 0 0) (zz_gA C 5) pl vw = some (nI (fa_cnt (fun i => (sp_takes (cN S) (cK S) vm (cWt S) (cNd S) i).isSome) (cT S))) := by
  obtain ⟨-, -, -, -, ⟨w1, -, -, w4⟩, -, t1, t2⟩ := p
  rw [w1, t1, q7_howManyTake F (cN_le S) t2 hv hF]
  have ef : (fun i => (sp_takes (cN S) (zz_gA C 5) vm (cWt S) (cNd S) i).isSome) = fun i => (sp_takes (cN S) (cK S) vm (cWt S) (cNd S) i).isSome := by
    funext i; rw [sp_takes_cg w4]
  rw [ef]
theorem sBg_e (S : zz_M) {c : Nat} (hc : c < 2 ^ 31) : sBg S c = fa_cnt (fun i => (sp_takes (cN S) (cK S) (sp_vm (cN S) (cW S) (cK S) (cSi S) (fgT S) (sp_pl (cN S) (cW S) (cK S) (cGi S) c (cM S) (cB S))) (cWt S) (cNd S) i).isSome) (cT S) := by
  have e : cSt (zz_sI S 5 (nI c)) = c := by rw [cSt_s, if_pos rfl, nI_clamp hc]
  unfold sBg sLost sTk
  rw [e]
  rfl
theorem sRc_e (S : zz_M) {c : Nat} (hc : c < 2 ^ 31) : sRc S c = fa_cnt (fun i => (sp_takes (cN S) (cK S) (sp_vm (cN S) (cW S) (cK S) (cSi S) (fgT S) (sp_pl (cN S) (cW S) (cK S) c (cSt S) (cM S) (cB S))) (cWt S) (cNd S) i).isSome) (cT S) := by
  have e : cGi (zz_sI S 6 (nI c)) = c := by rw [cGi_s, if_pos rfl, nI_clamp hc]
  unfold sRc sLost sTk
  rw [e]
  rfl
theorem q9_bgL (F : Nat) {S : zz_M} {j : Nat} (hj : j < 2) (h : ok10 S) (hF : 100 ≤ F) : ∀ (f k c : Nat) (C : zz_M), p9 C S → n9 C S → c + k = cN S → k < f →
    ∃ D, pX9_begin_L21_8 (nI j) F f (sp_b1 (sp_bst (sp_for (cK S) (cGi S)) (sBg S) c)) (sp_b2 (-nI 1) (sp_bst (sp_for (cK S) (cGi S)) (sBg S) c)) (nI c) C = some (sp_bj j (sBgO S), D) ∧ kp C D := by
  intro f
  have hn := cN_le S
  induction f with
  | zero => intro k c T _ _ _ h; omega
  | succ f ih =>
    intro k c C p n hk hf
    have g3 : zz_gI C 3 = nI (cN S) := p.2.2.2.2.1.1
    have b1 := p.2.2.2.2.2.1.1
    have b2 := p.2.2.2.2.2.1.2
    have n1 := n.1
    have n2 := n.2.1
    rw [pX9_begin_L21_8, g3]
    simp (disch := omega) only [zl_lit, zz_lt, nI_leI, nI_add, nI_eq]
    cases k with
    | zero =>
      have e : c = cN S := by omega
      subst e
      rw [if_pos (by omega)]
      refine ⟨_, ?_, kp_rfl C⟩
      unfold sp_bj sBgO
      rcases (show j = 0 ∨ j = 1 by omega) with rfl | rfl <;> rfl
    | succ k =>
      rw [if_neg (by omega)]
      have e0 := q0_holds (nx := zz_gA C 15) (vw := zz_gL C 1) F hn (fun c hc => (n2 c hc).1) (some c) (fun c' e => by cases e; omega)
      rw [sp_iS] at e0
      obtain ⟨pl, vw, f1, f2⟩ := q2_walk F (pl0 := zz_gA C 21) (vw0 := zz_gL C 4) (cK_W S) b2 n2 (show c ≤ 35 by omega) hF
      have hv : sp_V vw (sp_vm (cN S) (cW S) (cK S) (cSi S) (fgT S) (sp_pl (cN S) (cW S) (cK S) (cGi S) c (cM S) (cB S))) := fun t ht => (f2 t ht).2
      have e1 := q9_hm F (pl := pl) p hv hF
      rw [← sBg_e S (by omega)] at e1
      rw [n1, e0, b1, f1]
      simp only [zz_b1, zz_b2, zb0, sp_hbS, zg_IL, zg_IA, zg_AL, zg_AA, zg_LL, zg_LA, Nat.reduceEqDiff, reduceIte]
      rw [e1]
      simp only
      have hb := sBg_le h c
      have kk : kp C (zz_sL (zz_sA C 21 pl) 4 vw) := kp_L (kp_A (kp_rfl C) (by decide)) (by decide)
      rw [decide_eq_true (show c < cN S by omega), Bool.true_and]
      cases qf : sp_for (cK S) (cGi S) c
      · rw [if_pos rfl]
        have h1 := ih k (c + 1) C p n (by omega) (by omega)
        rw [sp_bst, if_neg (by rw [qf]; decide)] at h1
        exact h1
      · rw [if_neg (by decide)]
        obtain ⟨D, h1, h2⟩ := ih k (c + 1) _ (p9_kp kk p) (n9_kp kk n) (by omega) (by omega)
        refine ⟨D, ?_, kp_tr kk h2⟩
        rw [sp_bst, if_pos qf] at h1
        cases qo : sp_bst (sp_for (cK S) (cGi S)) (sBg S) c with
        | none =>
          rw [qo, sp_le, if_neg (by decide)] at h1
          exact h1
        | some x =>
          obtain ⟨b, y⟩ := x
          obtain ⟨b1, -, b3⟩ := sp_bst_ok _ _ _ qo
          have hy := sBg_le h b
          rw [← b3] at hy
          rw [qo, sp_le] at h1
          rw [show sp_b1 (some (b, y)) = nI b from rfl, show sp_b2 (-nI 1) (some (b, y)) = nI y from rfl]
          simp (disch := omega) only [zl_m1a, nI_leI, if_false]
          by_cases q : y ≤ sBg S c
          · rw [decide_eq_true q, if_pos rfl] at h1
            rw [if_pos q]
            exact h1
          · rw [decide_eq_false q, if_neg (by decide)] at h1
            rw [if_neg q]
            exact h1
theorem q9_begin (F : Nat) {C S : zz_M} (h : ok10 S) (r : r9 C S) (hF : 100 ≤ F) (u : Int32) : ∃ D, pX9_begin F u C = some (a_begin S u, D) ∧ r9 D S ∧ ke C D := by
  unfold pX9_begin a_begin
  rw [q9_isEither]
  simp only [zl_lit, zz_b1, zb0]
  cases q : zu u 2 with
  | none => exact ⟨C, rfl, r, ke_rfl C⟩
  | some j =>
    obtain ⟨h1, h2⟩ := zu_S q
    subst h2
    have hn := cN_le S
    obtain ⟨D, e1, e2, e3, e4, e5, e6⟩ := q9_set9 F h r hF
    obtain ⟨E, u1, u2⟩ := q9_bgL F h1 h hF F (cN S) 0 D e2.1 e4 (by omega) (by omega)
    rw [e1]
    exact ⟨E, u1, r9_kp e2 u2, ke_tr e3 (ke_kp u2)⟩
theorem q9_rcL (F : Nat) {S : zz_M} {j : Nat} (hj : j < 2) (h : ok10 S) (hF : 100 ≤ F) : ∀ (f k c : Nat) (C : zz_M), p9 C S → c + k = 10 → k < f →
    ∃ D, pX9_recruit_L17_6 (nI j) F f (sp_b1 (sp_bst (fun _ => true) (sRc S) c)) (sp_b2 (-nI 1) (sp_bst (fun _ => true) (sRc S) c)) (nI c) C = some (sp_bj j (sRcO S), D) ∧ kp C D := by
  intro f
  have hn := cN_le S
  have hs := cSg_le h
  induction f with
  | zero => intro k c T _ _ h; omega
  | succ f ih =>
    intro k c C p hk hf
    rw [pX9_recruit_L17_6]
    simp (disch := omega) only [zl_lit, zz_lt, nI_ltI, nI_add, nI_eq]
    cases k with
    | zero =>
      have e : c = 10 := by omega
      subst e
      rw [if_pos (by omega)]
      refine ⟨_, ?_, kp_rfl C⟩
      unfold sp_bj sRcO
      rcases (show j = 0 ∨ j = 1 by omega) with rfl | rfl <;> rfl
    | succ k =>
      rw [if_neg (by omega), q9_presentSight F h p]
      have p' := p
      obtain ⟨-, -, -, ⟨p1, -⟩, ⟨w1, w2, w3, w4⟩, ⟨b1, b2⟩, -⟩ := p'
      have hW : sp_W (cN S) (cW S) (zz_gA C 5) := sp_W_cg (cK_W S) (fun j hj => (w4 j hj).symm)
      obtain ⟨nx, gv, hd, l1, l2⟩ := q0_lay F (c0 := zz_gI C 22) (nx0 := zz_gA C 19) (vw0 := zz_gL C 3) (hd0 := zz_gA C 20) (sh := zz_gL C 0 0) hW (show c ≤ 9 by omega) hs hF
      have l3 := sp_G_cg hW w4 l2
      obtain ⟨pl, vw, f1, f2⟩ := q2_walk F (pl0 := zz_gA C 21) (vw0 := zz_gL C 4) (cK_W S) b2 l3 h.2.2.1.2 hF
      have hv : sp_V vw (sp_vm (cN S) (cW S) (cK S) (cSi S) (fgT S) (sp_pl (cN S) (cW S) (cK S) c (cSt S) (cM S) (cB S))) := fun t ht => (f2 t ht).2
      have e1 := q9_hm F (pl := pl) p hv hF
      rw [← sRc_e S (by omega)] at e1
      simp only [zz_b1]
      have w1' := w1
      have w2' := w2
      rw [w1, w2, l1]
      simp only [zz_b4, zg_IL, zg_IA, zg_AL, zg_AA, zg_LL, zg_LA, zg_AI, zg_LI, zg_II, Nat.reduceEqDiff, reduceIte]
      rw [show (nI 0).toNatClampNeg = 0 from rfl, p1, b1, f1]
      simp only [zz_b2, zg_IL, zg_IA, zg_AL, zg_AA, zg_LL, zg_LA, zg_AI, zg_LI, zg_II, Nat.reduceEqDiff, reduceIte]
      rw [e1]
      simp only
      have hb := sRc_le h c
      have kk : kp C (zz_sL (zz_sA (zz_sA (zz_sL (zz_sA (zz_sI C 22 (nI (cN S))) 19 nx) 3 gv) 20 hd) 21 pl) 4 vw) := kp_L (kp_A (kp_A (kp_L (kp_A (kp_I (kp_rfl C) (by decide)) (by decide)) (by decide)) (by decide)) (by decide)) (by decide)
      obtain ⟨D, h1, h2⟩ := ih k (c + 1) _ (p9_kp kk p) (by omega) (by omega)
      refine ⟨D, ?_, kp_tr kk h2⟩
      rw [sp_bst, if_pos rfl] at h1
      cases qo : sp_bst (fun _ => true) (sRc S) c with
      | none =>
        rw [qo, sp_le, if_neg (by decide)] at h1
        exact h1
      | some x =>
        obtain ⟨b, y⟩ := x
        obtain ⟨b1, -, b3⟩ := sp_bst_ok _ _ _ qo
        have hy := sRc_le h b
        rw [← b3] at hy
        rw [qo, sp_le] at h1
        rw [show sp_b1 (some (b, y)) = nI b from rfl, show sp_b2 (-nI 1) (some (b, y)) = nI y from rfl]
        simp (disch := omega) only [zl_m1a, nI_leI, if_false]
        by_cases q : y ≤ sRc S c
        · rw [decide_eq_true q, if_pos rfl] at h1
          rw [if_pos q, if_pos q]
          exact h1
        · rw [decide_eq_false q, if_neg (by decide)] at h1
          rw [if_neg q, if_neg q]
          exact h1
theorem q9_recruit (F : Nat) {C S : zz_M} (h : ok10 S) (r : r9 C S) (hF : 100 ≤ F) (u : Int32) : ∃ D, pX9_recruit F u C = some (a_recruit S u, D) ∧ r9 D S ∧ ke C D := by
  unfold pX9_recruit a_recruit
  rw [q9_isEither]
  simp only [zl_lit, zz_b1, zb0]
  cases q : zu u 2 with
  | none => exact ⟨C, rfl, r, ke_rfl C⟩
  | some j =>
    obtain ⟨h1, h2⟩ := zu_S q
    subst h2
    obtain ⟨E, u1, u2⟩ := q9_rcL F h1 h hF F 10 0 C r.1 (by omega) (by omega)
    exact ⟨E, u1, r9_kp r u2, ke_kp u2⟩
