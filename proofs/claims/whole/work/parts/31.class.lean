/-! the class beside the reference: what it has read -/
def cSg (S : zz_M) : Nat := sp_sg (cSi S) (fun _ => decide (cFo S = 1)) 0
def p9 (C S : zz_M) : Prop := (∀ k, k < 3 → zz_gI C k = nI (tL S k)) ∧ (∀ k j, k < 3 → j < tL S k → zz_gA C k j = tB S k j) ∧ (∀ k, k < 3 → zz_gA C 3 k = sp_i (cF S k)) ∧ (zz_gA C 4 0 = nI (cSt S) ∧ zz_gA C 4 1 = nI (cGi S) ∧ zz_gA C 4 2 = nI (cSi S) ∧ zz_gA C 4 3 = nI (cFo S)) ∧ (zz_gI C 3 = nI (cN S) ∧ zz_gI C 4 = nI (cW S) ∧ zz_gL C 0 0 = lN (sp_shm (sp_ward (tB S 0) (tL S 0)).2.2.2 (cN S)) ∧ ∀ j, j < cN S → zz_gA C 5 j = cK S j) ∧ (zz_gI C 5 = nI (cM S) ∧ sp_B (cM S) (zz_gA C 6) (cB S)) ∧ (zz_gI C 6 = nI (cT S) ∧ sp_T (cT S) (zz_gA C 7) (zz_gA C 8) (cWt S) (cNd S))
/-- the ground and the night stand -/
def n9 (C S : zz_M) : Prop := zz_gI C 20 = nI (cN S) ∧ sp_G (cN S) (cW S) (cK S) (cGi S) (cSg S) (zz_gA C 15) (zz_gL C 1) (zz_gA C 16) (cN S) ∧ (∀ t, t < 96 → zz_gA C 17 t = sp_i (cP S t)) ∧ sp_V (zz_gL C 2) (cV S)
theorem sp_sg_c (si : Nat) (b : Bool) (t : Nat) : sp_sg si (fun _ => b) t = sp_sg si (fun _ => b) 0 := rfl
theorem cSg_le {S : zz_M} (h : ok10 S) : cSg S ≤ 9 := by
  obtain ⟨-, -, -, -, ⟨-, h⟩, -⟩ := h
  unfold cSg sp_sg
  split
  · split <;> omega
  · exact h
theorem sp_G_cg {n w gi s : Nat} {kd kd' nx hd : Nat → Int32} {vw : Nat → Int64} (h : sp_W n w kd) (e : ∀ j, j < n → kd j = kd' j) (g : sp_G n w kd gi s nx vw hd n) : sp_G n w kd' gi s nx vw hd n := by
  intro c hc
  obtain ⟨g1, g2, g3⟩ := g c hc
  refine ⟨by rw [g1, sp_for_cg (e c hc)], ?_, fun st hst => by rw [g3 st hst, sp_go_cg h e hc]⟩
  have := sp_see_cg (s := s) h e (some c) (fun c' q => by cases q; exact hc)
  rw [sp_see, sp_see] at this
  rw [g2, this]
theorem q9_presentSight (F : Nat) {C S : zz_M} (h : ok10 S) (p : p9 C S) : pX9_presentSight F C = some (nI (cSg S)) := by
  obtain ⟨-, -, -, -, ⟨-, s1⟩, -, s2⟩ := h
  obtain ⟨-, -, -, ⟨-, -, p1, p2⟩, -⟩ := p
  unfold pX9_presentSight pX9_foggySight
  simp only [zl_lit, zz_lt]
  rw [show (nI 3).toNatClampNeg = 3 from rfl, show (nI 2).toNatClampNeg = 2 from rfl, p1, p2]
  simp (disch := omega) only [nI_eq, nI_ltI, zz_b1]
  unfold cSg sp_sg
  by_cases q : cFo S = 1
  · rw [if_pos q]
    simp only [q, decide_true, if_true]
    by_cases q2 : 1 < cSi S
    · rw [if_pos q2, if_neg (by omega)]
    · rw [if_neg q2, if_pos (by omega)]
  · rw [if_neg q]
    simp only [q, decide_false]
    rfl
/-- the same but for the ground, the night and what follows from them -/
def sc (C D : zz_M) : Prop := (∀ j, j ≠ 20 → j ≠ 25 → j ≠ 26 → zz_gI D j = zz_gI C j) ∧ (∀ j, j ≠ 15 → j ≠ 16 → j ≠ 17 → zz_gA D j = zz_gA C j) ∧ (∀ j, j ≠ 1 → j ≠ 2 → zz_gL D j = zz_gL C j)
theorem p9_sc {C D S : zz_M} (h : sc C D) (p : p9 C S) : p9 D S := by
  obtain ⟨h1, h2, h3⟩ := h
  unfold p9 at p ⊢
  rw [h1 3 (by decide) (by decide) (by decide), h1 4 (by decide) (by decide) (by decide), h1 5 (by decide) (by decide) (by decide), h1 6 (by decide) (by decide) (by decide), h2 3 (by decide) (by decide) (by decide), h2 4 (by decide) (by decide) (by decide), h2 5 (by decide) (by decide) (by decide), h2 6 (by decide) (by decide) (by decide), h2 7 (by decide) (by decide) (by decide), h2 8 (by decide) (by decide) (by decide), h3 0 (by decide) (by decide)]
  obtain ⟨p1, p2, p3⟩ := p
  exact ⟨fun k hk => by rw [h1 k (by omega) (by omega) (by omega)]; exact p1 k hk, fun k j hk hj => by rw [h2 k (by omega) (by omega) (by omega)]; exact p2 k j hk hj, p3⟩
theorem q9_settle (F : Nat) {C S : zz_M} (h : ok10 S) (p : p9 C S) (n : zz_gI C 25 = 0 → n9 C S) (hF : 100 ≤ F) : ∃ D, pX9_settle F C = some D ∧ sc C D ∧ n9 D S ∧ zz_gI D 25 = 0 ∧ (zz_gI C 25 = 0 → D = C) ∧ (¬ zz_gI C 25 = 0 → zz_gI D 26 = -nI 1) := by
  unfold pX9_settle
  simp only [zz_lt]
  by_cases q : zz_gI C 25 = 0
  · rw [if_pos q]
    exact ⟨C, rfl, ⟨fun _ _ _ _ => rfl, fun _ _ _ _ => rfl, fun _ _ _ => rfl⟩, n q, q, fun _ => rfl, fun z => absurd q z⟩
  · rw [if_neg q, q9_presentSight F h p]
    have hs := cSg_le h
    have p' := p
    obtain ⟨-, -, -, ⟨p1, p2, p3, p4⟩, ⟨w1, w2, w3, w4⟩, ⟨b1, b2⟩, -⟩ := p'
    have h' := h
    obtain ⟨-, -, ⟨-, s1⟩, ⟨-, s2⟩, -, -⟩ := h'
    simp only [zz_b1, zl_lit]
    rw [show (nI 0).toNatClampNeg = 0 from rfl, show (nI 1).toNatClampNeg = 1 from rfl, p2, w1, w2]
    have hW : sp_W (cN S) (cW S) (zz_gA C 5) := sp_W_cg (cK_W S) (fun j hj => (w4 j hj).symm)
    obtain ⟨nx, vw, hd, e1, e2⟩ := q0_lay F (c0 := zz_gI C 20) (nx0 := zz_gA C 15) (vw0 := zz_gL C 1) (hd0 := zz_gA C 16) (sh := zz_gL C 0 0) hW s2 hs hF
    rw [e1]
    simp only [zz_b4]
    obtain ⟨pl, vn, f1, f2⟩ := q2_walk F (pl0 := zz_gA C 17) (vw0 := zz_gL C 2) (sa := zz_gA C 6) hW b2 e2 s1 hF
    have g1 : zz_gA (zz_sA (zz_sL (zz_sA (zz_sI C 20 (nI (cN S))) 15 nx) 1 vw) 16 hd) 4 0 = nI (cSt S) := p1
    have g2 : zz_gI (zz_sA (zz_sL (zz_sA (zz_sI C 20 (nI (cN S))) 15 nx) 1 vw) 16 hd) 5 = nI (cM S) := b1
    rw [g1, g2]
    rw [show zz_gA (zz_sA (zz_sL (zz_sA (zz_sI C 20 (nI (cN S))) 15 nx) 1 vw) 16 hd) 17 = zz_gA C 17 from rfl, show zz_gL (zz_sA (zz_sL (zz_sA (zz_sI C 20 (nI (cN S))) 15 nx) 1 vw) 16 hd) 2 = zz_gL C 2 from rfl, show zz_gI (zz_sA (zz_sL (zz_sA (zz_sI C 20 (nI (cN S))) 15 nx) 1 vw) 16 hd) 20 = nI (cN S) from rfl, show zz_gA (zz_sA (zz_sL (zz_sA (zz_sI C 20 (nI (cN S))) 15 nx) 1 vw) 16 hd) 15 = nx from rfl, show zz_gL (zz_sA (zz_sL (zz_sA (zz_sI C 20 (nI (cN S))) 15 nx) 1 vw) 16 hd) 1 = vw from rfl, show zz_gA (zz_sA (zz_sL (zz_sA (zz_sI C 20 (nI (cN S))) 15 nx) 1 vw) 16 hd) 16 = hd from rfl, show zz_gA (zz_sA (zz_sL (zz_sA (zz_sI C 20 (nI (cN S))) 15 nx) 1 vw) 16 hd) 6 = zz_gA C 6 from rfl, f1]
    simp only [zz_b2]
    refine ⟨_, rfl, ⟨fun j a b c => ?_, fun j a b c => ?_, fun j a b => ?_⟩, ⟨rfl, ?_, ?_, ?_⟩, rfl, fun z => absurd z q, fun _ => rfl⟩
    · rw [zg_II, if_neg b, zg_II, if_neg c, zg_IL, zg_IA, zg_IA, zg_IL, zg_IA, zg_II, if_neg a]
    · rw [zg_AI, zg_AI, zg_AL, zg_AA, if_neg c, zg_AA, if_neg b, zg_AL, zg_AA, if_neg a, zg_AI]
    · rw [zg_LI, zg_LI, zg_LL, if_neg b, zg_LA, zg_LA, zg_LL, if_neg a, zg_LA, zg_LI]
    · exact sp_G_cg hW w4 e2
    · intro t ht
      show pl t = _
      rw [(f2 t ht).1, sp_pl_cg hW w4]; rfl
    · intro t ht
      show vn t = _
      rw [(f2 t ht).2, sp_see_cg hW w4 _ (fun c z => (sp_pl_ok hW t c z).1), sp_pl_cg hW w4]; rfl
