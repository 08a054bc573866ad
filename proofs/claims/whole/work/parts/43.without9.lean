/-- the same but for the other round and its night -/
def ko (C D : zz_M) : Prop := (∀ j, j ≠ 21 → zz_gI D j = zz_gI C j) ∧ (∀ j, j ≠ 18 → j ≠ 21 → zz_gA D j = zz_gA C j) ∧ (∀ j, j ≠ 4 → zz_gL D j = zz_gL C j)
theorem ko_rfl (C : zz_M) : ko C C := ⟨fun _ _ => rfl, fun _ _ _ => rfl, fun _ _ => rfl⟩
theorem ko_tr {C D E : zz_M} (h : ko C D) (g : ko D E) : ko C E := ⟨fun j a => (g.1 j a).trans (h.1 j a), fun j a b => (g.2.1 j a b).trans (h.2.1 j a b), fun j a => (g.2.2 j a).trans (h.2.2 j a)⟩
theorem p9_ko {C D S : zz_M} (h : ko C D) (p : p9 C S) : p9 D S := by
  obtain ⟨h1, h2, h3⟩ := h
  unfold p9 at p ⊢
  rw [h1 3 (by decide), h1 4 (by decide), h1 5 (by decide), h1 6 (by decide), h2 3 (by decide) (by decide), h2 4 (by decide) (by decide), h2 5 (by decide) (by decide), h2 6 (by decide) (by decide), h2 7 (by decide) (by decide), h2 8 (by decide) (by decide), h3 0 (by decide)]
  obtain ⟨p1, p2, p3⟩ := p
  exact ⟨fun k hk => by rw [h1 k (by omega)]; exact p1 k hk, fun k j hk hj => by rw [h2 k (by omega) (by omega)]; exact p2 k j hk hj, p3⟩
theorem n9_ko {C D S : zz_M} (h : ko C D) (n : n9 C S) : n9 D S := by
  obtain ⟨h1, h2, h3⟩ := h
  unfold n9 at n ⊢
  rw [h1 20 (by decide), h2 15 (by decide) (by decide), h2 16 (by decide) (by decide), h2 17 (by decide) (by decide), h3 1 (by decide), h3 2 (by decide)]
  exact n
theorem q9_lostWithout (F : Nat) {C S : zz_M} (h : ok10 S) (p : p9 C S) (n : n9 C S) (hF : 100 ≤ F) (u v : Int32) : ∃ D, pX9_lostWithout F u v C = some (nI (sLw S u v), D) ∧ ko C D := by
  obtain ⟨-, -, ⟨-, s1⟩, -, -, -⟩ := h
  obtain ⟨-, -, -, ⟨a0, -⟩, ⟨w1, -, -, w4⟩, ⟨b1, b2⟩, t1, t2⟩ := p
  obtain ⟨n1, n2, -, -⟩ := n
  unfold pX9_lostWithout
  obtain ⟨z, e1, e2⟩ := q4_takeAllBut F (c0 := zz_gI C 21) (s0 := zz_gA C 18) u v b2 (cB_le S) hF
  rw [b1, e1]
  simp only [zz_b2, zz_lt, zl_lit]
  obtain ⟨pl, vw, f1, f2⟩ := q2_walk F (pl0 := zz_gA C 21) (vw0 := zz_gL C 4) (cK_W S) e2 n2 s1 hF
  generalize hm : (sp_wo (cB S) (sp_sk u v) (cM S)).1 = m at e2 f1 f2 ⊢
  have ew : pX2_walk F (zz_gA (zz_sA (zz_sI C 21 (nI m)) 18 z) 4 (nI 0).toNatClampNeg) (zz_gA (zz_sA (zz_sI C 21 (nI m)) 18 z) 21) (zz_gL (zz_sA (zz_sI C 21 (nI m)) 18 z) 4) (zz_gI (zz_sA (zz_sI C 21 (nI m)) 18 z) 20) (zz_gA (zz_sA (zz_sI C 21 (nI m)) 18 z) 15) (zz_gL (zz_sA (zz_sI C 21 (nI m)) 18 z) 1) (zz_gA (zz_sA (zz_sI C 21 (nI m)) 18 z) 16) (zz_gI (zz_sA (zz_sI C 21 (nI m)) 18 z) 21) (zz_gA (zz_sA (zz_sI C 21 (nI m)) 18 z) 18) = some (pl, vw) := by
    rw [show zz_gA (zz_sA (zz_sI C 21 (nI m)) 18 z) 4 (nI 0).toNatClampNeg = nI (cSt S) from a0, show zz_gI (zz_sA (zz_sI C 21 (nI m)) 18 z) 20 = nI (cN S) from n1]
    exact f1
  rw [ew]
  simp only
  have hv : sp_V vw (sp_vm (cN S) (cW S) (cK S) (cSi S) (fun _ => decide (cFo S = 1)) (sp_pl (cN S) (cW S) (cK S) (cGi S) (cSt S) m (sp_wo (cB S) (sp_sk u v) (cM S)).2)) := fun t ht => (f2 t ht).2
  have et := q7_howManyTake F (w := zz_gI C 4) (sh := zz_gL C 0 0) (ks := zz_gA C 5) (pl := pl) (cN_le S) t2 hv hF
  have ek : ko C (zz_sL (zz_sA (zz_sA (zz_sI C 21 (nI m)) 18 z) 21 pl) 4 vw) := ⟨fun j a => by rw [zg_IL, zg_IA, zg_IA, zg_II, if_neg a], fun j a b => by rw [zg_AL, zg_AA, if_neg b, zg_AA, if_neg a, zg_AI], fun j a => by rw [zg_LL, if_neg a, zg_LA, zg_LA, zg_LI]⟩
  refine ⟨_, ?_, ek⟩
  have eh : pX7_howManyTake F (zz_gI (zz_sL (zz_sA (zz_sA (zz_sI C 21 (nI m)) 18 z) 21 pl) 4 vw) 6) (zz_gA (zz_sL (zz_sA (zz_sA (zz_sI C 21 (nI m)) 18 z) 21 pl) 4 vw) 7) (zz_gA (zz_sL (zz_sA (zz_sA (zz_sI C 21 (nI m)) 18 z) 21 pl) 4 vw) 8) (zz_gI (zz_sL (zz_sA (zz_sA (zz_sI C 21 (nI m)) 18 z) 21 pl) 4 vw) 3) (zz_gI (zz_sL (zz_sA (zz_sA (zz_sI C 21 (nI m)) 18 z) 21 pl) 4 vw) 4) (zz_gL (zz_sL (zz_sA (zz_sA (zz_sI C 21 (nI m)) 18 z) 21 pl) 4 vw) 0 0) (zz_gA (zz_sL (zz_sA (zz_sA (zz_sI C 21 (nI m)) 18 z) 21 pl) 4 vw) 5) (zz_gA (zz_sL (zz_sA (zz_sA (zz_sI C 21 (nI m)) 18 z) 21 pl) 4 vw) 21) (zz_gL (zz_sL (zz_sA (zz_sA (zz_sI C 21 (nI m)) 18 z) 21 pl) 4 vw) 4) = some (nI (sLw S u v)) := by
    rw [show zz_gI (zz_sL (zz_sA (zz_sA (zz_sI C 21 (nI m)) 18 z) 21 pl) 4 vw) 6 = nI (cT S) from t1, show zz_gI (zz_sL (zz_sA (zz_sA (zz_sI C 21 (nI m)) 18 z) 21 pl) 4 vw) 3 = nI (cN S) from w1]
    refine Eq.trans et ?_
    unfold sLw sLost sTk
    rw [hm]
    congr 2
    congr 1
    funext i
    rw [sp_takes_cg w4]
  rw [eh]
  rfl
