/-! writing into the texts: the class -/
def p9x (k : Nat) (C S : zz_M) : Prop := (∀ k, k < 3 → zz_gI C k = nI (tL S k)) ∧ (∀ k j, k < 3 → j < tL S k → zz_gA C k j = tB S k j) ∧ (∀ i, i < 3 → i ≠ k → zz_gA C 3 i = sp_i (cF S i)) ∧ (zz_gA C 4 0 = nI (cSt S) ∧ zz_gA C 4 1 = nI (cGi S) ∧ zz_gA C 4 2 = nI (cSi S) ∧ zz_gA C 4 3 = nI (cFo S)) ∧ (k ≠ 0 → zz_gI C 3 = nI (cN S) ∧ zz_gI C 4 = nI (cW S) ∧ zz_gL C 0 0 = lN (sp_shm (sp_ward (tB S 0) (tL S 0)).2.2.2 (cN S)) ∧ ∀ j, j < cN S → zz_gA C 5 j = cK S j) ∧ (k ≠ 1 → zz_gI C 5 = nI (cM S) ∧ sp_B (cM S) (zz_gA C 6) (cB S)) ∧ (k ≠ 2 → zz_gI C 6 = nI (cT S) ∧ sp_T (cT S) (zz_gA C 7) (zz_gA C 8) (cWt S) (cNd S))
def kc (C D : zz_M) : Prop := (∀ j, 7 ≤ j → j ≠ 25 → zz_gI D j = zz_gI C j) ∧ (∀ j, 9 ≤ j → zz_gA D j = zz_gA C j) ∧ ∀ j, 1 ≤ j → zz_gL D j = zz_gL C j
theorem sp_wd_cg {b b' : Nat → Int32} : ∀ (k i r c n w : Nat) (kn : Nat → Nat), (∀ j, i ≤ j → j < i + k → b j = b' j) → sp_wd b k i r c n w kn = sp_wd b' k i r c n w kn
  | 0, _, _, _, _, _, _, _ => rfl
  | k + 1, i, r, c, n, w, kn, h => by
    have hh : ∀ r c n w kn, sp_wd b k (i + 1) r c n w kn = sp_wd b' k (i + 1) r c n w kn := fun r c n w kn => sp_wd_cg k (i + 1) r c n w kn (fun j h1 h2 => h j (by omega) (by omega))
    rw [sp_wd_s, sp_wd_s, h i (by omega) (by omega)]
    simp only [hh]
theorem sp_ward_cg {b b' : Nat → Int32} {L : Nat} (h : ∀ j, j < L → b j = b' j) : sp_ward b L = sp_ward b' L := by
  unfold sp_ward; rw [sp_wd_cg L 0 0 0 0 0 _ (fun j _ h2 => h j (by omega))]
theorem sp_bf_cg {b b' : Nat → Int32} : ∀ (k i : Nat), (∀ j, i ≤ j → j < i + k → b j = b' j) → sp_bf b k i = sp_bf b' k i
  | 0, _, _ => rfl
  | k + 1, i, h => by
    rw [sp_bf, sp_bf, h i (by omega) (by omega), sp_bf_cg k (i + 1) (fun j h1 h2 => h j (by omega) (by omega))]
theorem sp_bfl_cg {b b' : Nat → Int32} {L : Nat} (h : ∀ j, j < L → b j = b' j) : sp_bfl b L = sp_bfl b' L := by
  unfold sp_bfl; exact sp_bf_cg L 0 (fun j _ h2 => h j (by omega))
theorem sp_bm_cg {b b' : Nat → Int32} {L : Nat} (h : ∀ j, j < L → b j = b' j) : sp_bm b L = sp_bm b' L := by
  unfold sp_bm; rw [sp_bfl_cg h]
theorem sp_tl_cg {b b' : Nat → Int32} : ∀ (k i : Nat), (∀ j, i ≤ j → j < i + k → b j = b' j) → sp_tl b k i = sp_tl b' k i
  | 0, _, _ => rfl
  | k + 1, i, h => by
    rw [sp_tl, sp_tl, h i (by omega) (by omega), sp_tl_cg k (i + 1) (fun j h1 h2 => h j (by omega) (by omega))]
theorem sp_tfl_cg {b b' : Nat → Int32} {L : Nat} (h : ∀ j, j < L → b j = b' j) : sp_tfl b L = sp_tfl b' L := by
  unfold sp_tfl; rw [sp_tl_cg L 0 (fun j _ h2 => h j (by omega))]
theorem sp_tm_cg {b b' : Nat → Int32} {L : Nat} (h : ∀ j, j < L → b j = b' j) : sp_tm b L = sp_tm b' L := by
  unfold sp_tm; rw [sp_tfl_cg h]
theorem sp_bm_le (b : Nat → Int32) (L : Nat) : sp_bm b L ≤ L := by unfold sp_bm; split <;> omega
theorem q9_readAgain (F : Nat) {C S : zz_M} {k : Nat} (hk : k < 3) (h : ok10 S) (p : p9x k C S) (hF : 100 ≤ F) : ∃ D, pX9_readAgain F (nI k) C = some D ∧ p9 D S ∧ zz_gI D 25 = 1 ∧ kc C D := by
  obtain ⟨t1, t2, -⟩ := h
  have l0 : tL S 0 ≤ 41 := (t1 0 (by omega)).2
  have l1 : tL S 1 ≤ 24 := (t1 1 (by omega)).2
  have l2 : tL S 2 ≤ 31 := (t1 2 (by omega)).2
  obtain ⟨p1, p2, p3, p4, p5, p6, p7⟩ := p
  unfold pX9_readAgain
  simp (disch := omega) only [zl_lit, zz_lt, nI_eq]
  rcases (show k = 0 ∨ k = 1 ∨ k = 2 by omega) with rfl | rfl | rfl
  · rw [if_pos rfl, p1 0 (by omega)]
    obtain ⟨ks, e1, e2⟩ := q8_parse F 41 (tL S 0) (zz_gA C 0) (c0 := zz_gI C 3) (w0 := zz_gI C 4) (sh0 := zz_gL C 0 0) (ks0 := zz_gA C 5) l0 (by omega) (by omega)
    rw [sp_ward_cg (b' := tB S 0) (fun j hj => p2 0 j (by omega) hj)] at e1 e2
    rw [e1]
    simp only [zz_b5]
    refine ⟨_, rfl, ⟨fun i hi => ?_, fun i j hi hj => ?_, fun i hi => ?_, p4, ⟨rfl, rfl, rfl, e2⟩, p6 (by decide), p7 (by decide)⟩, rfl, ⟨fun j a b => ?_, fun j a => ?_, fun j a => ?_⟩⟩
    · rw [← p1 i hi, zg_II, if_neg (by omega), zg_IA, zg_IA, zg_IL, zg_II, if_neg (by omega), zg_II, if_neg (by omega)]
    · rw [← p2 i j hi hj, zg_AI, zg_AA, if_neg (by omega), zg_AA, if_neg (by omega), zg_AL, zg_AI, zg_AI]
    · rw [zg_AI, zg_AA, if_pos rfl]
      show upd (zz_gA C 3) 0 _ i = _
      by_cases q : i = 0
      · subst q; rw [pk_us]; rfl
      · rw [pk_un q]; exact p3 i hi q
    · rw [zg_II, if_neg b, zg_IA, zg_IA, zg_IL, zg_II, if_neg (by omega), zg_II, if_neg (by omega)]
    · rw [zg_AI, zg_AA, if_neg (by omega), zg_AA, if_neg (by omega), zg_AL, zg_AI, zg_AI]
    · rw [zg_LI, zg_LA, zg_LA, zg_LL, if_neg (by omega), zg_LI, zg_LI]
  · rw [if_neg (by decide), if_pos rfl, p1 1 (by omega)]
    obtain ⟨sa, e1, e2⟩ := q4_parse F 24 (tL S 1) (zz_gA C 1) (c0 := zz_gI C 5) (s0 := zz_gA C 6) l1 l1 (by omega) (by omega)
    have eb : ∀ j, j < tL S 1 → zz_gA C 1 j = tB S 1 j := fun j hj => p2 1 j (by omega) hj
    rw [sp_bm_cg eb] at e1 e2
    rw [sp_bfl_cg eb] at e1
    rw [e1]
    simp only [zz_b3]
    have hb : sp_B (cM S) sa (cB S) := ⟨e2.1, fun i hi => by
      have h1 := e2.2 i hi
      have h2 : sp_bs (zz_gA C 1) i = cB S i := by
        have := sp_bm_le (tB S 1) (tL S 1)
        have h3 : i < sp_bm (tB S 1) (tL S 1) := hi
        unfold cB sp_bs; rw [eb i (by omega)]
      rw [h2] at h1; exact h1⟩
    refine ⟨_, rfl, ⟨fun i hi => ?_, fun i j hi hj => ?_, fun i hi => ?_, p4, p5 (by decide), ⟨rfl, hb⟩, p7 (by decide)⟩, rfl, ⟨fun j a b => ?_, fun j a => ?_, fun j a => ?_⟩⟩
    · rw [← p1 i hi, zg_II, if_neg (by omega), zg_IA, zg_IA, zg_II, if_neg (by omega)]
    · rw [← p2 i j hi hj, zg_AI, zg_AA, if_neg (by omega), zg_AA, if_neg (by omega), zg_AI]
    · rw [zg_AI, zg_AA, if_pos rfl]
      show upd (zz_gA C 3) 1 _ i = _
      by_cases q : i = 1
      · subst q; rw [pk_us]; rfl
      · rw [pk_un q]; exact p3 i hi q
    · rw [zg_II, if_neg b, zg_IA, zg_IA, zg_II, if_neg (by omega)]
    · rw [zg_AI, zg_AA, if_neg (by omega), zg_AA, if_neg (by omega), zg_AI]
    · rfl
  · rw [if_neg (by decide), if_neg (by decide), if_pos rfl, p1 2 (by omega)]
    obtain ⟨wa, ne, e1, e2⟩ := q7_parse F 31 (tL S 2) (zz_gA C 2) (c0 := zz_gI C 6) (w0 := zz_gA C 7) (n0 := zz_gA C 8) l2 l2 (by omega) (by omega)
    have eb : ∀ j, j < tL S 2 → zz_gA C 2 j = tB S 2 j := fun j hj => p2 2 j (by omega) hj
    rw [sp_tm_cg eb] at e1 e2
    rw [sp_tfl_cg eb] at e1
    rw [e1]
    simp only [zz_b4]
    have hb : sp_T (cT S) wa ne (cWt S) (cNd S) := ⟨e2.1, fun i hi => by
      have h1 := e2.2 i hi
      have h3 : i < sp_tm (tB S 2) (tL S 2) := hi
      have h4 : 4 * i + 2 < tL S 2 := by
        unfold sp_tm at h3
        cases q : sp_tfl (tB S 2) (tL S 2) with
        | some x => rw [q] at h3; simp at h3
        | none => rw [q] at h3; simp at h3; omega
      have h5 : sp_wt (zz_gA C 2) i = cWt S i := by unfold cWt sp_wt; rw [eb _ (by omega), eb _ (by omega)]
      have h6 : sp_nd (zz_gA C 2) i = cNd S i := by unfold cNd sp_nd; rw [eb _ (by omega)]
      rw [h5, h6] at h1; exact h1⟩
    refine ⟨_, rfl, ⟨fun i hi => ?_, fun i j hi hj => ?_, fun i hi => ?_, p4, p5 (by decide), p6 (by decide), ⟨rfl, hb⟩⟩, rfl, ⟨fun j a b => ?_, fun j a => ?_, fun j a => ?_⟩⟩
    · rw [← p1 i hi, zg_II, if_neg (by omega), zg_IA, zg_IA, zg_IA, zg_II, if_neg (by omega)]
    · rw [← p2 i j hi hj, zg_AI, zg_AA, if_neg (by omega), zg_AA, if_neg (by omega), zg_AA, if_neg (by omega), zg_AI]
    · rw [zg_AI, zg_AA, if_pos rfl]
      show upd (zz_gA C 3) 2 _ i = _
      by_cases q : i = 2
      · subst q; rw [pk_us]; rfl
      · rw [pk_un q]; exact p3 i hi q
    · rw [zg_II, if_neg b, zg_IA, zg_IA, zg_IA, zg_II, if_neg (by omega)]
    · rw [zg_AI, zg_AA, if_neg (by omega), zg_AA, if_neg (by omega), zg_AA, if_neg (by omega), zg_AI]
    · rfl
