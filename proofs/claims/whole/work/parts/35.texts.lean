/-! both sides write: what is written stays alike -/
def tx (k : Nat) (C D : zz_M) : Prop := (∀ j, j ≠ k → zz_gI D j = zz_gI C j) ∧ (∀ j, j ≠ k → zz_gA D j = zz_gA C j) ∧ ∀ j, zz_gL D j = zz_gL C j
def ty (k : Nat) (S T : zz_M) : Prop := (∀ i, i < 3 → i ≠ k → tL T i = tL S i ∧ tB T i = tB S i) ∧ cSt T = cSt S ∧ cGi T = cGi S ∧ cSi T = cSi S ∧ cFo T = cFo S
theorem cF0 (S : zz_M) : cF S 0 = (sp_ward (tB S 0) (tL S 0)).1 := by unfold cF; rw [if_pos rfl]
theorem cF1 (S : zz_M) : cF S 1 = sp_bfl (tB S 1) (tL S 1) := by unfold cF; rw [if_neg (by decide), if_pos rfl]
theorem cF2 (S : zz_M) : cF S 2 = sp_tfl (tB S 2) (tL S 2) := by unfold cF; rw [if_neg (by decide), if_neg (by decide)]
theorem p9_px {k : Nat} {C D S T : zz_M} (hk : k < 3) (hx : tx k C D) (hy : ty k S T) (hL : zz_gI D k = nI (tL T k)) (hB : ∀ j, j < tL T k → zz_gA D k j = tB T k j) (p : p9 C S) : p9x k D T := by
  obtain ⟨x1, x2, x3⟩ := hx
  obtain ⟨y1, y2, y3, y4, y5⟩ := hy
  obtain ⟨p1, p2, p3, p4, p5, p6, p7⟩ := p
  refine ⟨fun i hi => ?_, fun i j hi hj => ?_, fun i hi hik => ?_, ?_, fun z => ?_, fun z => ?_, fun z => ?_⟩
  · by_cases q : i = k
    · subst q; exact hL
    · rw [x1 i q, (y1 i hi q).1]; exact p1 i hi
  · by_cases q : i = k
    · subst q; exact hB j hj
    · rw [x2 i q, (y1 i hi q).2]
      rw [(y1 i hi q).1] at hj; exact p2 i j hi hj
  · rw [x2 3 (by omega), p3 i hi]
    rcases (show i = 0 ∨ i = 1 ∨ i = 2 by omega) with rfl | rfl | rfl
    · rw [cF0, cF0, (y1 0 hi hik).1, (y1 0 hi hik).2]
    · rw [cF1, cF1, (y1 1 hi hik).1, (y1 1 hi hik).2]
    · rw [cF2, cF2, (y1 2 hi hik).1, (y1 2 hi hik).2]
  · rw [x2 4 (by omega), y2, y3, y4, y5]; exact p4
  · have h0 := y1 0 (by omega) (fun e => z e.symm)
    unfold cN cW cK
    rw [x1 3 (by omega), x1 4 (by omega), x3 0, x2 5 (by omega), h0.1, h0.2]; exact p5
  · have h0 := y1 1 (by omega) (fun e => z e.symm)
    unfold cM cB
    rw [x1 5 (by omega), x2 6 (by omega), h0.1, h0.2]; exact p6
  · have h0 := y1 2 (by omega) (fun e => z e.symm)
    unfold cT cWt cNd
    rw [x1 6 (by omega), x2 7 (by omega), x2 8 (by omega), h0.1, h0.2]; exact p7
theorem tL_ln {S : zz_M} {k L : Nat} (hL : L < 2 ^ 31) (i : Nat) : tL (lnS S k L) i = if i = k then L else tL S i := by
  unfold tL lnS
  rw [zg_AA, if_pos rfl]
  by_cases q : i = k
  · subst q; rw [if_pos rfl, pk_us, nI_clamp hL]
  · rw [if_neg q, pk_un q]
theorem tB_ln {S : zz_M} {k L : Nat} : tB (lnS S k L) = tB S := tB_sA (by decide)
theorem tL_ty {S : zz_M} {k : Nat} {v : Int32} (hL : tL S k + 1 < 2 ^ 31) (i : Nat) : tL (tyS S k v) i = if i = k then tL S k + 1 else tL S i := by
  unfold tyS
  show Int32.toNatClampNeg (zz_gA (zz_sA _ 0 _) 0 i) = _
  rw [zg_AA, if_pos rfl]
  by_cases q : i = k
  · subst q; rw [if_pos rfl, pk_us, nI_clamp hL]
  · rw [if_neg q, pk_un q]; rfl
theorem tB_ty {S : zz_M} {k i : Nat} {v : Int32} (hq : i ≠ k) (hL : tL S k < 41) : tB (tyS S k v) i = tB S i := by
  unfold tyS
  rw [tB_sA (by decide)]
  funext j
  unfold tB
  rw [zg_AA, if_pos rfl]
  by_cases q : j < 41
  · rw [if_pos q, if_pos q, pk_un (by omega)]
  · rw [if_neg q, if_neg q]
theorem tB_tyk {S : zz_M} {k j : Nat} {v : Int32} (hL : tL S k < 41) : tB (tyS S k v) k j = if j = tL S k then v else tB S k j := by
  unfold tyS
  rw [tB_sA (by decide)]
  unfold tB
  rw [zg_AA, if_pos rfl]
  by_cases q : j = tL S k
  · subst q; rw [if_pos hL, if_pos rfl, pk_us]
  · rw [if_neg q, pk_un (by omega)]
theorem ok_ln {S : zz_M} {k L : Nat} (h : ok10 S) (hk : k < 3) (hL : L ≤ tL S k) : ok10 (lnS S k L) := by
  obtain ⟨t1, t2, t3⟩ := h
  have hc := cLim_le k
  have hl := (t1 k hk).2
  have e := tL_ln (S := S) (k := k) (L := L) (by omega)
  refine ⟨fun i hi => ?_, fun i j hi hj => ?_, t3⟩
  · rw [e i]
    by_cases q : i = k
    · subst q; rw [if_pos rfl]; unfold lnS; rw [zg_AA, if_pos rfl, pk_us]; exact ⟨rfl, by omega⟩
    · rw [if_neg q]; unfold lnS; rw [zg_AA, if_pos rfl, pk_un q]; exact t1 i hi
  · rw [tB_ln]
    rw [e i] at hj
    by_cases q : i = k
    · subst q; rw [if_pos rfl] at hj; exact t2 i j hi (by omega)
    · rw [if_neg q] at hj; exact t2 i j hi hj
theorem ok_ty {S : zz_M} {k : Nat} {v : Int32} (h : ok10 S) (hk : k < 3) (hL : tL S k < cLim k) (hv : 0 ≤ v.toInt ∧ v.toInt ≤ 255) : ok10 (tyS S k v) := by
  obtain ⟨t1, t2, t3⟩ := h
  have hc := cLim_le k
  have e := tL_ty (S := S) (k := k) (v := v) (by omega)
  refine ⟨fun i hi => ?_, fun i j hi hj => ?_, t3⟩
  · rw [e i]
    by_cases q : i = k
    · subst q; rw [if_pos rfl]; unfold tyS; rw [zg_AA, if_pos rfl, pk_us]; exact ⟨rfl, by omega⟩
    · rw [if_neg q]; unfold tyS; rw [zg_AA, if_pos rfl, pk_un q]; exact t1 i hi
  · rw [e i] at hj
    by_cases q : i = k
    · subst q; rw [if_pos rfl] at hj
      rw [tB_tyk (by omega)]
      split
      · exact hv
      · exact t2 i j hi (by omega)
    · rw [if_neg q] at hj; rw [tB_ty q (by omega)]; exact t2 i j hi hj
theorem ty_ln {S : zz_M} {k L : Nat} (hL : L < 2 ^ 31) : ty k S (lnS S k L) := ⟨fun i _ q => ⟨by rw [tL_ln hL, if_neg q], by rw [tB_ln]⟩, rfl, rfl, rfl, rfl⟩
theorem ty_ty {S : zz_M} {k : Nat} {v : Int32} (hL : tL S k < 41) : ty k S (tyS S k v) := ⟨fun i _ q => ⟨by rw [tL_ty (by omega), if_neg q], tB_ty q hL⟩, rfl, rfl, rfl, rfl⟩
