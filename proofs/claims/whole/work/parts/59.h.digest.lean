/-! the digest -/
theorem b2_assoc {α β γ : Type} (x : Option (α × zz_M)) (f : α → zz_M → Option (β × zz_M)) (g : β → zz_M → Option (γ × zz_M)) : zz_b2 (zz_b2 x f) g = zz_b2 x (fun a b => zz_b2 (f a b) g) := by
  cases x with
  | none => rfl
  | some z => rfl
theorem b2_b1 {α β γ : Type} (x : Option α) (f : α → Option (β × zz_M)) (g : β → zz_M → Option (γ × zz_M)) : zz_b2 (zz_b1 x f) g = zz_b1 x (fun a => zz_b2 (f a) g) := by
  cases x with
  | none => rfl
  | some z => rfl
theorem b2_s {β γ : Type} (v : β) (D : zz_M) (g : β → zz_M → Option (γ × zz_M)) : zz_b2 (some (v, D)) g = g v D := rfl
theorem b1_s {β γ : Type} (v : β) (g : β → Option γ) : zz_b1 (some v) g = g v := rfl
section DG
variable (F : Nat) {C S : zz_M}
theorem pr_seenOf {c j : Nat} (hc : c < cN S) (hj : j < 2) (R : R9 C S) (h : ok10 S) (hF : 2000 ≤ F) : Pr (fun T => rd10 T ∧ cN T = cN S) (pX9_seen F (nI c) (nI j) C) (pX10_seenOf F (nI c) (nI j) S) := by
  have hn := cN_le S
  obtain ⟨D, e1, e2⟩ := q9_seen F h R.1.1 (r9_n R.1) (by omega) (nI c) (nI j)
  obtain ⟨T, f1, f2, f3⟩ := q10_seenOf F (c := c) h (by omega) hj (by omega)
  obtain ⟨g1, g2⟩ := r9_qd R.1 e2
  have e : a_seen S (nI c) (nI j) = if j = 0 then nI (fa_cnt (fun t => (cV S t).testBit c) 96) else nI (sp_lng (fun t => (cV S t).testBit c) 96) := by
    unfold a_seen; rw [zu_nI hc (by omega), zo_S, zu_nI hj (by omega), zo_S]
  rw [e] at e1
  exact Pr_mk R h e1 g1 g2 f1 (sa_sm f2) ⟨f3, sm_N f2⟩
theorem pr_takesOf {k : Nat} (hk : k < cT S) (R : R9 C S) (h : ok10 S) (hF : 2000 ≤ F) : Pr (fun T => cT T = cT S) (pX9_takes F (nI k) C) (pX10_takesOf F (nI k) S) := by
  have ht := cT_le h
  obtain ⟨D, e1, e2⟩ := q9_takes F h R.1.1 (r9_n R.1) (by omega) (nI k)
  obtain ⟨T, f1, f2⟩ := q10_takesOf F h hk (by omega)
  obtain ⟨g1, g2⟩ := r9_qd R.1 e2
  have e : a_takes S (nI k) = sp_i (cTk S k) := by unfold a_takes; rw [zu_nI hk (by omega), zo_S]
  rw [e] at e1
  exact Pr_mk R h e1 g1 g2 f1 (sa_sm f2) (sm_T f2)
theorem pr_meantN {k : Nat} (hk : k < cT S) (R : R9 C S) (h : ok10 S) (hF : 2000 ≤ F) : Pr (fun T => cT T = cT S) (pX9_meant F (nI k) (-nI 1) C) (pX10_meantOf F (nI k) (-nI 1) S) := by
  have ht := cT_le h
  obtain ⟨D, e1, g1, g2⟩ := q9_meant F h R.1 R.2.1 (by omega) (nI k) (-nI 1)
  obtain ⟨T, f1, f2⟩ := q10_meantOf F (v := none) h R.2.1.1 hk (fun j z => by cases z) (by omega)
  have e : a_meant S (nI k) (-nI 1) = sMa S k none := by unfold a_meant; rw [zu_nI hk (by omega), zo_S, if_pos rfl]
  rw [e] at e1
  exact Pr_mk R h e1 g1 g2 f1 (sa_sm f2) (sm_T f2)
theorem pr_meant0 {k : Nat} (hk : k < cT S) (R : R9 C S) (h : ok10 S) (hF : 2000 ≤ F) : Pr (fun T => cT T = cT S) (pX9_meant F (nI k) (nI 0) C) (pX10_meantOf F (nI k) (nI 0) S) := by
  have ht := cT_le h
  obtain ⟨D, e1, g1, g2⟩ := q9_meant F h R.1 R.2.1 (by omega) (nI k) (nI 0)
  obtain ⟨T, f1, f2⟩ := q10_meantOf F (v := some 0) h R.2.1.1 hk (fun j z => by cases z; omega) (by omega)
  have e : a_meant S (nI k) (nI 0) = sMa S k (some 0) := by unfold a_meant; rw [zu_nI hk (by omega), zo_S, if_neg (by decide), zu_nI (by omega) (by omega), zo_S]
  rw [e] at e1
  exact Pr_mk R h e1 g1 g2 f1 (sa_sm f2) (sm_T f2)
theorem pr_foggedOf {k j : Nat} (hk : k < cT S) (hj : j < 2) (R : R9 C S) (h : ok10 S) (hF : 2000 ≤ F) : Pr (fun T => rd10 T ∧ cT T = cT S) (pX9_fogged F (nI 5) (nI 5) (nI k) (nI j) C) (pX10_foggedOf F (nI 5) (nI 5) (nI k) (nI j) S) := by
  have ht := cT_le h
  obtain ⟨D, e1, g1, g2⟩ := q9_fogged F h R.1 (by omega) (nI 5) (nI 5) (nI k) (nI j)
  obtain ⟨T, f1, f2, f3⟩ := q10_foggedOf F (c := 5) (l := 5) h (by omega) (by omega) hk hj hF
  have e : a_fogged S (nI 5) (nI 5) (nI k) (nI j) = sFa S 5 6 k j := by
    unfold a_fogged; rw [zu_nI (k := 5) (N := 17) (by omega) (by omega), zo_S, zu_nI (k := 5) (N := 10) (by omega) (by omega), zo_S, zu_nI hk (by omega), zo_S, zu_nI hj (by omega), zo_S]
  rw [e] at e1
  exact Pr_mk R h e1 g1 g2 f1 (sa_sm f2) ⟨f3, sm_T f2⟩
theorem pr_atOf {t : Nat} (ht : t < 96) (R : R9 C S) (h : ok10 S) (hF : 2000 ≤ F) : Pr Tt (pX9_at F (nI t) C) (pX10_atOf F (nI t) S) := by
  obtain ⟨D, e1, e2⟩ := q9_at F h R.1.1 (r9_n R.1) (by omega) (nI t)
  obtain ⟨T, f1, f2⟩ := q10_atOf F h (by omega) (show t ≤ 96 by omega)
  obtain ⟨g1, g2⟩ := r9_qd R.1 e2
  have e : a_at S (nI t) = sp_i (cP S t) := by unfold a_at; rw [zu_nI ht (by omega), zo_S]
  rw [e] at e1
  exact Pr_mk R h e1 g1 g2 f1 (sa_sm f2) trivial
theorem pr_seesOf {t j : Nat} (ht : t < 96) (hj : j < 2) (R : R9 C S) (h : ok10 S) (hF : 2000 ≤ F) : Pr Tt (pX9_sees F (nI t) (nI j) C) (pX10_seesOf F (nI t) (nI j) S) := by
  obtain ⟨D, e1, e2⟩ := q9_sees F h R.1.1 (r9_n R.1) (by omega) (nI t) (nI j)
  obtain ⟨T, f1, f2⟩ := q10_seesOf F h ht hj (by omega)
  obtain ⟨g1, g2⟩ := r9_qd R.1 e2
  have e : a_sees S (nI t) (nI j) = if j = 0 then nI (cV S t % 2 ^ 18) else nI (cV S t / 2 ^ 18) := by unfold a_sees; rw [zu_nI ht (by omega), zo_S, zu_nI hj (by omega), zo_S]
  rw [e] at e1
  exact Pr_mk R h e1 g1 g2 f1 (sa_sm f2) trivial
theorem pr_safeOf {j : Nat} (hj : j < 2) (R : R9 C S) (h : ok10 S) (hF : 2000 ≤ F) : Pr Tt (pX9_safe F (nI j) C) (pX10_safeOf F (nI j) S) := by
  obtain ⟨D, e1, e2⟩ := q9_safe F h R.1.1 (r9_n R.1) (by omega) (nI j)
  obtain ⟨T, f1, f2⟩ := q10_safeOf F h hj (by omega)
  obtain ⟨g1, g2⟩ := r9_qd R.1 e2
  have e : a_safe S (nI j) = if j = 0 then nI (cSf S % 2 ^ 18) else nI (cSf S / 2 ^ 18) := by unfold a_safe; rw [zu_nI hj (by omega), zo_S]
  rw [e] at e1
  exact Pr_mk R h e1 g1 g2 f1 (sa_sm f2) trivial
theorem pr_lostTold (R : R9 C S) (h : ok10 S) (hF : 2000 ≤ F) : Pr Tt (pX9_lost F C) (pX10_lostTold F S) := by
  obtain ⟨D, e1, g1, g2⟩ := q9_lostR F R h hF
  obtain ⟨T, f1, f2, -⟩ := q10_lostTold F h (by omega)
  exact Pr_mk R h e1 g1 g2 f1 (sa_sm f2) trivial
theorem pr_firstNow (R : R9 C S) (h : ok10 S) (hF : 2000 ≤ F) : Pr Tt (pX9_first F C) (pX10_firstNow F S) := by
  obtain ⟨D, e1, e2⟩ := q9_first F h R.1.1 (r9_n R.1) (by omega)
  obtain ⟨T, f1, f2⟩ := q10_firstNow F h (by omega)
  obtain ⟨g1, g2⟩ := r9_qd R.1 e2
  exact Pr_mk R h e1 g1 g2 f1 (sa_sm f2) trivial
theorem pr_spareNow (R : R9 C S) (h : ok10 S) (hF : 2000 ≤ F) : Pr Tt (pX9_spare F C) (pX10_spareNow F S) := by
  obtain ⟨D, e1, g1, g2⟩ := q9_spareR F R h hF
  obtain ⟨T, f1, f2⟩ := q10_spareNow F h (by omega)
  exact Pr_mk R h e1 g1 g2 f1 (sa_sm f2) trivial
theorem pr_beginOf {j : Nat} (hj : j < 2) (R : R9 C S) (h : ok10 S) (hF : 2000 ≤ F) : Pr Tt (pX9_begin F (nI j) C) (pX10_beginOf F (nI j) S) := by
  obtain ⟨D, e1, g1, g2⟩ := q9_begin F h R.1 (by omega) (nI j)
  obtain ⟨T, f1, f2⟩ := q10_beginOf F hj h (by omega)
  have e : a_begin S (nI j) = sp_bj j (sBgO S) := by unfold a_begin; rw [zu_nI hj (by omega), zo_S]
  rw [e] at e1
  exact Pr_mk R h e1 g1 g2 f1 (sa_sm f2) trivial
theorem pr_recruitOf {j : Nat} (hj : j < 2) (R : R9 C S) (h : ok10 S) (hF : 2000 ≤ F) : Pr Tt (pX9_recruit F (nI j) C) (pX10_recruitOf F (nI j) S) := by
  obtain ⟨D, e1, g1, g2⟩ := q9_recruit F h R.1 (by omega) (nI j)
  obtain ⟨T, f1, f2⟩ := q10_recruitOf F hj h (by omega)
  have e : a_recruit S (nI j) = sp_bj j (sRcO S) := by unfold a_recruit; rw [zu_nI hj (by omega), zo_S]
  rw [e] at e1
  exact Pr_mk R h e1 g1 g2 f1 (sa_sm f2) trivial
theorem pr_omittedNow (R : R9 C S) (h : ok10 S) (hF : 2000 ≤ F) : Pr Tt (pX9_omitted F C) (pX10_omittedNow F S) := by
  obtain ⟨D, e1, g1, g2⟩ := q9_omitted F h R.1 R.2.1 (by omega)
  obtain ⟨T, f1, f2⟩ := q10_omittedNow F h R.2.1.1 (by omega)
  exact Pr_mk R h e1 g1 g2 f1 (sa_sm f2) trivial
theorem pr_askNow (R : R9 C S) (h : ok10 S) (hF : 2000 ≤ F) : Pr Tt (pX9_ask F C) (pX10_askNow F S) := by
  obtain ⟨D, e1, g1, g2⟩ := q9_ask F h R.1 R.2.1 (by omega)
  obtain ⟨T, f1, f2⟩ := q10_askNow F h R.2.1.1 (by omega)
  exact Pr_mk R h e1 g1 g2 f1 f2 trivial
theorem pr_nightsOf {j : Nat} (hj : j < 2) (R : R9 C S) (h : ok10 S) (hF : 2000 ≤ F) : Pr Tt (pX9_nights F (nI 7) (nI 12) (nI j) C) (pX10_nightsOf F (nI 7) (nI 12) (nI j) S) := by
  obtain ⟨D, e1, g1, g2⟩ := q9_nights F h R.1 (by omega) (nI 7) (nI 12) (nI j)
  obtain ⟨T, f1, f2⟩ := q10_nightsOf F (s := nI 7) (n := 12) h (by omega) hj (by omega)
  have e : a_nights S (nI 7) (nI 12) (nI j) = sNa S (nI 7) 12 j := by unfold a_nights; rw [zu_nI (k := 12) (N := 25) (by omega) (by omega), zo_S, if_neg (by decide), zu_nI hj (by omega), zo_S]
  rw [e] at e1
  exact Pr_mk R h e1 g1 g2 f1 (sa_sm f2) trivial
theorem dg_mom {β : Type} {Q : zz_M → Prop} {t : Nat} {x : Int64} {K K' : Int64 → zz_M → Option (β × zz_M)} (ht : t < 96) (R : R9 C S) (h : ok10 S) (hF : 2000 ≤ F) (k : ∀ v D T, R9 D T → ok10 T → Pr Q (K v D) (K' v T)) :
    Pr Q (zz_b2 (pX9_at F (nI t) C) (fun r7 S8 => zz_b2 (pX9_sees F (nI t) (nI 0) S8) (fun r11 S12 => zz_b2 (pX9_sees F (nI t) (nI 1) S12) (fun r15 S16 => K (lN 31 * (lN 31 * (lN 31 * x + r7.toInt64) + r11.toInt64) + r15.toInt64) S16)))) (zz_b2 (pX10_numberDigest F x (nI t) S) K') := by
  unfold pX10_numberDigest
  simp only [zl_lit, zl_litL, zz_lt]
  rw [b2_assoc]
  refine Pr_b2 (pr_atOf F ht R h hF) (fun v D T R h _ => ?_)
  rw [b2_assoc]
  refine Pr_b2 (pr_seesOf F ht (by omega) R h hF) (fun v D T R h _ => ?_)
  rw [b2_assoc]
  refine Pr_b2 (pr_seesOf F ht (by omega) R h hF) (fun v D T R h _ => ?_)
  exact k _ D T R h
/-- the last pieces -/
theorem dg_tail (x : Int64) (R : R9 C S) (h : ok10 S) (hF : 2000 ≤ F) : Pr Tt (zz_b2 (pX9_digestMoments F x C) (fun r17 S18 => zz_b2 (pX9_safe F (nI 0) S18) (fun r20 S21 => zz_b2 (pX9_safe F (nI 1) S21) (fun r24 S25 => zz_b2 (pX9_lost F S25) (fun r28 S29 => zz_b2 (pX9_first F S29) (fun r32 S33 => zz_b2 (pX9_spare F S33) (fun r36 S37 => zz_b2 (pX9_trim F (-nI 1) S37) (fun r40 S41 => zz_b2 (pX9_trim F (nI 0) S41) (fun r44 S45 => zz_b2 (pX9_begin F (nI 0) S45) (fun r48 S49 => zz_b2 (pX9_begin F (nI 1) S49) (fun r52 S53 => zz_b2 (pX9_recruit F (nI 0) S53) (fun r56 S57 => zz_b2 (pX9_recruit F (nI 1) S57) (fun r60 S61 => zz_b2 (pX9_omitted F S61) (fun r64 S65 => zz_b2 (pX9_ask F S65) (fun r68 S69 => zz_b2 (pX9_nights F (nI 7) (nI 12) (nI 0) S69) (fun r72 S73 => zz_b2 (pX9_nights F (nI 7) (nI 12) (nI 1) S73) (fun r76 S77 => some (lN 31 * (lN 31 * (lN 31 * (lN 31 * (lN 31 * (lN 31 * (lN 31 * (lN 31 * (lN 31 * (lN 31 * (lN 31 * (lN 31 * (lN 31 * (lN 31 * (lN 31 * r17 + r20.toInt64) + r24.toInt64) + r28.toInt64) + r32.toInt64) + r36.toInt64) + r40.toInt64) + r44.toInt64) + r48.toInt64) + r52.toInt64) + r56.toInt64) + r60.toInt64) + r64.toInt64) + r68.toInt64) + r72.toInt64) + r76.toInt64, S77))))))))))))))))))
    (zz_b2 (pX10_numberDigest F x (nI 0) S) (fun r20 S21 => zz_b2 (pX10_numberDigest F r20 (nI 7) S21) (fun r23 S24 => zz_b2 (pX10_numberDigest F r23 (nI 50) S24) (fun r26 S27 => zz_b2 (pX10_numberDigest F r26 (nI 95) S27) (fun r29 S30 => zz_b2 (pX10_safeOf F (nI 0) S30) (fun r32 S33 => zz_b2 (pX10_safeOf F (nI 1) S33) (fun r36 S37 => zz_b2 (pX10_lostTold F S37) (fun r40 S41 => zz_b2 (pX10_firstNow F S41) (fun r44 S45 => zz_b2 (pX10_spareNow F S45) (fun r48 S49 => zz_b2 (pX10_trimBy F S49) (fun r52 S53 => zz_b1 (pX10_ofRow F r52 (nI 0) S53) (fun r56 => zz_b2 (pX10_beginOf F (nI 0) S53) (fun r59 S60 => zz_b2 (pX10_beginOf F (nI 1) S60) (fun r63 S64 => zz_b2 (pX10_recruitOf F (nI 0) S64) (fun r67 S68 => zz_b2 (pX10_recruitOf F (nI 1) S68) (fun r71 S72 => zz_b2 (pX10_omittedNow F S72) (fun r75 S76 => zz_b2 (pX10_askNow F S76) (fun r79 S80 => zz_b2 (pX10_nightsOf F (nI 7) (nI 12) (nI 0) S80) (fun r83 S84 => zz_b2 (pX10_nightsOf F (nI 7) (nI 12) (nI 1) S84) (fun r87 S88 => some (lN 31 * (lN 31 * (lN 31 * (lN 31 * (lN 31 * (lN 31 * (lN 31 * (lN 31 * (lN 31 * (lN 31 * (lN 31 * (lN 31 * (lN 31 * (lN 31 * (lN 31 * r29 + r32.toInt64) + r36.toInt64) + r40.toInt64) + r44.toInt64) + r48.toInt64) + r52.toInt64) + r56.toInt64) + r59.toInt64) + r63.toInt64) + r67.toInt64) + r71.toInt64) + r75.toInt64) + r79.toInt64) + r83.toInt64) + r87.toInt64, S88))))))))))))))))))))) := by
  unfold pX9_digestMoments
  obtain ⟨g, hg⟩ : ∃ g, F = g + 1 + 1 + 1 + 1 + 1 := ⟨F - 5, by omega⟩
  have eF : ∀ y z, pX9_digestMoments_L15_3 F F x y z = pX9_digestMoments_L15_3 F (g + 1 + 1 + 1 + 1 + 1) x y z := fun y z => by rw [← hg]
  rw [eF]
  have un : ∀ (n i t : Nat) (y : Int64) (D : zz_M), i < 4 → zz_T2 i = nI t → pX9_digestMoments_L15_3 F (n + 1) y (nI i) D = zz_b2 (pX9_at F (nI t) D) (fun r7 S8 => zz_b2 (pX9_sees F (nI t) (nI 0) S8) (fun r11 S12 => zz_b2 (pX9_sees F (nI t) (nI 1) S12) (fun r15 S16 => pX9_digestMoments_L15_3 F n (lN 31 * (lN 31 * (lN 31 * y + r7.toInt64) + r11.toInt64) + r15.toInt64) (nI (i + 1)) S16))) := by
    intro n i t y D hi ht
    rw [pX9_digestMoments_L15_3]
    simp only [zl_lit, zl_litL, zz_lt]
    rw [if_neg (nI_ge (by omega) (by omega)), if_pos ((zl_in (by omega)).mpr hi), nI_clamp (by omega), ht, nI_add]
  simp only [zl_lit]
  rw [un _ 0 0 _ _ (by omega) rfl]
  simp only [b2_assoc]
  refine dg_mom F (by omega) R h hF (K := fun v D => zz_b2 (pX9_digestMoments_L15_3 F (g + 1 + 1 + 1 + 1) v (nI 1) D) _) (fun v D T R h => ?_)
  rw [un _ 1 7 _ _ (by omega) rfl]
  simp only [b2_assoc]
  refine dg_mom F (by omega) R h hF (K := fun v D => zz_b2 (pX9_digestMoments_L15_3 F (g + 1 + 1 + 1) v (nI 2) D) _) (fun v D T R h => ?_)
  rw [un _ 2 50 _ _ (by omega) rfl]
  simp only [b2_assoc]
  refine dg_mom F (by omega) R h hF (K := fun v D => zz_b2 (pX9_digestMoments_L15_3 F (g + 1 + 1) v (nI 3) D) _) (fun v D T R h => ?_)
  rw [un _ 3 95 _ _ (by omega) rfl]
  simp only [b2_assoc]
  refine dg_mom F (by omega) R h hF (K := fun v D => zz_b2 (pX9_digestMoments_L15_3 F (g + 1) v (nI 4) D) _) (fun v D T R h => ?_)
  have u4 : pX9_digestMoments_L15_3 F (g + 1) v (nI 4) D = some (v, D) := by
    rw [pX9_digestMoments_L15_3, if_pos (by decide)]
  rw [u4, b2_s]
  refine Pr_b2 (pr_safeOf F (by omega) R h hF) (fun v D T R h _ => ?_)
  refine Pr_b2 (pr_safeOf F (by omega) R h hF) (fun v D T R h _ => ?_)
  refine Pr_b2 (pr_lostTold F R h hF) (fun v D T R h _ => ?_)
  refine Pr_b2 (pr_firstNow F R h hF) (fun v D T R h _ => ?_)
  refine Pr_b2 (pr_spareNow F R h hF) (fun v D T R h _ => ?_)
  -- trimmed
  obtain ⟨D1, c1, c2, c3⟩ := q9_trim F h R.1 (show 100 ≤ F by omega) (-nI 1)
  obtain ⟨D2, d1, d2, d3⟩ := q9_trim F h c2 (show 100 ≤ F by omega) (nI 0)
  obtain ⟨U, u1, u2, u3⟩ := q10_trimBy F h (show 100 ≤ F by omega)
  have a1 : a_trim T (-nI 1) = sTn (sTm T) := by unfold a_trim; rw [if_pos rfl]
  have a2 : a_trim T (nI 0) = sp_i (sTj 0 (sTm T)) := by unfold a_trim; rw [if_neg (by decide), zu_nI (by omega) (by omega), zo_S]
  rw [c1, b2_s, d1, b2_s, u1, b2_s, q10_ofRow F (S := T) u3 (by omega), b1_s, a1, a2]
  have R2 : R9 D2 U := sm_R9 u2 (R9_ke R d2 (ke_tr c3 d3))
  have h2 : ok10 U := sm_ok u2 h
  refine Pr_b2 (pr_beginOf F (by omega) R2 h2 hF) (fun v D T R h _ => ?_)
  refine Pr_b2 (pr_beginOf F (by omega) R h hF) (fun v D T R h _ => ?_)
  refine Pr_b2 (pr_recruitOf F (by omega) R h hF) (fun v D T R h _ => ?_)
  refine Pr_b2 (pr_recruitOf F (by omega) R h hF) (fun v D T R h _ => ?_)
  refine Pr_b2 (pr_omittedNow F R h hF) (fun v D T R h _ => ?_)
  refine Pr_b2 (pr_askNow F R h hF) (fun v D T R h _ => ?_)
  refine Pr_b2 (pr_nightsOf F (by omega) R h hF) (fun v D T R h _ => ?_)
  refine Pr_b2 (pr_nightsOf F (by omega) R h hF) (fun v D T R h _ => ?_)
  exact ⟨_, D, T, rfl, rfl, R, h, trivial⟩
theorem dg_thief {k : Nat} (x : Int64) (hk : k < cT S) (R : R9 C S) (h : ok10 S) (hr : rd10 S) (hF : 2000 ≤ F) : Pr (fun T => rd10 T ∧ cT T = cT S) (pX9_digestThief F x (nI k) C) (pX10_thiefDigest F x (nI k) S) := by
  have ht := cT_le h
  unfold pX9_digestThief pX10_thiefDigest
  simp only [zl_lit, zl_litL, zz_lt]
  obtain ⟨-, -, -, -, -, -, gT⟩ := hr
  obtain ⟨t1, -, t3, -⟩ := gT.2 k hk
  have a1 : a_thief S (nI k) (nI 0) = nI (cWt S k) := by unfold a_thief; rw [zu_nI hk (by omega), zo_S, zu_nI (by omega) (by omega), zo_S, if_pos rfl]
  have a2 : a_thief S (nI k) (nI 1) = nI (cNd S k) := by unfold a_thief; rw [zu_nI hk (by omega), zo_S, zu_nI (by omega) (by omega), zo_S, if_neg (by decide)]
  simp only [if_pos ((zl_in (show k < 2 ^ 31 by omega)).mpr (show k < 9 by omega)), nI_clamp (show k < 2 ^ 31 by omega)]
  rw [t1, t3, q9_thief F R.1.1, b1_s, q9_thief F R.1.1, b1_s, a1, a2]
  refine Pr_b2 (pr_takesOf F hk R h hF) (fun v D T R h e1 => ?_)
  refine Pr_b2 (pr_meantN F (by rw [e1]; exact hk) R h hF) (fun v D T R h e2 => ?_)
  refine Pr_b2 (pr_meant0 F (by rw [e2, e1]; exact hk) R h hF) (fun v D T R h e3 => ?_)
  refine Pr_b2 (pr_foggedOf F (by rw [e3, e2, e1]; exact hk) (by omega) R h hF) (fun v D T R h e4 => ?_)
  refine Pr_b2 (pr_foggedOf F (by rw [e4.2, e3, e2, e1]; exact hk) (by omega) R h hF) (fun v D T R h e5 => ?_)
  exact ⟨_, D, T, rfl, rfl, R, h, e5.1, by rw [e5.2, e4.2, e3, e2, e1]⟩
theorem dg_thieves (hF : 2000 ≤ F) : ∀ (f m k : Nat) (x : Int64) (C S : zz_M), R9 C S → ok10 S → rd10 S → k + m = cT S → m < f → Pr Tt (pX9_digest_L101_15 F f x (nI k) C) (pX10_digest_L147_18 F f x (nI k) S) := by
  intro f
  induction f with
  | zero => intro m k x C S _ _ _ _ h; omega
  | succ f ih =>
    intro m k x C S R h hr hm hf
    have ht := cT_le h
    have g4 : zz_gI S 4 = nI (cT S) := hr.2.2.2.2.2.1
    have g6 : zz_gI C 6 = nI (cT S) := R.1.1.2.2.2.2.2.2.1
    rw [pX9_digest_L101_15, pX10_digest_L147_18, g4, g6]
    simp only [zl_lit, zl_litL, zz_lt]
    cases m with
    | zero =>
      rw [if_pos (nI_le (by omega) (by omega)), if_pos (nI_le (by omega) (by omega))]
      exact dg_tail F x R h hF
    | succ m =>
      rw [if_neg (nI_ge (by omega) (by omega)), if_neg (nI_ge (by omega) (by omega)), nI_add]
      refine Pr_b2 (dg_thief F x (by omega) R h hr hF) (fun v D T R h e => ?_)
      exact ih m (k + 1) v D T R h e.1 (by rw [e.2]; omega) (by omega)
theorem dg_steps (hF : 2000 ≤ F) (R : R9 C S) (h : ok10 S) (hr : rd10 S) : ∀ (f m k : Nat) (x : Int64), k + m = cM S → m < f → Pr Tt (pX9_digest_L69_11 F C f x (nI k)) (pX10_digest_L117_14 F S f x (nI k)) := by
  have hm := cM_le h
  have ht := cT_le h
  obtain ⟨-, -, -, g3, gB, -⟩ := (have z := hr; z)
  have g5 : zz_gI C 5 = nI (cM S) := R.1.1.2.2.2.2.2.1.1
  intro f
  induction f with
  | zero => intro m k x _ h; omega
  | succ f ih =>
    intro m k x hmk hf
    rw [pX9_digest_L69_11, pX10_digest_L117_14, g3, g5]
    simp only [zl_lit, zl_litL, zz_lt]
    cases m with
    | zero =>
      rw [if_pos (nI_le (by omega) (by omega)), if_pos (nI_le (by omega) (by omega))]
      exact dg_thieves F hF F (cT S) 0 x C S R h hr (by omega) (by omega)
    | succ m =>
      have a1 : a_beat S (nI k) = nI (cB S k) := by unfold a_beat; rw [zu_nI (by omega) (by omega), zo_S, if_pos (by omega)]
      rw [if_neg (nI_ge (by omega) (by omega)), if_neg (nI_ge (by omega) (by omega)), if_pos ((zl_in (show k < 2 ^ 31 by omega)).mpr (by omega)), nI_clamp (by omega), (gB.2 k (by omega)).1, q9_beat F R.1.1, b1_s, a1, nI_add]
      exact ih m (k + 1) _ (by omega) (by omega)
theorem dg_cells (hF : 2000 ≤ F) : ∀ (f m k : Nat) (x : Int64) (C S : zz_M), R9 C S → ok10 S → rd10 S → k + m = cN S → m < f → Pr Tt (zz_b2 (pX9_digestCells_L5_3 F f x (nI k) C) (fun r7 S8 => pX9_digest_L69_11 F S8 F r7 (nI 0))) (pX10_digest_L59_11 F f x (nI k) S) := by
  intro f
  induction f with
  | zero => intro m k x C S _ _ _ _ h; omega
  | succ f ih =>
    intro m k x C S R h hr hm hf
    have hn := cN_le S
    have hmm := cM_le h
    obtain ⟨-, g2, gk, -⟩ := (have z := hr; z)
    have g3 : zz_gI C 3 = nI (cN S) := R.1.1.2.2.2.2.1.1
    rw [pX9_digestCells_L5_3, pX10_digest_L59_11, g2, g3]
    simp only [zl_lit, zl_litL, zz_lt]
    cases m with
    | zero =>
      rw [if_pos (nI_le (by omega) (by omega)), if_pos (nI_le (by omega) (by omega)), b2_s]
      exact dg_steps F hF R h hr F (cM S) 0 x (by omega) (by omega)
    | succ m =>
      have a1 : a_cell S (nI k) = cK S k := by unfold a_cell; rw [zu_nI (by omega) (by omega), zo_S, if_pos (by omega)]
      rw [if_neg (nI_ge (by omega) (by omega)), if_neg (nI_ge (by omega) (by omega)), if_pos ((zl_in (show k < 2 ^ 31 by omega)).mpr (by omega)), nI_clamp (by omega), gk k (by omega), q9_cell F R.1.1, b1_s, a1, nI_add, b2_assoc]
      refine Pr_b2 (pr_seenOf F (by omega) (by omega) R h hF) (fun v D T R h e1 => ?_)
      rw [b2_assoc]
      refine Pr_b2 (pr_seenOf F (by rw [e1.2]; omega) (by omega) R h hF) (fun v D T R h e2 => ?_)
      exact ih m (k + 1) _ D T R h e2.1 (by rw [e2.2, e1.2]; omega) (by omega)
theorem dg_faults (hF : 2000 ≤ F) : ∀ (f m k : Nat) (x : Int64) (S : zz_M), R9 C S → ok10 S → (0 < k → rd10 S) → k + m = 3 → m < f → Pr Tt (pX9_digest_L33_5 F C f x (nI k)) (pX10_digest_L33_7 F f x (nI k) S) := by
  intro f
  induction f with
  | zero => intro m k x S _ _ _ _ h; omega
  | succ f ih =>
    intro m k x S R h hr hm hf
    have hn := cN_le S
    rw [pX9_digest_L33_5, pX10_digest_L33_7]
    simp only [zl_lit, zl_litL, zz_lt]
    cases m with
    | zero =>
      rw [if_pos (nI_le (by omega) (by omega)), if_pos (nI_le (by omega) (by omega))]
      unfold pX9_digestCells
      exact dg_cells F hF F (cN S) 0 x C S R h (hr (by omega)) (by omega) (by omega)
    | succ m =>
      obtain ⟨T, e1, e2, e3⟩ := q10_faultOf F (show k < 3 by omega) h (show 100 ≤ F by omega)
      have a1 : a_fault S (nI k) = sp_i (cF S k) := by unfold a_fault; rw [zu_nI (by omega) (by omega), zo_S]
      rw [if_neg (nI_ge (by omega) (by omega)), if_neg (nI_ge (by omega) (by omega)), q9_fault F R.1.1, b1_s, e1, b2_s, a1, nI_add]
      exact ih m (k + 1) _ T (sm_R9 e2 R) (sm_ok e2 h) (fun _ => e3) (by omega) (by omega)
theorem dg_counts (hF : 2000 ≤ F) : ∀ (f m k : Nat) (x : Int64) (S : zz_M), R9 C S → ok10 S → k + m = 8 → m < f → Pr Tt (pX9_digest_L6_2 F C f x (nI k)) (pX10_digest_L6_3 F f x (nI k) S) := by
  intro f
  induction f with
  | zero => intro m k x S _ _ _ h; omega
  | succ f ih =>
    intro m k x S R h hm hf
    rw [pX9_digest_L6_2, pX10_digest_L6_3]
    simp only [zl_lit, zl_litL, zz_lt]
    cases m with
    | zero =>
      rw [if_pos (nI_lt (by omega) (by omega)), if_pos (nI_le (by omega) (by omega))]
      exact dg_faults F hF F 3 0 x S R h (fun z => absurd z (by decide)) (by omega) (by omega)
    | succ m =>
      rw [if_neg (nI_nlt (by omega) (by omega)), if_neg (nI_ge (by omega) (by omega)), nI_add]
      refine Pr_b1 (pq_count F (nI k) R h hF) (fun v T R h => ?_)
      exact ih m (k + 1) _ T R h (by omega) (by omega)
theorem pr_digest (R : R9 C S) (h : ok10 S) (hF : 2000 ≤ F) : Pr Tt (pX9_digest F C) (pX10_digest F S) := by
  unfold pX9_digest pX10_digest
  exact dg_counts F hF F 8 0 _ S R h (by omega) (by omega)
end DG
