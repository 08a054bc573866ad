/-! how many take, behind any beat -/
def sTk (S : zz_M) (m : Nat) (bs : Nat → Nat) (fg : Nat → Bool) : Nat → Option Nat := sp_takes (cN S) (cK S) (sp_vm (cN S) (cW S) (cK S) (cSi S) fg (sp_pl (cN S) (cW S) (cK S) (cGi S) (cSt S) m bs)) (cWt S) (cNd S)
theorem cTk_s (S : zz_M) : cTk S = sTk S (cM S) (cB S) (fun _ => decide (cFo S = 1)) := rfl
theorem sm_sTk {S T : zz_M} (h : sm S T) (m : Nat) (bs : Nat → Nat) (fg : Nat → Bool) : sTk T m bs fg = sTk S m bs fg := by
  unfold sTk; rw [sm_N h, sm_W h, sm_K h, sm_Gi h, sm_St h, sm_Si h, sm_Wt h, sm_Nd h]
def sLost (S : zz_M) (m : Nat) (bs : Nat → Nat) (fg : Nat → Bool) : Nat := fa_cnt (fun i => (sTk S m bs fg i).isSome) (cT S)
def a_lost (S : zz_M) : Nat := sLost S (cM S) (cB S) (fun _ => decide (cFo S = 1))
theorem q10_lnL (F : Nat) {T : zz_M} {m : Nat} {bs : Nat → Nat} {fg : Nat → Bool} (g : wk10 T m bs fg) (hF : 100 ≤ F) : ∀ (f k i : Nat), i + k = cT T → k < f →
    pX10_lostNow_L8_4 F T f (nI (fa_cnt (fun i => (sTk T m bs fg i).isSome) i)) (nI i) = some (nI (sLost T m bs fg), T) := by
  intro f
  have g4 : zz_gI T 4 = nI (cT T) := g.1.1.2.2.2.2.2.1
  have hm : cT T ≤ 8 := g.1.1.2.2.2.2.2.2.1
  induction f with
  | zero => intro k i _ h; omega
  | succ f ih =>
    intro k i hk hf
    have b1 := fa_cnt_le (fun i => (sTk T m bs fg i).isSome) i
    rw [pX10_lostNow_L8_4, g4]
    simp (disch := omega) only [zl_lit, zz_lt, nI_leI, nI_add]
    cases k with
    | zero => rw [if_pos (by omega), show i = cT T by omega]; rfl
    | succ k =>
      rw [if_neg (by omega), q10_takesT F g hF (by omega)]
      simp only [zz_b1]
      have h1 := ih k (i + 1) (by omega) (by omega)
      have ef : sp_takes (cN T) (cK T) (sp_vm (cN T) (cW T) (cK T) (cSi T) fg (sp_pl (cN T) (cW T) (cK T) (cGi T) (cSt T) m bs)) (cWt T) (cNd T) i = sTk T m bs fg i := rfl
      rw [ef]
      cases q : sTk T m bs fg i with
      | none =>
        rw [fa_cnt_no (by rw [q]; rfl)] at h1
        rw [if_pos sp_iN, nI_add]
        exact h1
      | some x =>
        have hx : x < 96 := sp_takes_lt q
        rw [fa_cnt_yes (by rw [q]; rfl)] at h1
        rw [if_neg (by rw [sp_iS, zl_m1a (by omega)]; exact id), nI_add]
        exact h1
theorem q10_lostNow (F : Nat) {S : zz_M} {m : Nat} {bs : Nat → Nat} {fg : Nat → Bool} (h : ok10 S) (g : go10 S m bs fg) (hF : 100 ≤ F) : ∃ T, pX10_lostNow F S = some (nI (sLost S m bs fg), T) ∧ sm S T ∧ wk10 T m bs fg := by
  obtain ⟨T, e1, e2, e3⟩ := q10_walked F h g hF
  unfold pX10_lostNow
  rw [e1]
  simp only [zz_b1, zl_lit]
  have hm : cT T ≤ 8 := e3.1.1.2.2.2.2.2.2.1
  have e4 := q10_lnL F e3 hF F (cT T) 0 (by omega) (by omega)
  rw [fa_cnt] at e4
  rw [e4]
  have e5 : sLost T m bs fg = sLost S m bs fg := by unfold sLost; rw [sm_sTk e2, sm_T e2]
  rw [e5]
  exact ⟨T, rfl, e2, e3⟩
theorem q10_lostTold (F : Nat) {S : zz_M} (h : ok10 S) (hF : 100 ≤ F) : ∃ T, pX10_lostTold F S = some (nI (a_lost S), T) ∧ sm S T ∧ rd10 T := by
  obtain ⟨T, e1, e2, e3⟩ := q10_asTold F h hF
  obtain ⟨U, f1, f2, f3⟩ := q10_lostNow F (sm_ok e2 h) e3 hF
  unfold pX10_lostTold
  rw [e1]
  simp only [zz_b1]
  rw [f1]
  simp only [zz_b2]
  have e5 : sLost T (cM S) (cB S) (fun _ => decide (cFo S = 1)) = a_lost S := by unfold a_lost sLost; rw [sm_sTk e2, sm_T e2]
  rw [e5]
  exact ⟨U, rfl, sm_tr e2 f2, f3.1.1⟩
theorem q10_lost (F : Nat) {S : zz_M} (h : ok10 S) (hF : 100 ≤ F) : ∃ T, pX10_lost F S = some (nI (a_lost S), T) ∧ sm S T := by
  obtain ⟨T, e1, e2, -⟩ := q10_lostTold F h hF
  unfold pX10_lost
  rw [e1]
  exact ⟨T, rfl, e2⟩
theorem q9_lost (F : Nat) {C S : zz_M} (h : ok10 S) (p : p9 C S) (n : zz_gI C 25 = 0 → n9 C S) (hF : 100 ≤ F) : ∃ D, pX9_lost F C = some (nI (a_lost S), D) ∧ st9 C D S ∧ p9 D S := by
  obtain ⟨D, e1, e2, e3⟩ := q9_settled F h p n hF
  unfold pX9_lost
  rw [e1]
  have hv := e2.2.1.2.2.2
  have e3' := e3
  obtain ⟨-, -, -, -, ⟨w1, -, -, w4⟩, -, t1, t2⟩ := e3'
  simp only [zz_b1]
  rw [w1, t1, q7_howManyTake F (cN_le S) t2 hv hF]
  have ef : (fun i => (sp_takes (cN S) (zz_gA D 5) (cV S) (cWt S) (cNd S) i).isSome) = fun i => (cTk S i).isSome := by
    funext i; rw [sp_takes_cg w4]; rfl
  rw [ef]
  exact ⟨D, rfl, e2, e3⟩
