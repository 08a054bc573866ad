/-! who takes first -/
def sp_ti (tk : Nat → Option Nat) (b : Nat) : Nat := (tk b).getD 96
def sp_bt (tk : Nat → Option Nat) : Option Nat → Nat
  | none => 96
  | some b => sp_ti tk b
def sp_fst (tk : Nat → Option Nat) : Nat → Option Nat
  | 0 => none
  | i + 1 => if (tk i).isSome = true then (if sp_bt tk (sp_fst tk i) ≤ sp_ti tk i then sp_fst tk i else some i) else sp_fst tk i
theorem sp_fst_ok {tk : Nat → Option Nat} : ∀ (i b : Nat), sp_fst tk i = some b → b < i ∧ (tk b).isSome = true
  | 0, b, h => by rw [sp_fst] at h; cases h
  | i + 1, b, h => by
    rw [sp_fst] at h
    split at h
    · rename_i q
      split at h
      · have := sp_fst_ok i b h; exact ⟨by omega, this.2⟩
      · cases h; exact ⟨by omega, q⟩
    · have := sp_fst_ok i b h; exact ⟨by omega, this.2⟩
def a_first (S : zz_M) : Option Nat := sp_fst (cTk S) (cT S)
theorem cTk_lt {S : zz_M} {i x : Nat} (h : cTk S i = some x) : x < 96 := sp_takes_lt h
theorem q10_fnL (F : Nat) {S T : zz_M} (e2 : sm S T) (g : wk10 T (cM S) (cB S) (fun _ => decide (cFo S = 1))) (hF : 100 ≤ F) : ∀ (f k i : Nat), i + k = cT S → k < f →
    pX10_firstNow_L8_4 F T f (sp_i (sp_fst (cTk S) i)) (nI i) = some (sp_i (a_first S), T) := by
  intro f
  have g4 : zz_gI T 4 = nI (cT T) := g.1.1.2.2.2.2.2.1
  have hm : cT T ≤ 8 := g.1.1.2.2.2.2.2.2.1
  rw [sm_T e2] at g4 hm
  have et : ∀ i, i < cT S → pX10_takesNow F (nI i) T = some (sp_i (cTk S i)) := fun i hi => by
    rw [q10_takesT F g hF (by rw [sm_T e2]; exact hi), cTk_s, ← sm_sTk e2]; rfl
  induction f with
  | zero => intro k i _ h; omega
  | succ f ih =>
    intro k i hk hf
    rw [pX10_firstNow_L8_4, g4]
    simp (disch := omega) only [zl_lit, zz_lt, nI_leI, nI_add]
    cases k with
    | zero => rw [if_pos (by omega), show i = cT S by omega]; rfl
    | succ k =>
      rw [if_neg (by omega), et i (by omega)]
      simp only [zz_b1]
      have h1 := ih k (i + 1) (by omega) (by omega)
      rw [sp_fst] at h1
      cases q : cTk S i with
      | none =>
        rw [q, if_neg (by decide)] at h1
        rw [if_pos sp_iN]
        exact h1
      | some x =>
        have hx : x < 96 := cTk_lt q
        rw [q, if_pos (show (some x).isSome = true from rfl), show sp_ti (cTk S) i = x by unfold sp_ti; rw [q]; rfl] at h1
        rw [if_neg (show ¬ sp_i (some x) = -nI 1 from by rw [sp_iS, zl_m1a (by omega)]; exact id)]
        cases q2 : sp_fst (cTk S) i with
        | none =>
          rw [q2, sp_bt, if_neg (by omega), sp_iS] at h1
          rw [if_pos sp_iN]
          exact h1
        | some b =>
          obtain ⟨b1, b2⟩ := sp_fst_ok i b q2
          rw [if_neg (show ¬ sp_i (some b) = -nI 1 from by rw [sp_iS, zl_m1a (by omega)]; exact id), sp_iS, et b (by omega)]
          simp only [zz_b1]
          obtain ⟨y, hy⟩ := Option.isSome_iff_exists.mp b2
          have hy2 : y < 96 := cTk_lt hy
          rw [q2, sp_bt, show sp_ti (cTk S) b = y by unfold sp_ti; rw [hy]; rfl] at h1
          rw [hy, sp_iS, sp_iS]
          by_cases q3 : y ≤ x
          · rw [if_pos q3, sp_iS] at h1
            rw [if_pos (nI_le (by omega) (by omega))]
            exact h1
          · rw [if_neg q3, sp_iS] at h1
            rw [if_neg (nI_ge (by omega) (by omega))]
            exact h1
theorem q10_first (F : Nat) {S : zz_M} (h : ok10 S) (hF : 100 ≤ F) : ∃ T, pX10_first F S = some (sp_i (a_first S), T) ∧ sm S T := by
  obtain ⟨T, e1, e2, e3⟩ := q10_walksTold F h hF
  unfold pX10_first pX10_firstNow
  rw [e1]
  simp only [zz_b1, zl_lit]
  have hm : cT T ≤ 8 := e3.1.1.2.2.2.2.2.2.1
  rw [sm_T e2] at hm
  have e4 := q10_fnL F e2 e3 hF F (cT S) 0 (by omega) (by omega)
  rw [sp_fst, sp_iN] at e4
  rw [e4]
  exact ⟨T, rfl, e2⟩
theorem q9_fL (F : Nat) {D S : zz_M} (p : p9 D S) (n : n9 D S) (hF : 100 ≤ F) : ∀ (f k i : Nat), i + k = cT S → k < f →
    pX9_first_L11_5 F D f (sp_i (sp_fst (cTk S) i)) (nI (sp_bt (cTk S) (sp_fst (cTk S) i))) (nI i) = some (sp_i (a_first S), D) := by
  intro f
  have hv := n.2.2.2
  obtain ⟨-, -, -, -, ⟨w1, -, -, w4⟩, -, t1, t2⟩ := p
  have hm := t2.1
  induction f with
  | zero => intro k i _ h; omega
  | succ f ih =>
    intro k i hk hf
    rw [pX9_first_L11_5, w1, t1]
    simp (disch := omega) only [zl_lit, zz_lt, nI_leI, nI_add]
    cases k with
    | zero => rw [if_pos (by omega), show i = cT S by omega]; rfl
    | succ k =>
      rw [if_neg (by omega), q7_takesBehind F (cN_le S) t2 hv (by omega) hF, sp_takes_cg w4]
      simp only [zz_b1]
      have ef : sp_takes (cN S) (cK S) (cV S) (cWt S) (cNd S) i = cTk S i := rfl
      rw [ef]
      have hbt : sp_bt (cTk S) (sp_fst (cTk S) i) ≤ 96 := by
        cases q2 : sp_fst (cTk S) i with
        | none => exact Nat.le_refl 96
        | some b =>
          obtain ⟨y, hy⟩ := Option.isSome_iff_exists.mp (sp_fst_ok i b q2).2
          have := cTk_lt hy
          rw [sp_bt, sp_ti, hy]; exact Nat.le_of_lt this
      have h1 := ih k (i + 1) (by omega) (by omega)
      rw [sp_fst] at h1
      cases q : cTk S i with
      | none =>
        rw [q, if_neg (by decide)] at h1
        rw [if_pos sp_iN, if_pos sp_iN]
        exact h1
      | some x =>
        have hx : x < 96 := cTk_lt q
        have hti : sp_ti (cTk S) i = x := by unfold sp_ti; rw [q]; rfl
        rw [q, if_pos (show (some x).isSome = true from rfl), hti] at h1
        have hne : ¬ sp_i (some x) = -nI 1 := by rw [sp_iS, zl_m1a (by omega)]; exact id
        rw [if_neg hne, if_neg hne, sp_iS]
        by_cases q3 : sp_bt (cTk S) (sp_fst (cTk S) i) ≤ x
        · rw [if_pos q3] at h1
          rw [if_pos (nI_le q3 (by omega)), if_pos (nI_le q3 (by omega))]
          exact h1
        · rw [if_neg q3, sp_bt, hti, sp_iS] at h1
          rw [if_neg (nI_ge (by omega) (by omega)), if_neg (nI_ge (by omega) (by omega))]
          exact h1
theorem q9_first (F : Nat) {C S : zz_M} (h : ok10 S) (p : p9 C S) (n : zz_gI C 25 = 0 → n9 C S) (hF : 100 ≤ F) : ∃ D, pX9_first F C = some (sp_i (a_first S), D) ∧ qd9 C D S := by
  obtain ⟨D, e1, e2, e3⟩ := q9_settled F h p n hF
  have hm := e3.2.2.2.2.2.2.2.1
  have e4 := q9_fL F e3 e2.2.1 hF F (cT S) 0 (by omega) (by omega)
  rw [sp_fst, sp_iN, sp_bt] at e4
  unfold pX9_first
  rw [e1]
  simp only [zz_b1, zl_lit]
  rw [e4]
  exact ⟨D, rfl, Or.inr e2⟩
