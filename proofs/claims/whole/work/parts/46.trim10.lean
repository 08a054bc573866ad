/-! which steps are trimmed: the reference -/
def sp_ff (p : Nat → Bool) : Nat → Nat → Option Nat
  | 0, _ => none
  | k + 1, i => if p i then some i else sp_ff p k (i + 1)
def sp_fp (p : Nat → Nat → Bool) : Nat → Nat → Option (Nat × Nat)
  | 0, _ => none
  | k + 1, i => ((sp_ff (p i) k (i + 1)).map (fun j => (i, j))).or (sp_fp p k (i + 1))
def sT1 (S : zz_M) (i : Nat) : Bool := decide (sLw S (nI i) (-nI 1) < a_lost S)
def sT2 (S : zz_M) (i j : Nat) : Bool := decide (sLw S (nI i) (nI j) < a_lost S)
def sTm (S : zz_M) : Option (Nat × Option Nat) := ((sp_ff (sT1 S) (cM S) 0).map (fun a => (a, none))).or ((sp_fp (sT2 S) (cM S) 0).map (fun x => (x.1, some x.2)))
def sTn : Option (Nat × Option Nat) → Int32
  | none => -nI 1
  | some (_, none) => nI 1
  | some (_, some _) => nI 2
def sTj (j : Nat) : Option (Nat × Option Nat) → Option Nat
  | none => none
  | some (a, b) => if j = 0 then some a else b
theorem sp_ff_lt {p : Nat → Bool} : ∀ (k i x : Nat), sp_ff p k i = some x → i ≤ x ∧ x < i + k
  | 0, _, _, h => by rw [sp_ff] at h; cases h
  | k + 1, i, x, h => by
    rw [sp_ff] at h
    split at h
    · cases h; omega
    · have := sp_ff_lt k (i + 1) x h; omega
theorem sp_fp_lt {p : Nat → Nat → Bool} : ∀ (k i a b : Nat), sp_fp p k i = some (a, b) → i ≤ a ∧ a < b ∧ b < i + k
  | 0, _, _, _, h => by rw [sp_fp] at h; cases h
  | k + 1, i, a, b, h => by
    rw [sp_fp] at h
    cases q : sp_ff (p i) k (i + 1) with
    | some j =>
      rw [q] at h
      simp at h
      obtain ⟨h1, h2⟩ := h
      have := sp_ff_lt k (i + 1) j q
      omega
    | none =>
      rw [q] at h
      simp at h
      have := sp_fp_lt k (i + 1) a b h
      omega
theorem q10_tm3 (F : Nat) {S : zz_M} (h : ok10 S) (hF : 100 ≤ F) (i : Nat) (kL : Int32 → zz_M → Option (Int32 × zz_M)) : ∀ (f k j : Nat) (T : zz_M), sm S T → rd10 T → j + k = cM S → k < f →
    (sp_ff (sT2 S i) k j = none → ∃ U, pX10_trimBy_L54_12 F (nI (a_lost S)) (nI i) kL f (nI j) T = kL (nI (i + 1)) U ∧ sm S U ∧ rd10 U) ∧
    (∀ b, sp_ff (sT2 S i) k j = some b → ∃ U, pX10_trimBy_L54_12 F (nI (a_lost S)) (nI i) kL f (nI j) T = some (nI 2, U) ∧ sm S U ∧ zz_gA U 11 0 = nI i ∧ zz_gA U 11 1 = nI b) := by
  intro f
  have hm := cM_le h
  have ht := cT_le h
  induction f with
  | zero => intro k i T _ _ _ h; omega
  | succ f ih =>
    intro k j T e2 e3 hk hf
    have g3 : zz_gI T 3 = nI (cM T) := e3.2.2.2.1
    rw [sm_M e2] at g3
    rw [pX10_trimBy_L54_12, g3]
    simp (disch := omega) only [zl_lit, zz_lt, nI_leI, nI_add]
    cases k with
    | zero =>
      rw [if_pos (by omega), sp_ff]
      exact ⟨fun _ => ⟨T, rfl, e2, e3⟩, fun b hb => by cases hb⟩
    | succ k =>
      obtain ⟨U, f1, f2, f3⟩ := q10_lostWithout F (sm_ok e2 h) hF (nI i) (nI j)
      rw [if_neg (by omega), f1]
      simp only [zz_b2]
      rw [sm_Lw e2]
      have hl : a_lost S ≤ 8 := sLost_le ht _ _ _
      have hw : sLw S (nI i) (nI j) ≤ 8 := sLost_le ht _ _ _
      simp (disch := omega) only [nI_leI]
      have h1 := ih k (j + 1) U (sm_tr e2 f2) f3 (by omega) (by omega)
      rw [sp_ff]
      by_cases q : a_lost S ≤ sLw S (nI i) (nI j)
      · rw [if_pos q, if_neg (by unfold sT2; rw [decide_eq_true_eq]; omega)]
        exact h1
      · rw [if_neg q, if_pos (by unfold sT2; rw [decide_eq_true_eq]; omega)]
        refine ⟨fun z => (by cases z), fun b hb => ?_⟩
        cases hb
        exact ⟨_, rfl, sm_sA (sm_sA (sm_tr e2 f2) (by decide)) (by decide), rfl, rfl⟩
theorem q10_tm2 (F : Nat) {S : zz_M} (h : ok10 S) (hF : 100 ≤ F) : ∀ (f k i : Nat) (T : zz_M), sm S T → rd10 T → i + k = cM S → k < f →
    (sp_fp (sT2 S) k i = none → ∃ U, pX10_trimBy_L42_8 F (nI (a_lost S)) f (nI i) T = some (-nI 1, U) ∧ sm S U) ∧
    (∀ a b, sp_fp (sT2 S) k i = some (a, b) → ∃ U, pX10_trimBy_L42_8 F (nI (a_lost S)) f (nI i) T = some (nI 2, U) ∧ sm S U ∧ zz_gA U 11 0 = nI a ∧ zz_gA U 11 1 = nI b) := by
  intro f
  have hm := cM_le h
  induction f with
  | zero => intro k i T _ _ _ h; omega
  | succ f ih =>
    intro k i T e2 e3 hk hf
    have g3 : zz_gI T 3 = nI (cM T) := e3.2.2.2.1
    rw [sm_M e2] at g3
    rw [pX10_trimBy_L42_8, g3]
    simp (disch := omega) only [zl_lit, zz_lt, nI_leI, nI_add]
    cases k with
    | zero =>
      rw [if_pos (by omega), sp_fp]
      exact ⟨fun _ => ⟨T, rfl, e2⟩, fun a b hb => by cases hb⟩
    | succ k =>
      rw [if_neg (by omega), sp_fp]
      obtain ⟨r1, r2⟩ := q10_tm3 F h hF i (fun b0 b1 => pX10_trimBy_L42_8 F (nI (a_lost S)) f b0 b1) F k (i + 1) T e2 e3 (by omega) (by omega)
      cases q : sp_ff (sT2 S i) k (i + 1) with
      | none =>
        obtain ⟨U, u1, u2, u3⟩ := r1 q
        rw [u1]
        exact ih k (i + 1) U u2 u3 (by omega) (by omega)
      | some b =>
        obtain ⟨U, u1, u2, u3⟩ := r2 b q
        rw [u1]
        refine ⟨fun z => (by cases z), fun a b' hb => ?_⟩
        cases hb
        exact ⟨U, rfl, u2, u3⟩
theorem q10_tm1 (F : Nat) {S : zz_M} (h : ok10 S) (hF : 100 ≤ F) : ∀ (f k i : Nat) (T : zz_M), sm S T → rd10 T → i + k = cM S → k < f →
    (sp_ff (sT1 S) k i = none → ∃ U, pX10_trimBy_L7_5 F (nI (a_lost S)) f (nI i) T = pX10_trimBy_L42_8 F (nI (a_lost S)) F (nI 0) U ∧ sm S U ∧ rd10 U) ∧
    (∀ a, sp_ff (sT1 S) k i = some a → ∃ U, pX10_trimBy_L7_5 F (nI (a_lost S)) f (nI i) T = some (nI 1, U) ∧ sm S U ∧ zz_gA U 11 0 = nI a) := by
  intro f
  have hm := cM_le h
  have ht := cT_le h
  induction f with
  | zero => intro k i T _ _ _ h; omega
  | succ f ih =>
    intro k i T e2 e3 hk hf
    have g3 : zz_gI T 3 = nI (cM T) := e3.2.2.2.1
    rw [sm_M e2] at g3
    rw [pX10_trimBy_L7_5, g3]
    simp (disch := omega) only [zl_lit, zz_lt, nI_leI, nI_add]
    cases k with
    | zero =>
      rw [if_pos (by omega), sp_ff]
      exact ⟨fun _ => ⟨T, rfl, e2, e3⟩, fun b hb => by cases hb⟩
    | succ k =>
      obtain ⟨U, f1, f2, f3⟩ := q10_lostWithout F (sm_ok e2 h) hF (nI i) (-nI 1)
      rw [if_neg (by omega), f1]
      simp only [zz_b2]
      rw [sm_Lw e2]
      have hl : a_lost S ≤ 8 := sLost_le ht _ _ _
      have hw : sLw S (nI i) (-nI 1) ≤ 8 := sLost_le ht _ _ _
      simp (disch := omega) only [nI_leI]
      have h1 := ih k (i + 1) U (sm_tr e2 f2) f3 (by omega) (by omega)
      rw [sp_ff]
      by_cases q : a_lost S ≤ sLw S (nI i) (-nI 1)
      · rw [if_pos q, if_neg (by unfold sT1; rw [decide_eq_true_eq]; omega)]
        exact h1
      · rw [if_neg q, if_pos (by unfold sT1; rw [decide_eq_true_eq]; omega)]
        refine ⟨fun z => (by cases z), fun b hb => ?_⟩
        cases hb
        exact ⟨_, rfl, sm_sA (sm_tr e2 f2) (by decide), rfl⟩
theorem q10_trimBy (F : Nat) {S : zz_M} (h : ok10 S) (hF : 100 ≤ F) : ∃ U, pX10_trimBy F S = some (sTn (sTm S), U) ∧ sm S U ∧ (∀ a b, sTm S = some (a, b) → zz_gA U 11 0 = nI a ∧ ∀ b', b = some b' → zz_gA U 11 1 = nI b') := by
  obtain ⟨T, e1, e2, e3⟩ := q10_lostTold F h hF
  have hm := cM_le h
  unfold pX10_trimBy
  rw [e1]
  simp only [zz_b2, zl_lit]
  obtain ⟨r1, r2⟩ := q10_tm1 F h hF F (cM S) 0 T e2 e3 (by omega) (by omega)
  cases q : sp_ff (sT1 S) (cM S) 0 with
  | some a =>
    obtain ⟨U, u1, u2, u3⟩ := r2 a q
    have e : sTm S = some (a, none) := by unfold sTm; rw [q]; rfl
    rw [u1, e]
    refine ⟨U, rfl, u2, fun a' b' z => ?_⟩
    cases z
    exact ⟨u3, fun b z => by cases z⟩
  | none =>
    obtain ⟨U, u1, u2, u3⟩ := r1 q
    rw [u1]
    obtain ⟨v1, v2⟩ := q10_tm2 F h hF F (cM S) 0 U u2 u3 (by omega) (by omega)
    cases q2 : sp_fp (sT2 S) (cM S) 0 with
    | none =>
      obtain ⟨V, w1, w2⟩ := v1 q2
      have e : sTm S = none := by unfold sTm; rw [q, q2]; rfl
      rw [w1, e]
      exact ⟨V, rfl, w2, fun a b z => by cases z⟩
    | some x =>
      obtain ⟨a, b⟩ := x
      obtain ⟨V, w1, w2, w3, w4⟩ := v2 a b q2
      have e : sTm S = some (a, some b) := by unfold sTm; rw [q, q2]; rfl
      rw [w1, e]
      refine ⟨V, rfl, w2, fun a' b' z => ?_⟩
      cases z
      exact ⟨w3, fun b z => by cases z; exact w4⟩
theorem sTm_lt {S : zz_M} (h : ok10 S) {a : Nat} {b : Option Nat} (e : sTm S = some (a, b)) : a < 24 ∧ ∀ b', b = some b' → a < b' ∧ b' < 24 := by
  have hm := cM_le h
  unfold sTm at e
  cases q : sp_ff (sT1 S) (cM S) 0 with
  | some x =>
    rw [q] at e
    simp at e
    obtain ⟨rfl, rfl⟩ := e
    have := sp_ff_lt _ _ _ q
    exact ⟨by omega, fun b' z => by cases z⟩
  | none =>
    rw [q] at e
    cases q2 : sp_fp (sT2 S) (cM S) 0 with
    | none => rw [q2] at e; simp at e
    | some x =>
      obtain ⟨c, d⟩ := x
      rw [q2] at e
      simp at e
      obtain ⟨rfl, rfl⟩ := e
      have := sp_fp_lt _ _ _ _ q2
      refine ⟨by omega, fun b' z => ?_⟩
      cases z
      omega
theorem zu_m1 (N : Nat) : zu (-nI 1) N = none := by
  unfold zu; rw [zl_m1T, if_neg (by omega)]
theorem q10_inO (F : Nat) (u : Int32) {h : Nat} (hh : h < 2 ^ 31 - 1) : pX10_in F u (-nI 1) (nI h) = some (zb (decide (u = -nI 1) || (zu u (h + 1)).isSome)) := by
  rw [q10_in, zu_b, zl_T (by omega), zl_m1T]
  have e : (u = -nI 1) ↔ u.toInt = -1 := by rw [fa_eq, zl_m1T]
  have : (-1 ≤ u.toInt ∧ u.toInt ≤ (h : Int)) ↔ (u = -nI 1 ∨ (0 ≤ u.toInt ∧ u.toInt < ((h + 1 : Nat) : Int))) := by
    rw [e]; constructor <;> intro q <;> omega
  rw [decide_eq_decide.mpr this, Bool.decide_or]
def a_trim (S : zz_M) (u : Int32) : Int32 := if u = -nI 1 then sTn (sTm S) else zo (-nI 2) (fun j => sp_i (sTj j (sTm S))) (zu u 2)
theorem q10_ofRow (F : Nat) {S U : zz_M} {o : Option (Nat × Option Nat)} (g : ∀ a b, o = some (a, b) → zz_gA U 11 0 = nI a ∧ ∀ b', b = some b' → zz_gA U 11 1 = nI b') {j : Nat} (hj : j < 2) : pX10_ofRow F (sTn o) (nI j) U = some (sp_i (sTj j o)) := by
  unfold pX10_ofRow
  simp (disch := omega) only [zl_lit, zz_lt, zl_m1a, zl_in, nI_clamp, if_false]
  rcases o with _ | ⟨a, b⟩
  · rw [if_pos (by rw [sTn, zl_m1f (by omega)]; trivial)]; rfl
  · obtain ⟨g1, g2⟩ := g a b rfl
    rcases b with _ | b
    · rw [sTn]; simp (disch := omega) only [nI_leI]
      rcases (show j = 0 ∨ j = 1 by omega) with rfl | rfl
      · rw [if_neg (by omega), if_pos (by omega), g1]; rfl
      · rw [if_pos (by omega)]; rfl
    · rw [sTn]; simp (disch := omega) only [nI_leI]
      rcases (show j = 0 ∨ j = 1 by omega) with rfl | rfl
      · rw [if_neg (by omega), if_pos (by omega), g1]; rfl
      · rw [if_neg (by omega), if_pos (by omega), g2 b rfl]; rfl
theorem q10_ofRowN (F : Nat) {U : zz_M} (n : Int32) : pX10_ofRow F n (-nI 1) U = some n := by
  unfold pX10_ofRow
  simp only [zl_lit, zz_lt, if_true]
theorem q10_trim (F : Nat) {S : zz_M} (h : ok10 S) (hF : 100 ≤ F) (u : Int32) : ∃ T, pX10_trim F u S = some (a_trim S u, T) ∧ sm S T := by
  unfold pX10_trim a_trim
  simp only [zl_lit, zz_lt]
  rw [q10_inO F u (by omega)]
  simp only [zz_b1, zb0]
  obtain ⟨U, e1, e2, e3⟩ := q10_trimBy F h hF
  rw [e1]
  simp only [zz_b2]
  by_cases q : u = -nI 1
  · rw [if_pos q, q, q10_ofRowN, if_neg (by simp)]
    exact ⟨U, rfl, e2⟩
  · rw [if_neg q]
    cases q2 : zu u 2 with
    | none => rw [if_pos (by simp [q])]; exact ⟨S, rfl, sm_rfl S⟩
    | some j =>
      obtain ⟨h1, h2⟩ := zu_S q2
      subst h2
      rw [if_neg (by simp), q10_ofRow F (S := S) e3 h1]
      exact ⟨U, rfl, e2⟩
