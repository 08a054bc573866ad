/-! the answers, out of what lasts -/
def cP (S : zz_M) : Nat → Option Nat := sp_pl (cN S) (cW S) (cK S) (cGi S) (cSt S) (cM S) (cB S)
def cV (S : zz_M) : Nat → Nat := sp_vm (cN S) (cW S) (cK S) (cSi S) (fun _ => decide (cFo S = 1)) (cP S)
def cTk (S : zz_M) : Nat → Option Nat := sp_takes (cN S) (cK S) (cV S) (cWt S) (cNd S)
theorem sm_P {S T : zz_M} (h : sm S T) : cP T = cP S := by unfold cP; rw [sm_N h, sm_W h, sm_K h, sm_Gi h, sm_St h, sm_M h, sm_B h]
theorem sm_V {S T : zz_M} (h : sm S T) : cV T = cV S := by unfold cV; rw [sm_N h, sm_W h, sm_K h, sm_Si h, sm_Fo h, sm_P h]
theorem sm_Tk {S T : zz_M} (h : sm S T) : cTk T = cTk S := by unfold cTk; rw [sm_N h, sm_K h, sm_V h, sm_Wt h, sm_Nd h]
def a_fault (S : zz_M) (u : Int32) : Int32 := zo (-nI 2) (fun k => sp_i (cF S k)) (zu u 3)
def a_cell (S : zz_M) (u : Int32) : Int32 := zo (-nI 2) (fun c => if c < cN S then cK S c else -nI 1) (zu u 36)
def a_beat (S : zz_M) (u : Int32) : Int32 := zo (-nI 2) (fun i => if i < cM S then nI (cB S i) else -nI 1) (zu u 24)
def a_thief (S : zz_M) (u v : Int32) : Int32 := zo (-nI 2) (fun i => zo (-nI 2) (fun j => if j = 0 then nI (cWt S i) else nI (cNd S i)) (zu v 2)) (zu u (cT S))
def a_at (S : zz_M) (u : Int32) : Int32 := zo (-nI 2) (fun t => sp_i (cP S t)) (zu u 96)
def a_sees (S : zz_M) (u v : Int32) : Int32 := zo (-nI 2) (fun t => zo (-nI 2) (fun j => if j = 0 then nI (cV S t % 2 ^ 18) else nI (cV S t / 2 ^ 18)) (zu v 2)) (zu u 96)
def a_seen (S : zz_M) (u v : Int32) : Int32 := zo (-nI 2) (fun c => zo (-nI 2) (fun j => if j = 0 then nI (fa_cnt (fun t => (cV S t).testBit c) 96) else nI (sp_lng (fun t => (cV S t).testBit c) 96)) (zu v 2)) (zu u (cN S))
def a_takes (S : zz_M) (u : Int32) : Int32 := zo (-nI 2) (fun i => sp_i (cTk S i)) (zu u (cT S))
theorem q10_isText (F : Nat) (u : Int32) : pX10_isText F u = some (zb (zu u 3).isSome) := by
  unfold pX10_isText
  simp only [zl_lit]
  rw [q10_inN F u (by omega)]
  simp only [zz_b1, zb1', if_true]
theorem q10_isNumber (F : Nat) (u : Int32) : pX10_isNumber F u = some (zb (zu u 96).isSome) := by
  unfold pX10_isNumber
  simp only [zl_lit]
  rw [q10_inN F u (by omega)]
  simp only [zz_b1, zb1', if_true]
theorem q10_fault (F : Nat) {S : zz_M} (h : ok10 S) (hF : 100 ≤ F) (u : Int32) : ∃ T, pX10_fault F u S = some (a_fault S u, T) ∧ sm S T := by
  unfold pX10_fault a_fault
  rw [q10_isText]
  simp only [zz_b1, zz_lt, zb0', zl_lit]
  cases q : zu u 3 with
  | none => exact ⟨S, rfl, sm_rfl S⟩
  | some k =>
    obtain ⟨h1, h2⟩ := zu_S q
    subst h2
    obtain ⟨T, e1, e2, -⟩ := q10_faultOf F h1 h hF
    rw [e1]
    exact ⟨T, rfl, e2⟩
theorem cN_le (S : zz_M) : cN S ≤ 36 := (cK_W S).1
theorem q10_isCell (F : Nat) {S : zz_M} (h : ok10 S) (hF : 100 ≤ F) (u : Int32) : ∃ T, pX10_isCell F u S = some (zb (zu u (cN S)).isSome, T) ∧ sm S T ∧ rd10 T := by
  obtain ⟨T, e1, e2, e3⟩ := q10_reads F h hF
  unfold pX10_isCell
  rw [e1]
  simp only [zz_b1, zl_lit]
  have hn := cN_le S
  rw [e3.2.1, sm_N e2, q10_inM F u (by omega)]
  simp only [zz_b1, zb1', if_true]
  exact ⟨T, rfl, e2, e3⟩
theorem q10_isThief (F : Nat) {S : zz_M} (h : ok10 S) (hF : 100 ≤ F) (u : Int32) : ∃ T, pX10_isThief F u S = some (zb (zu u (cT S)).isSome, T) ∧ sm S T ∧ rd10 T := by
  obtain ⟨T, e1, e2, e3⟩ := q10_reads F h hF
  unfold pX10_isThief
  rw [e1]
  simp only [zz_b1, zl_lit]
  have hm := e3.2.2.2.2.2.2.1
  rw [e3.2.2.2.2.2.1, q10_inM F u (by omega)]
  simp only [zz_b1, zb1', if_true]
  rw [sm_T e2]
  exact ⟨T, rfl, e2, e3⟩
theorem q10_cell (F : Nat) {S : zz_M} (h : ok10 S) (hF : 100 ≤ F) (u : Int32) : ∃ T, pX10_cell F u S = some (a_cell S u, T) ∧ sm S T := by
  unfold pX10_cell a_cell
  simp only [zl_lit]
  rw [q10_inN F u (by omega)]
  simp only [zz_b1, zz_lt, zb0]
  cases q : zu u 36 with
  | none => exact ⟨S, rfl, sm_rfl S⟩
  | some k =>
    obtain ⟨h1, h2⟩ := zu_S q
    subst h2
    obtain ⟨T, e1, e2, e3⟩ := q10_isCell F h hF (nI k)
    have hn := cN_le S
    rw [e1]
    simp only [zz_b2, Option.isSome, zb0, zo_S]
    refine ⟨T, ?_, e2⟩
    by_cases q2 : k < cN S
    · rw [zu_nI q2 (by omega), if_pos q2]
      simp (disch := omega) only [zl_in, nI_clamp]
      rw [if_neg (by decide), if_neg (by decide), if_pos (by omega), e3.2.2.1 k (by rw [sm_N e2]; exact q2), sm_K e2]
    · have : zu (nI k) (cN S) = none := by
        unfold zu; rw [zl_T (by omega), if_neg (by omega)]
      rw [this, if_neg q2]
      rfl
theorem q10_beatOf (F : Nat) {S : zz_M} (h : ok10 S) (hF : 100 ≤ F) {i : Nat} (hi : i < 24) : ∃ T, pX10_beatOf F (nI i) S = some (if i < cM S then nI (cB S i) else -nI 1, T) ∧ sm S T := by
  obtain ⟨T, e1, e2, e3⟩ := q10_reads F h hF
  unfold pX10_beatOf
  rw [e1]
  simp only [zz_b1, zz_lt, zl_lit]
  obtain ⟨-, -, -, g3, gB, -⟩ := e3
  have hm := gB.1
  rw [g3]
  rw [sm_M e2, sm_B e2] at gB
  rw [sm_M e2] at hm ⊢
  simp (disch := omega) only [nI_leI, zl_in, nI_clamp]
  refine ⟨T, ?_, e2⟩
  by_cases q : i < cM S
  · rw [if_neg (by omega), if_pos hi, if_pos q, (gB.2 i q).1]
  · rw [if_pos (by omega), if_neg q]
theorem q10_beat (F : Nat) {S : zz_M} (h : ok10 S) (hF : 100 ≤ F) (u : Int32) : ∃ T, pX10_beat F u S = some (a_beat S u, T) ∧ sm S T := by
  unfold pX10_beat a_beat
  simp only [zl_lit]
  rw [q10_inN F u (by omega)]
  simp only [zz_b1, zz_lt, zb0]
  cases q : zu u 24 with
  | none => exact ⟨S, rfl, sm_rfl S⟩
  | some k =>
    obtain ⟨h1, h2⟩ := zu_S q
    subst h2
    obtain ⟨T, e1, e2⟩ := q10_beatOf F h hF h1
    rw [e1]
    exact ⟨T, rfl, e2⟩
theorem q10_thief (F : Nat) {S : zz_M} (h : ok10 S) (hF : 100 ≤ F) (u v : Int32) : ∃ T, pX10_thief F u v S = some (a_thief S u v, T) ∧ sm S T := by
  unfold pX10_thief a_thief
  obtain ⟨T, e1, e2, e3⟩ := q10_isThief F h hF u
  rw [e1]
  simp only [zl_lit, zz_b2, zz_lt]
  rw [q10_inN F v (by omega)]
  simp only [zz_b1, zb0]
  refine ⟨T, ?_, e2⟩
  obtain ⟨-, -, -, -, -, -, hm, hT⟩ := e3
  rw [sm_T e2] at hm hT
  cases q : zu u (cT S) with
  | none => rfl
  | some k =>
    obtain ⟨h1, h2⟩ := zu_S q
    subst h2
    cases q2 : zu v 2 with
    | none => rfl
    | some j =>
      obtain ⟨h3, h4⟩ := zu_S q2
      subst h4
      have hk := hT k h1
      simp (disch := omega) only [zl_in, nI_clamp, nI_eq, Option.isSome, zo_S]
      simp only [if_pos (show k < 9 by omega)]
      rw [if_neg (by decide), if_neg (by decide), hk.1, hk.2.2.1, sm_Wt e2, sm_Nd e2]
      split <;> rfl
theorem q10_at (F : Nat) {S : zz_M} (h : ok10 S) (hF : 100 ≤ F) (u : Int32) : ∃ T, pX10_at F u S = some (a_at S u, T) ∧ sm S T := by
  unfold pX10_at a_at
  rw [q10_isNumber]
  simp only [zl_lit, zz_b1, zz_lt, zb0]
  cases q : zu u 96 with
  | none => exact ⟨S, rfl, sm_rfl S⟩
  | some k =>
    obtain ⟨h1, h2⟩ := zu_S q
    subst h2
    obtain ⟨T, e1, e2, e3⟩ := q10_walksTold F h hF
    unfold pX10_atOf
    rw [e1]
    simp (disch := omega) only [zz_b1, zl_in, nI_clamp, Option.isSome, zo_S]
    rw [if_neg (by decide), if_pos (by omega), e3.2.1 k (by omega), ← sm_M e2, ← sm_B e2]
    rw [← sm_P e2]
    exact ⟨T, rfl, e2⟩
theorem wk_V {S T : zz_M} (e2 : sm S T) (e3 : wk10 T (cM S) (cB S) (fun _ => decide (cFo S = 1))) : sp_LH (zz_gA T 9) (zz_gA T 10) (cV S) := by
  have h := e3.2.2
  rw [← sm_V e2]
  unfold cV cP
  rw [sm_M e2, sm_B e2, sm_Fo e2]
  exact h
theorem q10_sees (F : Nat) {S : zz_M} (h : ok10 S) (hF : 100 ≤ F) (u v : Int32) : ∃ T, pX10_sees F u v S = some (a_sees S u v, T) ∧ sm S T := by
  unfold pX10_sees a_sees
  rw [q10_isNumber]
  simp only [zl_lit]
  rw [q10_inN F v (by omega)]
  simp only [zz_b1, zz_lt, zb0]
  cases q : zu u 96 with
  | none => exact ⟨S, rfl, sm_rfl S⟩
  | some k =>
    obtain ⟨h1, h2⟩ := zu_S q
    subst h2
    cases q2 : zu v 2 with
    | none => exact ⟨S, rfl, sm_rfl S⟩
    | some j =>
      obtain ⟨h3, h4⟩ := zu_S q2
      subst h4
      obtain ⟨T, e1, e2, e3⟩ := q10_walksTold F h hF
      have hv := wk_V e2 e3 k h1
      unfold pX10_seesOf
      rw [e1]
      simp (disch := omega) only [zl_lit, zz_b1, zz_lt, zl_in, nI_clamp, nI_eq, Option.isSome, zo_S]
      simp only [if_pos h1]
      rw [if_neg (by decide), if_neg (by decide), hv.1, hv.2.1]
      refine ⟨T, ?_, e2⟩
      split <;> rfl
theorem q10_snL (F : Nat) {T : zz_M} {vm : Nat → Nat} {c j : Nat} (hv : sp_LH (zz_gA T 9) (zz_gA T 10) vm) (hc : c < 36) (hj : j < 2) : ∀ (f k t : Nat), t + k = 96 → k < f →
    pX10_seenOf_L15_6 (nI c) (nI j) F T f (nI (fa_cnt (fun t => (vm t).testBit c) t)) (nI (sp_run (fun t => (vm t).testBit c) t)) (nI (sp_lng (fun t => (vm t).testBit c) t)) (nI t) = some (if j = 0 then nI (fa_cnt (fun t => (vm t).testBit c) 96) else nI (sp_lng (fun t => (vm t).testBit c) 96), T) := by
  intro f
  induction f with
  | zero => intro k t _ h; omega
  | succ f ih =>
    intro k t hk hf
    have b1 := fa_cnt_le (fun t => (vm t).testBit c) t
    have b2 := sp_run_le (fun t => (vm t).testBit c) t
    have b3 := sp_lng_le (fun t => (vm t).testBit c) t
    rw [pX10_seenOf_L15_6]
    simp (disch := omega) only [zl_lit, zz_lt, nI_leI, nI_eq, nI_add]
    cases k with
    | zero =>
      rw [if_pos (by omega), show t = 96 by omega]
    | succ k =>
      rw [if_neg (by omega), q10_isSeenAt F hv (by omega) hc]
      simp only [zz_b1, zb0]
      have h1 := ih k (t + 1) (by omega) (by omega)
      rw [fa_cnt, sp_lng, sp_run] at h1
      cases q : (vm t).testBit c
      · rw [q] at h1
        simp only [if_true, Bool.false_eq_true, if_false] at h1 ⊢
        rw [nI_add]
        by_cases q2 : sp_lng (fun t => (vm t).testBit c) t < sp_run (fun t => (vm t).testBit c) t + 1
        · rw [if_pos q2] at h1
          rw [if_neg (nI_ge (by omega) (by omega))]
          exact h1
        · rw [if_neg q2] at h1
          rw [if_pos (nI_le (by omega) (by omega))]
          exact h1
      · rw [q] at h1
        simp only [if_true, if_false, Bool.true_eq_false] at h1 ⊢
        rw [nI_add]
        rw [if_neg (by omega)] at h1
        rw [if_pos (nI_le (by omega) (by omega))]
        exact h1
theorem q10_seen (F : Nat) {S : zz_M} (h : ok10 S) (hF : 100 ≤ F) (u v : Int32) : ∃ T, pX10_seen F u v S = some (a_seen S u v, T) ∧ sm S T := by
  unfold pX10_seen a_seen
  obtain ⟨T, e1, e2, e3⟩ := q10_isCell F h hF u
  rw [e1]
  simp only [zl_lit, zz_b2, zz_lt]
  rw [q10_inN F v (by omega)]
  simp only [zz_b1, zb0]
  have hn := cN_le S
  cases q : zu u (cN S) with
  | none => exact ⟨T, rfl, e2⟩
  | some k =>
    obtain ⟨h1, h2⟩ := zu_S q
    subst h2
    cases q2 : zu v 2 with
    | none => exact ⟨T, rfl, e2⟩
    | some j =>
      obtain ⟨h3, h4⟩ := zu_S q2
      subst h4
      obtain ⟨U, f1, f2, f3⟩ := q10_walksTold F (sm_ok e2 h) hF
      have hv := wk_V f2 f3
      have e4 := q10_snL F hv (show k < 36 by omega) h3 F 96 0 (by omega) (by omega)
      unfold pX10_seenOf
      rw [f1]
      simp (disch := omega) only [zl_lit, zz_b1, zz_b2, zz_lt, Option.isSome, zo_S]
      rw [if_neg (by decide), if_neg (by decide)]
      rw [fa_cnt, sp_run, sp_lng, sm_V e2] at e4
      rw [e4]
      exact ⟨U, rfl, sm_tr e2 f2⟩
theorem q10_takesT (F : Nat) {T : zz_M} {m : Nat} {bs : Nat → Nat} {fg : Nat → Bool} (e3 : wk10 T m bs fg) (hF : 100 ≤ F) {i : Nat} (hi : i < cT T) : pX10_takesNow F (nI i) T = some (sp_i (sp_takes (cN T) (cK T) (sp_vm (cN T) (cW T) (cK T) (cSi T) fg (sp_pl (cN T) (cW T) (cK T) (cGi T) (cSt T) m bs)) (cWt T) (cNd T) i)) := by
  obtain ⟨⟨⟨-, g2, gk, -, -, -, gT⟩, -⟩, -, hv⟩ := e3
  rw [q10_takesNow F (cN_le T) gT hv g2 rfl rfl rfl hi hF, sp_takes_cg gk]
theorem q10_takes (F : Nat) {S : zz_M} (h : ok10 S) (hF : 100 ≤ F) (u : Int32) : ∃ T, pX10_takes F u S = some (a_takes S u, T) ∧ sm S T := by
  unfold pX10_takes a_takes
  obtain ⟨T, e1, e2, e3⟩ := q10_isThief F h hF u
  rw [e1]
  simp only [zl_lit, zz_b2, zz_lt, zb0]
  cases q : zu u (cT S) with
  | none => exact ⟨T, rfl, e2⟩
  | some k =>
    obtain ⟨h1, h2⟩ := zu_S q
    subst h2
    obtain ⟨U, f1, f2, f3⟩ := q10_walksTold F (sm_ok e2 h) hF
    have hs := sm_tr e2 f2
    unfold pX10_takesOf
    rw [f1]
    simp only [zz_b1]
    rw [q10_takesT F f3 hF (by rw [sm_T hs]; exact h1)]
    simp only [Option.isSome, zo_S]
    rw [if_neg (by decide)]
    refine ⟨U, ?_, hs⟩
    unfold cTk cV cP
    rw [sm_N hs, sm_W hs, sm_K hs, sm_Si hs, sm_Gi hs, sm_St hs, sm_M e2, sm_B e2, sm_Fo e2, sm_Wt hs, sm_Nd hs]
