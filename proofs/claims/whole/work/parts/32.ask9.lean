/-! the class's first answers -/
def st9 (C D S : zz_M) : Prop := sc C D ∧ n9 D S ∧ zz_gI D 25 = 0 ∧ (zz_gI C 25 = 0 → D = C) ∧ (¬ zz_gI C 25 = 0 → zz_gI D 26 = -nI 1)
def qd9 (C D S : zz_M) : Prop := D = C ∨ st9 C D S
theorem q9_settled (F : Nat) {C S : zz_M} (h : ok10 S) (p : p9 C S) (n : zz_gI C 25 = 0 → n9 C S) (hF : 100 ≤ F) : ∃ D, pX9_settle F C = some D ∧ st9 C D S ∧ p9 D S := by
  obtain ⟨D, e1, e2, e3⟩ := q9_settle F h p n hF
  exact ⟨D, e1, ⟨e2, e3⟩, p9_sc e2 p⟩
theorem zu_le {u : Int32} {N : Nat} (hN : N < 2 ^ 31) : (¬ u < nI 0 ∧ ¬ nI N ≤ u) ↔ (zu u N).isSome = true := by
  rw [zu_b, fa_lt, fa_le, zl_T (by omega), zl_T hN, decide_eq_true_eq]; omega
theorem q9_rng {α : Type} {u : Int32} {N : Nat} (hN : N < 2 ^ 31) (a b : α) : (if u < nI 0 then a else if nI N ≤ u then a else b) = if (zu u N).isSome = true then b else a := by
  by_cases q : (zu u N).isSome = true
  · rw [if_pos q]; obtain ⟨q1, q2⟩ := (zu_le hN).mpr q; rw [if_neg q1, if_neg q2]
  · rw [if_neg q]
    by_cases q1 : u < nI 0
    · rw [if_pos q1]
    · rw [if_neg q1, if_pos (Decidable.byContradiction fun z => q ((zu_le hN).mp ⟨q1, z⟩))]
theorem q9_rng2 {α : Type} {u : Int32} {N : Nat} (hN : N < 2 ^ 31) (a b : α) : (if u < nI 0 then a else if u < nI N then b else a) = if (zu u N).isSome = true then b else a := by
  rw [← q9_rng hN]
  by_cases q1 : u < nI 0
  · rw [if_pos q1, if_pos q1]
  · rw [if_neg q1, if_neg q1]
    have : (nI N ≤ u) ↔ ¬ u < nI N := by rw [fa_le, fa_lt]; omega
    by_cases q : u < nI N
    · rw [if_pos q, if_neg (fun z => this.mp z q)]
    · rw [if_neg q, if_pos (this.mpr q)]
theorem q9_isText (F : Nat) (u : Int32) (C : zz_M) : pX9_isText F u C = some (zb (zu u 3).isSome) := by
  unfold pX9_isText
  simp only [zl_lit, zz_lt]
  rw [q9_rng (by omega)]
  cases (zu u 3).isSome <;> rfl
theorem q9_isMoment (F : Nat) (u : Int32) : pX9_isMoment F u = some (zb (zu u 96).isSome) := by
  unfold pX9_isMoment
  simp only [zl_lit, zz_lt]
  rw [q9_rng (by omega)]
  cases (zu u 96).isSome <;> rfl
theorem q9_isEither (F : Nat) (u : Int32) : pX9_isEither F u = some (zb (zu u 2).isSome) := by
  unfold pX9_isEither
  simp only [zl_lit, zz_lt]
  cases q : zu u 2 with
  | some k =>
    obtain ⟨h1, h2⟩ := zu_S q
    subst h2
    rcases (show k = 0 ∨ k = 1 by omega) with rfl | rfl <;> rfl
  | none =>
    rw [if_neg (fun e => by rw [e, zu_nI (by omega) (by omega)] at q; cases q), if_neg (fun e => by rw [e, zu_nI (by omega) (by omega)] at q; cases q)]
    rfl
theorem zl_l2i (x : Nat) : (lN x).toInt32 = nI x := by
  apply Int32.toBitVec_inj.1
  show BitVec.signExtend 32 (BitVec.ofNat 64 x) = BitVec.ofNat 32 x
  apply BitVec.eq_of_getLsbD_eq
  intro i hi
  rw [BitVec.getLsbD_signExtend, BitVec.getLsbD_ofNat, BitVec.getLsbD_ofNat]
  simp [hi, show i < 64 by omega]
theorem q9_halfOf (F : Nat) {v j : Nat} (hv : v < 2 ^ 36) (hj : j < 2) : pX9_halfOf F (lN v) (nI j) = some (if j = 0 then nI (v % 2 ^ 18) else nI (v / 2 ^ 18)) := by
  unfold pX9_halfOf
  have e : nI j * 18 = nI (j * 18) := by rcases (show j = 0 ∨ j = 1 by omega) with rfl | rfl <;> rfl
  rw [e]
  unfold zz_lushr
  rw [wb_shr (by omega) (by omega), zl_l2i, show (262143 : Int32) = nI (2 ^ 18 - 1) from rfl, fa_mask]
  rcases (show j = 0 ∨ j = 1 by omega) with rfl | rfl
  · simp
  · rw [if_neg (by decide), Nat.mod_eq_of_lt (by omega)]
theorem q9_isThief (F : Nat) {C S : zz_M} (p : p9 C S) (u : Int32) : pX9_isThief F u C = some (zb (zu u (cT S)).isSome) := by
  obtain ⟨-, -, -, -, -, -, t1, t2⟩ := p
  have := t2.1
  unfold pX9_isThief
  simp only [zl_lit, zz_lt]
  rw [t1, q9_rng (by omega)]
  cases (zu u (cT S)).isSome <;> rfl
theorem q9_fault (F : Nat) {C S : zz_M} (p : p9 C S) (u : Int32) : pX9_fault F u C = some (a_fault S u) := by
  unfold pX9_fault a_fault
  rw [q9_isText]
  simp only [zl_lit, zz_lt, zz_b1, zb0]
  cases q : zu u 3 with
  | none => rfl
  | some k =>
    obtain ⟨h1, h2⟩ := zu_S q
    subst h2
    simp (disch := omega) only [zl_in, nI_clamp, Option.isSome, zo_S]
    rw [if_neg (by decide), if_pos h1, p.2.2.1 k h1]
theorem q9_cell (F : Nat) {C S : zz_M} (p : p9 C S) (u : Int32) : pX9_cell F u C = some (a_cell S u) := by
  unfold pX9_cell a_cell
  simp only [zl_lit, zz_lt]
  rw [q9_rng2 (by omega)]
  obtain ⟨-, -, -, -, ⟨w1, -, -, w4⟩, -⟩ := p
  have hn := cN_le S
  cases q : zu u 36 with
  | none => rfl
  | some k =>
    obtain ⟨h1, h2⟩ := zu_S q
    subst h2
    rw [w1]
    simp (disch := omega) only [zl_in, nI_clamp, Option.isSome, zo_S, nI_leI]
    rw [if_pos trivial]
    by_cases q2 : k < cN S
    · rw [if_neg (by omega), if_pos h1, if_pos q2, w4 k q2]
    · rw [if_pos (by omega), if_neg q2]
theorem q9_beat (F : Nat) {C S : zz_M} (p : p9 C S) (u : Int32) : pX9_beat F u C = some (a_beat S u) := by
  unfold pX9_beat a_beat
  simp only [zl_lit, zz_lt]
  rw [q9_rng2 (by omega)]
  obtain ⟨-, -, -, -, -, ⟨b1, b2⟩, -⟩ := p
  have hm := b2.1
  cases q : zu u 24 with
  | none => rfl
  | some k =>
    obtain ⟨h1, h2⟩ := zu_S q
    subst h2
    rw [b1]
    simp (disch := omega) only [zl_in, nI_clamp, Option.isSome, zo_S, nI_leI]
    rw [if_pos trivial]
    by_cases q2 : k < cM S
    · rw [if_neg (by omega), if_pos h1, if_pos q2, (b2.2 k q2).1]
    · rw [if_pos (by omega), if_neg q2]
theorem q9_thief (F : Nat) {C S : zz_M} (p : p9 C S) (u v : Int32) : pX9_thief F u v C = some (a_thief S u v) := by
  unfold pX9_thief a_thief
  rw [q9_isThief F p, q9_isEither]
  simp only [zl_lit, zz_lt, zz_b1, zb0]
  obtain ⟨-, -, -, -, -, -, -, t2⟩ := p
  have hm := t2.1
  cases q : zu u (cT S) with
  | none => rfl
  | some k =>
    obtain ⟨h1, h2⟩ := zu_S q
    subst h2
    cases q2 : zu v 2 with
    | none => rfl
    | some j =>
      obtain ⟨h3, h4⟩ := zu_S q2
      subst h4
      have hk := t2.2 k h1
      simp (disch := omega) only [zl_in, nI_clamp, nI_eq, Option.isSome, zo_S]
      simp only [if_pos (show k < 8 by omega)]
      rw [if_neg (by decide), if_neg (by decide), hk.1, hk.2.2.1]
      split <;> rfl
theorem cV_lt (S : zz_M) (t : Nat) : cV S t < 2 ^ 36 := sp_see_lt (cK_W S) _ (fun c q => (sp_pl_ok (cK_W S) t c q).1)
theorem q9_at (F : Nat) {C S : zz_M} (h : ok10 S) (p : p9 C S) (n : zz_gI C 25 = 0 → n9 C S) (hF : 100 ≤ F) (u : Int32) : ∃ D, pX9_at F u C = some (a_at S u, D) ∧ qd9 C D S := by
  unfold pX9_at a_at
  rw [q9_isMoment]
  simp only [zl_lit, zz_b1, zb0]
  cases q : zu u 96 with
  | none => exact ⟨C, rfl, Or.inl rfl⟩
  | some k =>
    obtain ⟨h1, h2⟩ := zu_S q
    subst h2
    obtain ⟨D, e1, e2, e3⟩ := q9_settled F h p n hF
    rw [e1]
    simp (disch := omega) only [zz_b1, zl_in, nI_clamp, Option.isSome, zo_S]
    rw [if_neg (by decide), if_pos h1, e2.2.1.2.2.1 k h1]
    exact ⟨D, rfl, Or.inr e2⟩
theorem q9_sees (F : Nat) {C S : zz_M} (h : ok10 S) (p : p9 C S) (n : zz_gI C 25 = 0 → n9 C S) (hF : 100 ≤ F) (u v : Int32) : ∃ D, pX9_sees F u v C = some (a_sees S u v, D) ∧ qd9 C D S := by
  unfold pX9_sees a_sees
  rw [q9_isMoment, q9_isEither]
  simp only [zl_lit, zz_b1, zz_lt, zb0]
  cases q : zu u 96 with
  | none => exact ⟨C, rfl, Or.inl rfl⟩
  | some k =>
    obtain ⟨h1, h2⟩ := zu_S q
    subst h2
    cases q2 : zu v 2 with
    | none => exact ⟨C, rfl, Or.inl rfl⟩
    | some j =>
      obtain ⟨h3, h4⟩ := zu_S q2
      subst h4
      obtain ⟨D, e1, e2, e3⟩ := q9_settled F h p n hF
      rw [e1]
      simp (disch := omega) only [zz_b1, zl_in, nI_clamp, Option.isSome, zo_S]
      rw [if_neg (by decide), if_neg (by decide), if_pos h1, e2.2.1.2.2.2 k h1, q9_halfOf F (cV_lt S k) h3]
      exact ⟨D, rfl, Or.inr e2⟩
theorem q9_seen (F : Nat) {C S : zz_M} (h : ok10 S) (p : p9 C S) (n : zz_gI C 25 = 0 → n9 C S) (hF : 100 ≤ F) (u v : Int32) : ∃ D, pX9_seen F u v C = some (a_seen S u v, D) ∧ qd9 C D S := by
  unfold pX9_seen a_seen
  have hn := cN_le S
  have e0 : pX8_has F u (zz_gI C 3) (zz_gI C 4) (zz_gL C 0 0) (zz_gA C 5) = some (zb (zu u (cN S)).isSome) := by
    rw [p.2.2.2.2.1.1]
    unfold pX8_has
    simp only [zl_lit, zz_lt]
    rw [q9_rng (by omega)]
    cases (zu u (cN S)).isSome <;> rfl
  rw [e0, q9_isEither]
  simp only [zl_lit, zz_b1, zz_lt, zb0]
  cases q : zu u (cN S) with
  | none => exact ⟨C, rfl, Or.inl rfl⟩
  | some k =>
    obtain ⟨h1, h2⟩ := zu_S q
    subst h2
    cases q2 : zu v 2 with
    | none => exact ⟨C, rfl, Or.inl rfl⟩
    | some j =>
      obtain ⟨h3, h4⟩ := zu_S q2
      subst h4
      obtain ⟨D, e1, e2, e3⟩ := q9_settled F h p n hF
      rw [e1]
      have hv := e2.2.1.2.2.2
      simp (disch := omega) only [zz_b1, nI_eq, Option.isSome, zo_S]
      rw [if_neg (by decide), if_neg (by decide), q2_momentsSeen F hv (by omega) hF, q2_longestUnseen F hv (by omega) hF]
      refine ⟨D, ?_, Or.inr e2⟩
      simp only [zz_b1]
      split <;> rfl
theorem q9_takes (F : Nat) {C S : zz_M} (h : ok10 S) (p : p9 C S) (n : zz_gI C 25 = 0 → n9 C S) (hF : 100 ≤ F) (u : Int32) : ∃ D, pX9_takes F u C = some (a_takes S u, D) ∧ qd9 C D S := by
  unfold pX9_takes a_takes
  rw [q9_isThief F p]
  simp only [zl_lit, zz_b1, zb0]
  cases q : zu u (cT S) with
  | none => exact ⟨C, rfl, Or.inl rfl⟩
  | some k =>
    obtain ⟨h1, h2⟩ := zu_S q
    subst h2
    obtain ⟨D, e1, e2, e3⟩ := q9_settled F h p n hF
    rw [e1]
    have hv := e2.2.1.2.2.2
    obtain ⟨-, -, -, -, ⟨w1, -, -, w4⟩, -, t1, t2⟩ := e3
    simp only [zz_b1, Option.isSome, zo_S]
    rw [if_neg (by decide), w1, t1, q7_takesBehind F (cN_le S) t2 hv h1 hF, sp_takes_cg w4]
    exact ⟨D, rfl, Or.inr e2⟩
