/-! what a call leaves: the class beside the reference -/
theorem sm_Tm {S T : zz_M} (h : sm S T) : sTm T = sTm S := by
  have e1 : sT1 T = sT1 S := by funext i; unfold sT1; rw [sm_Lw h, sm_lost h]
  have e2 : sT2 T = sT2 S := by funext i j; unfold sT2; rw [sm_Lw h, sm_lost h]
  unfold sTm; rw [e1, e2, sm_M h]
theorem sm_p9 {C S T : zz_M} (h : sm S T) (p : p9 C S) : p9 C T := by
  unfold p9 at p ⊢
  rw [sm_tL h, sm_tB h, sm_F h, sm_St h, sm_Gi h, sm_Si h, sm_Fo h, sm_N h, sm_W h, sm_K h, sm_M h, sm_B h, sm_T h, sm_Wt h, sm_Nd h]
  exact p
theorem sm_r9 {C S T : zz_M} (h : sm S T) (r : r9 C S) : r9 C T := by
  refine ⟨sm_p9 h r.1, fun z => ?_⟩
  obtain ⟨n, t⟩ := r.2 z
  have eg : cSg T = cSg S := by unfold cSg; rw [sm_Si h, sm_Fo h]
  unfold n9 at n ⊢
  unfold t9 at t ⊢
  rw [sm_N h, sm_W h, sm_K h, sm_Gi h, eg, sm_P h, sm_V h, sm_Tm h]
  exact ⟨n, t⟩
/-! sheets -/
def cTh (S : zz_M) (s : Nat) : Bool := decide (zz_gA S 15 s = nI 1)
def cFm (S : zz_M) (s : Nat) : Nat := Int32.toNatClampNeg (zz_gA S 16 s)
def cSz (S : zz_M) (s : Nat) : Nat := Int32.toNatClampNeg (zz_gA S 17 s)
def hk10 (S : zz_M) : Prop := ∀ s, s < 4 → zz_gA S 15 s = zb (cTh S s) ∧ zz_gA S 16 s = nI (cFm S s) ∧ cFm S s ≤ 2 ∧ zz_gA S 17 s = nI (cSz S s) ∧ cSz S s ≤ 60
def h9 (C S : zz_M) : Prop := hk10 S ∧ ∀ s, s < 4 → zz_gI C (8 + 3 * s) = zb (!cTh S s) ∧ zz_gI C (9 + 3 * s) = nI (cFm S s) ∧ zz_gI C (10 + 3 * s) = nI (cSz S s) ∧ ∀ i, i < 60 → zz_gA C (11 + s) i = zz_gA S 18 (60 * s + i)
def v9 (C S : zz_M) : Prop := zz_gI C 24 = zz_gI S 13
/-- the class stands beside the reference -/
def R9 (C S : zz_M) : Prop := r9 C S ∧ m9 C S ∧ h9 C S ∧ v9 C S
theorem h9_ke {C D S : zz_M} (h : ke C D) (k : h9 C S) : h9 D S := by
  refine ⟨k.1, fun s hs => ?_⟩
  rw [h.1 (8 + 3 * s) (by omega) (by omega), h.1 (9 + 3 * s) (by omega) (by omega), h.1 (10 + 3 * s) (by omega) (by omega), h.2.2 (11 + s) (by omega) (by omega)]
  exact k.2 s hs
theorem v9_ke {C D S : zz_M} (h : ke C D) (k : v9 C S) : v9 D S := by unfold v9 at k ⊢; rw [h.2.1]; exact k
theorem R9_ke {C D S : zz_M} (R : R9 C S) (r : r9 D S) (h : ke C D) : R9 D S := ⟨r, m9_ke h R.2.1, h9_ke h R.2.2.1, v9_ke h R.2.2.2⟩
theorem sm_Ak {S T : zz_M} (h : sm S T) {k : Nat} (hk : 12 ≤ k) : zz_gA T k = zz_gA S k := h.1 k (by omega) (by omega) (by omega) (by omega) (by omega) (by omega) (by omega) (by omega) (by omega) (by omega)
theorem sm_I13 {S T : zz_M} (h : sm S T) : zz_gI T 13 = zz_gI S 13 := h.2 13 (by decide) (by decide) (by decide) (by decide) (by decide) (by decide) (by decide) (by decide)
theorem sm_hk {S T : zz_M} (h : sm S T) (k : hk10 S) : hk10 T := by
  unfold hk10 cTh cFm cSz at k ⊢
  rw [sm_Ak h (k := 15) (by omega), sm_Ak h (k := 16) (by omega), sm_Ak h (k := 17) (by omega)]
  exact k
theorem sm_h9 {C S T : zz_M} (h : sm S T) (k : h9 C S) : h9 C T := by
  refine ⟨sm_hk h k.1, ?_⟩
  have k2 := k.2
  unfold cTh cFm cSz at k2 ⊢
  rw [sm_Ak h (k := 15) (by omega), sm_Ak h (k := 16) (by omega), sm_Ak h (k := 17) (by omega), sm_Ak h (k := 18) (by omega)]
  exact k2
theorem sm_R9 {C S T : zz_M} (h : sm S T) (R : R9 C S) : R9 C T := ⟨sm_r9 h R.1, m9_sm h R.2.1, sm_h9 h R.2.2.1, by
  have := R.2.2.2
  unfold v9 at this ⊢
  rw [sm_I13 h]; exact this⟩
theorem R9_14 {C S : zz_M} {w : Nat → Int32} (R : R9 C (zz_sA S 14 w)) : R9 C S := R
theorem sa_R9 {C S T : zz_M} (h : sa S T) (R : R9 C S) : R9 C T := R9_14 (sm_R9 h R)
/-! only missed, sheets, the finding change -/
def kh (C D : zz_M) : Prop := (∀ j, j < 7 ∨ 20 ≤ j → j ≠ 24 → zz_gI D j = zz_gI C j) ∧ (∀ j, j < 9 ∨ 15 ≤ j → zz_gA D j = zz_gA C j) ∧ ∀ j, zz_gL D j = zz_gL C j
theorem kh_rfl (C : zz_M) : kh C C := ⟨fun _ _ _ => rfl, fun _ _ => rfl, fun _ => rfl⟩
theorem kh_I {C D : zz_M} {k : Nat} {x : Int32} (h : kh C D) (hk : 7 ≤ k ∧ k ≤ 19 ∨ k = 24) : kh C (zz_sI D k x) := ⟨fun j a b => by rw [zg_II, if_neg (by omega)]; exact h.1 j a b, h.2.1, h.2.2⟩
theorem kh_A {C D : zz_M} {k : Nat} {x : Nat → Int32} (h : kh C D) (hk : 9 ≤ k ∧ k ≤ 14) : kh C (zz_sA D k x) := ⟨h.1, fun j a => by rw [zg_AA, if_neg (by omega)]; exact h.2.1 j a, h.2.2⟩
theorem r9_kh {C D S : zz_M} (h : kh C D) (r : r9 C S) : r9 D S := by
  obtain ⟨h1, h2, h3⟩ := h
  have hp : p9 D S := by
    have p := r.1
    unfold p9 at p ⊢
    rw [h1 3 (by omega) (by decide), h1 4 (by omega) (by decide), h1 5 (by omega) (by decide), h1 6 (by omega) (by decide), h2 3 (by omega), h2 4 (by omega), h2 5 (by omega), h2 6 (by omega), h2 7 (by omega), h2 8 (by omega), h3 0]
    obtain ⟨p1, p2, p3⟩ := p
    exact ⟨fun k hk => by rw [h1 k (by omega) (by omega)]; exact p1 k hk, fun k j hk hj => by rw [h2 k (by omega)]; exact p2 k j hk hj, p3⟩
  refine ⟨hp, fun z => ?_⟩
  rw [h1 25 (by omega) (by decide)] at z
  obtain ⟨n, t⟩ := r.2 z
  unfold n9 at n ⊢
  unfold t9 at t ⊢
  rw [h1 20 (by omega) (by decide), h1 26 (by omega) (by decide), h2 15 (by omega), h2 16 (by omega), h2 17 (by omega), h3 1, h3 2]
  exact ⟨n, t⟩
/-! what was missed -/
def msS (S : zz_M) (u v : Int32) : zz_M := zz_sI (zz_sA (zz_sA S 12 (upd (zz_gA S 12) (cQ S) u)) 13 (upd (zz_gA S 13) (cQ S) v)) 12 (nI (cQ S + 1))
def a_missed (S : zz_M) (u v : Int32) : Int32 := zo (-nI 2) (fun _ => zo (-nI 2) (fun _ => if cQ S = 8 then -nI 4 else nI (cQ S + 1)) (zu v 2)) (zu u 36)
def s_missed (S : zz_M) (u v : Int32) : zz_M := zo S (fun _ => zo S (fun _ => if cQ S = 8 then S else msS S u v) (zu v 2)) (zu u 36)
theorem q10_missed (F : Nat) {S : zz_M} (hm : mk10 S) (u v : Int32) : pX10_missed F u v S = some (a_missed S u v, s_missed S u v) := by
  obtain ⟨m1, m2, -⟩ := hm
  unfold pX10_missed a_missed s_missed
  simp only [zl_lit, zz_lt]
  rw [q10_inN F u (by omega), q10_inN F v (by omega), m1]
  simp only [zz_b1, zb0]
  cases q : zu u 36 with
  | none => rfl
  | some c =>
    cases q2 : zu v 2 with
    | none => rfl
    | some b =>
      have e1 : ∀ x, zz_gI (zz_sA S 12 x) 12 = nI (cQ S) := fun _ => m1
      have e2 : ∀ x y, zz_gI (zz_sA (zz_sA S 12 x) 13 y) 12 = nI (cQ S) := fun _ _ => m1
      simp only [e1, e2]
      simp (disch := omega) only [Option.isSome, zo_S, nI_eq, zl_in, nI_clamp, nI_add]
      rw [if_neg (by decide), if_neg (by decide)]
      by_cases q8 : cQ S = 8
      · rw [if_pos q8, if_pos q8, if_pos q8]
      · simp only [if_neg q8, if_pos (show cQ S < 8 by omega)]
        rfl
theorem mk_ms {S : zz_M} {u v : Int32} {c b : Nat} (hm : mk10 S) (h8 : ¬ cQ S = 8) (hc : u = nI c) (hc2 : c < 36) (hb : v = nI b) (hb2 : b < 2) : mk10 (msS S u v) ∧ cQ (msS S u v) = cQ S + 1 := by
  obtain ⟨m1, m2, m3⟩ := hm
  have e : cQ (msS S u v) = cQ S + 1 := by
    show Int32.toNatClampNeg (nI (cQ S + 1)) = cQ S + 1
    exact nI_clamp (by omega)
  refine ⟨⟨by rw [e]; rfl, by rw [e]; omega, fun j hj => ?_⟩, e⟩
  rw [e] at hj
  unfold cQc cQb
  rw [show zz_gA (msS S u v) 12 = upd (zz_gA S 12) (cQ S) u from rfl, show zz_gA (msS S u v) 13 = upd (zz_gA S 13) (cQ S) v from rfl]
  by_cases q : j = cQ S
  · subst q
    rw [pk_us, pk_us, hc, hb, nI_clamp (by omega)]
    refine ⟨rfl, hc2, ?_⟩
    rcases (show b = 0 ∨ b = 1 by omega) with rfl | rfl <;> rfl
  · rw [pk_un q, pk_un q]
    exact m3 j (by omega)
theorem mk_missed {S : zz_M} {u v : Int32} (hm : mk10 S) : mk10 (s_missed S u v) := by
  unfold s_missed
  cases q : zu u 36 with
  | none => exact hm
  | some c =>
    cases q2 : zu v 2 with
    | none => exact hm
    | some b =>
      rw [zo_S, zo_S]
      by_cases q8 : cQ S = 8
      · rw [if_pos q8]; exact hm
      · rw [if_neg q8]
        obtain ⟨h1, h2⟩ := zu_S q
        obtain ⟨h3, h4⟩ := zu_S q2
        exact (mk_ms hm q8 h2 h1 h4 h3).1
/-- three things of the class hold what was missed -/
def mq (x : Int32) (y z : Nat → Int32) (S : zz_M) : Prop := mk10 S ∧ x = nI (cQ S) ∧ ∀ j, j < cQ S → y j = zz_gA S 12 j ∧ z j = zz_gA S 13 j
theorem m9_mq (C S : zz_M) : m9 C S = mq (zz_gI C 7) (zz_gA C 9) (zz_gA C 10) S := rfl
theorem q1_mayBe (F : Nat) (u v : Int32) : pX1_mayBe F u v = some (zb ((zu u 36).isSome && (zu v 2).isSome)) := by
  unfold pX1_mayBe
  simp only [zl_lit, zz_lt]
  rw [q9_rng (by omega), q9_isEither]
  simp only [zz_b1, zb0]
  cases (zu u 36).isSome <;> cases (zu v 2).isSome <;> rfl
theorem q1_add (F : Nat) {x : Int32} {y z : Nat → Int32} {S : zz_M} {u v : Int32} {c b : Nat} (m : mq x y z S) (hc : zu u 36 = some c) (hb : zu v 2 = some b) : ∃ x' y' z', pX1_add F u v x y z = some (zb (decide (¬ cQ S = 8)), x', y', z') ∧ mq x' y' z' (s_missed S u v) ∧ (¬ cQ S = 8 → x' = nI (cQ S + 1)) ∧ (cQ S = 8 → x' = x ∧ y' = y ∧ z' = z) := by
  obtain ⟨m0, m1, m2⟩ := m
  have h8 := m0.2.1
  obtain ⟨h1, h2⟩ := zu_S hc
  obtain ⟨h3, h4⟩ := zu_S hb
  unfold pX1_add s_missed
  rw [m1]
  simp (disch := omega) only [zl_lit, zz_lt, nI_ltI, zl_in, nI_clamp, nI_add]
  rw [hc, hb, zo_S, zo_S]
  by_cases q8 : cQ S = 8
  · rw [if_neg (by omega), if_pos q8, decide_eq_false (by omega)]
    exact ⟨_, _, _, rfl, ⟨m0, rfl, m2⟩, fun z => absurd q8 z, fun _ => ⟨rfl, rfl, rfl⟩⟩
  · rw [if_pos (by omega), if_pos (by omega), if_pos (by omega), if_neg q8, decide_eq_true q8]
    obtain ⟨k1, k2⟩ := mk_ms m0 q8 h2 h1 h4 h3
    refine ⟨_, _, _, rfl, ⟨k1, by rw [k2], fun j hj => ?_⟩, fun _ => rfl, fun z => absurd z q8⟩
    rw [k2] at hj
    rw [show zz_gA (msS S u v) 12 = upd (zz_gA S 12) (cQ S) u from rfl, show zz_gA (msS S u v) 13 = upd (zz_gA S 13) (cQ S) v from rfl]
    by_cases q : j = cQ S
    · subst q; rw [pk_us, pk_us, pk_us, pk_us]; exact ⟨rfl, rfl⟩
    · rw [pk_un q, pk_un q, pk_un q, pk_un q]; exact m2 j (by omega)
theorem r9_ms {C S : zz_M} {u v : Int32} (r : r9 C S) : r9 C (msS S u v) := r
theorem h9_ms {C S : zz_M} {u v : Int32} (r : h9 C S) : h9 C (msS S u v) := r
theorem v9_ms {C S : zz_M} {u v : Int32} (r : v9 C S) : v9 C (msS S u v) := r
theorem ok_ms {S : zz_M} {u v : Int32} (r : ok10 S) : ok10 (msS S u v) := r
theorem s_missed_c {P : zz_M → Prop} {S : zz_M} (u v : Int32) (h : P S) (h2 : P (msS S u v)) : P (s_missed S u v) := by
  unfold s_missed
  cases zu u 36 with
  | none => exact h
  | some c =>
    cases zu v 2 with
    | none => exact h
    | some b => rw [zo_S, zo_S]; split <;> assumption
/-- missed kept anew in the class -/
def miC (C : zz_M) (x : Int32) (y z : Nat → Int32) : zz_M := zz_sA (zz_sA (zz_sI C 7 x) 9 y) 10 z
theorem kh_mi (C : zz_M) (x : Int32) (y z : Nat → Int32) : kh C (miC C x y z) := kh_A (kh_A (kh_I (kh_rfl C) (by decide)) (by decide)) (by decide)
theorem h9_mi {C S : zz_M} {x : Int32} {y z : Nat → Int32} (k : h9 C S) : h9 (miC C x y z) S := by
  refine ⟨k.1, fun s hs => ?_⟩
  unfold miC
  rw [zg_IA, zg_IA, zg_II, if_neg (by omega), zg_IA, zg_IA, zg_II, if_neg (by omega), zg_IA, zg_IA, zg_II, if_neg (by omega), zg_AA, if_neg (by omega), zg_AA, if_neg (by omega), zg_AI]
  exact k.2 s hs
theorem R9_mi {C S T : zz_M} {x : Int32} {y z : Nat → Int32} (R : R9 C S) (hm : mq x y z T) (h1 : r9 C S → r9 C T) (h2 : h9 C S → h9 C T) (h3 : v9 C S → v9 C T) : R9 (miC C x y z) T := ⟨r9_kh (kh_mi C x y z) (h1 R.1), hm, h9_mi (h2 R.2.2.1), h3 R.2.2.2⟩
theorem miC_self (C : zz_M) : miC C (zz_gI C 7) (zz_gA C 9) (zz_gA C 10) = C := by
  unfold miC
  rw [ss_I, ss_A, ss_A]
theorem q9_missed (F : Nat) {C S : zz_M} (R : R9 C S) (u v : Int32) : ∃ D, pX9_missed F u v C = some (a_missed S u v, D) ∧ R9 D (s_missed S u v) := by
  unfold pX9_missed
  simp only [zl_lit, zz_lt]
  rw [q1_mayBe]
  simp only [zz_b1, zb0]
  cases q : zu u 36 with
  | none =>
    have e1 : a_missed S u v = -nI 2 := by unfold a_missed; rw [q]; rfl
    have e2 : s_missed S u v = S := by unfold s_missed; rw [q]; rfl
    rw [e1, e2]; exact ⟨C, rfl, R⟩
  | some c =>
    cases q2 : zu v 2 with
    | none =>
      have e1 : a_missed S u v = -nI 2 := by unfold a_missed; rw [q, q2]; rfl
      have e2 : s_missed S u v = S := by unfold s_missed; rw [q, q2]; rfl
      rw [e1, e2]; exact ⟨C, rfl, R⟩
    | some b =>
      obtain ⟨x', y', z', f1, f2, f3, f4⟩ := q1_add F (x := zz_gI C 7) (y := zz_gA C 9) (z := zz_gA C 10) R.2.1 q q2
      rw [f1]
      simp only [zz_b4, zb0, Option.isSome, Bool.and_self]
      rw [if_neg (by decide)]
      refine ⟨miC C x' y' z', ?_, R9_mi R f2 (fun r => s_missed_c (P := fun T => r9 C T) u v r (r9_ms r)) (fun r => s_missed_c (P := fun T => h9 C T) u v r (h9_ms r)) (fun r => s_missed_c (P := fun T => v9 C T) u v r (v9_ms r))⟩
      unfold a_missed
      rw [q, q2, zo_S, zo_S]
      by_cases q8 : cQ S = 8
      · rw [if_pos (decide_eq_false (by omega)), if_pos q8]; rfl
      · rw [if_neg (by rw [decide_eq_true q8]; decide), if_neg q8]
        show some (x', _) = _
        rw [f3 q8]; rfl
def s_forget (S : zz_M) : zz_M := zz_sI S 12 (nI 0)
theorem q10_forget (F : Nat) {S : zz_M} (hm : mk10 S) : pX10_forget F S = some (nI (cQ S), s_forget S) := by
  unfold pX10_forget
  simp only [zz_lt]
  rw [hm.1]; rfl
theorem q9_forget (F : Nat) {C S : zz_M} (R : R9 C S) : ∃ D, pX9_forget F C = some (nI (cQ S), D) ∧ R9 D (s_forget S) := by
  unfold pX9_forget
  simp only [zz_lt]
  rw [R.2.1.2.1]
  have e : zz_sI C 7 0 = miC C (nI 0) (zz_gA C 9) (zz_gA C 10) := by
    unfold miC
    rw [show zz_gA C 9 = zz_gA (zz_sI C 7 (nI 0)) 9 from rfl, show zz_gA C 10 = zz_gA (zz_sI C 7 (nI 0)) 10 from rfl, ss_A, ss_A]; rfl
  rw [e]
  refine ⟨_, rfl, R9_mi R ⟨⟨rfl, by show (0 : Nat) ≤ 8; omega, fun j hj => absurd hj (by show ¬ j < 0; omega)⟩, rfl, fun j hj => absurd hj (by show ¬ j < 0; omega)⟩ (fun r => r) (fun r => r) (fun r => r)⟩
