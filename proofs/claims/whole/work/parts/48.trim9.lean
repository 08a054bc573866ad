/-! which steps are trimmed: the class -/
def sTb : Option (Nat × Option Nat) → Nat
  | none => 0
  | some (a, none) => 2 ^ a
  | some (a, some b) => 2 ^ a ||| 2 ^ b
def t9 (C S : zz_M) : Prop := zz_gI C 26 = -nI 1 ∨ zz_gI C 26 = nI (sTb (sTm S))
/-- all that the class holds of what lasts, and what it has worked out of it -/
def r9 (C S : zz_M) : Prop := p9 C S ∧ (zz_gI C 25 = 0 → n9 C S ∧ t9 C S)
/-- missed, sheets and the finding are as they were -/
def ke (C D : zz_M) : Prop := (∀ j, 7 ≤ j → j ≤ 19 → zz_gI D j = zz_gI C j) ∧ zz_gI D 24 = zz_gI C 24 ∧ ∀ j, 9 ≤ j → j ≤ 14 → zz_gA D j = zz_gA C j
theorem ke_rfl (C : zz_M) : ke C C := ⟨fun _ _ _ => rfl, rfl, fun _ _ _ => rfl⟩
theorem ke_tr {C D E : zz_M} (h : ke C D) (g : ke D E) : ke C E := ⟨fun j a b => (g.1 j a b).trans (h.1 j a b), g.2.1.trans h.2.1, fun j a b => (g.2.2 j a b).trans (h.2.2 j a b)⟩
theorem ke_ko {C D : zz_M} (h : ko C D) : ke C D := ⟨fun j a b => h.1 j (by omega), h.1 24 (by decide), fun j a b => h.2.1 j (by omega) (by omega)⟩
theorem ke_sc {C D : zz_M} (h : sc C D) : ke C D := ⟨fun j a b => h.1 j (by omega) (by omega) (by omega), h.1 24 (by decide) (by decide) (by decide), fun j a b => h.2.1 j (by omega) (by omega) (by omega)⟩
theorem r9_n {C S : zz_M} (r : r9 C S) : zz_gI C 25 = 0 → n9 C S := fun z => (r.2 z).1
theorem r9_st {C D S : zz_M} (r : r9 C S) (h : st9 C D S) : r9 D S ∧ ke C D ∧ n9 D S ∧ t9 D S := by
  obtain ⟨h1, h2, h3, h4, h5⟩ := h
  have ht : t9 D S := by
    by_cases q : zz_gI C 25 = 0
    · rw [h4 q]; exact (r.2 q).2
    · exact Or.inl (h5 q)
  exact ⟨⟨p9_sc h1 r.1, fun _ => ⟨h2, ht⟩⟩, ke_sc h1, h2, ht⟩
theorem r9_qd {C D S : zz_M} (r : r9 C S) (h : qd9 C D S) : r9 D S ∧ ke C D := by
  rcases h with h | h
  · rw [h]; exact ⟨r, ke_rfl C⟩
  · have := r9_st r h; exact ⟨this.1, this.2.1⟩
theorem t9_ko {C D S : zz_M} (h : ko C D) (t : t9 C S) : t9 D S := by unfold t9 at t ⊢; rw [h.1 26 (by decide)]; exact t
theorem r9_ko {C D S : zz_M} (r : r9 C S) (h : ko C D) : r9 D S := ⟨p9_ko h r.1, fun z => by
  rw [h.1 25 (by decide)] at z
  exact ⟨n9_ko h (r.2 z).1, t9_ko h (r.2 z).2⟩⟩
theorem q9_set9 (F : Nat) {C S : zz_M} (h : ok10 S) (r : r9 C S) (hF : 100 ≤ F) : ∃ D, pX9_settle F C = some D ∧ r9 D S ∧ ke C D ∧ n9 D S ∧ t9 D S ∧ zz_gI D 25 = 0 := by
  obtain ⟨D, e1, e2, e3⟩ := q9_settled F h r.1 (r9_n r) hF
  obtain ⟨f1, f2, f3, f4⟩ := r9_st r e2
  exact ⟨D, e1, f1, f2, f3, f4, e2.2.2.1⟩
theorem q9_tm3 (F : Nat) {S : zz_M} (h : ok10 S) (hF : 100 ≤ F) {i : Nat} (hi : i < 24) (kL : Int32 → zz_M → Option (Int32 × zz_M)) : ∀ (f k j : Nat) (C : zz_M), p9 C S → n9 C S → j + k = cM S → k < f →
    (sp_ff (sT2 S i) k j = none → ∃ D, pX9_fewestLeftOut_L72_11 F (nI (a_lost S)) (nI i) kL f (nI j) C = kL (nI (i + 1)) D ∧ ko C D) ∧
    (∀ b, sp_ff (sT2 S i) k j = some b → ∃ D, pX9_fewestLeftOut_L72_11 F (nI (a_lost S)) (nI i) kL f (nI j) C = some (nI (2 ^ i ||| 2 ^ b), D) ∧ ko C D) := by
  intro f
  have hm := cM_le h
  have ht := cT_le h
  induction f with
  | zero => intro k i C _ _ _ h; omega
  | succ f ih =>
    intro k j C p n hk hf
    have g5 : zz_gI C 5 = nI (cM S) := p.2.2.2.2.2.1.1
    rw [pX9_fewestLeftOut_L72_11, g5]
    simp (disch := omega) only [zl_lit, zz_lt, nI_leI, nI_add]
    cases k with
    | zero =>
      rw [if_pos (by omega), sp_ff]
      exact ⟨fun _ => ⟨C, rfl, ko_rfl C⟩, fun b hb => by cases hb⟩
    | succ k =>
      obtain ⟨D, f1, f2⟩ := q9_lostWithout F h p n hF (nI i) (nI j)
      rw [if_neg (by omega), f1]
      simp only [zz_b2]
      have hl : a_lost S ≤ 8 := sLost_le ht _ _ _
      have hw : sLw S (nI i) (nI j) ≤ 8 := sLost_le ht _ _ _
      simp (disch := omega) only [nI_leI]
      obtain ⟨h1, h2⟩ := ih k (j + 1) D (p9_ko f2 p) (n9_ko f2 n) (by omega) (by omega)
      rw [sp_ff]
      by_cases q : a_lost S ≤ sLw S (nI i) (nI j)
      · rw [if_pos q, if_neg (by unfold sT2; rw [decide_eq_true_eq]; omega)]
        exact ⟨fun z => (let ⟨E, x, y⟩ := h1 z; ⟨E, x, ko_tr f2 y⟩), fun b z => (let ⟨E, x, y⟩ := h2 b z; ⟨E, x, ko_tr f2 y⟩)⟩
      · rw [if_neg q, if_pos (by unfold sT2; rw [decide_eq_true_eq]; omega)]
        refine ⟨fun z => (by cases z), fun b hb => ?_⟩
        cases hb
        refine ⟨D, ?_, f2⟩
        rw [zl_ishl1 i (by omega), zl_ishl1 j (by omega), fa_or]
theorem q9_tm2 (F : Nat) {S : zz_M} (h : ok10 S) (hF : 100 ≤ F) : ∀ (f k i : Nat) (C : zz_M), p9 C S → n9 C S → i + k = cM S → k < f →
    (sp_fp (sT2 S) k i = none → ∃ D, pX9_fewestLeftOut_L57_7 F (nI (a_lost S)) f (nI i) C = some (nI 0, D) ∧ ko C D) ∧
    (∀ a b, sp_fp (sT2 S) k i = some (a, b) → ∃ D, pX9_fewestLeftOut_L57_7 F (nI (a_lost S)) f (nI i) C = some (nI (2 ^ a ||| 2 ^ b), D) ∧ ko C D) := by
  intro f
  have hm := cM_le h
  induction f with
  | zero => intro k i T _ _ _ h; omega
  | succ f ih =>
    intro k i C p n hk hf
    have g5 : zz_gI C 5 = nI (cM S) := p.2.2.2.2.2.1.1
    rw [pX9_fewestLeftOut_L57_7, g5]
    simp (disch := omega) only [zl_lit, zz_lt, nI_leI, nI_add]
    cases k with
    | zero =>
      rw [if_pos (by omega), sp_fp]
      exact ⟨fun _ => ⟨C, rfl, ko_rfl C⟩, fun a b hb => by cases hb⟩
    | succ k =>
      rw [if_neg (by omega), sp_fp]
      obtain ⟨r1, r2⟩ := q9_tm3 F h hF (show i < 24 by omega) (fun b0 b1 => pX9_fewestLeftOut_L57_7 F (nI (a_lost S)) f b0 b1) F k (i + 1) C p n (by omega) (by omega)
      cases q : sp_ff (sT2 S i) k (i + 1) with
      | none =>
        obtain ⟨D, u1, u2⟩ := r1 q
        rw [u1]
        obtain ⟨h1, h2⟩ := ih k (i + 1) D (p9_ko u2 p) (n9_ko u2 n) (by omega) (by omega)
        exact ⟨fun z => (let ⟨E, x, y⟩ := h1 z; ⟨E, x, ko_tr u2 y⟩), fun a b z => (let ⟨E, x, y⟩ := h2 a b z; ⟨E, x, ko_tr u2 y⟩)⟩
      | some b =>
        obtain ⟨D, u1, u2⟩ := r2 b q
        rw [u1]
        refine ⟨fun z => (by cases z), fun a b' hb => ?_⟩
        cases hb
        exact ⟨D, rfl, u2⟩
theorem q9_tm1 (F : Nat) {S : zz_M} (h : ok10 S) (hF : 100 ≤ F) : ∀ (f k i : Nat) (C : zz_M), p9 C S → n9 C S → i + k = cM S → k < f →
    (sp_ff (sT1 S) k i = none → ∃ D, pX9_fewestLeftOut_L24_4 F (nI (a_lost S)) f (nI i) C = pX9_fewestLeftOut_L57_7 F (nI (a_lost S)) F (nI 0) D ∧ ko C D) ∧
    (∀ a, sp_ff (sT1 S) k i = some a → ∃ D, pX9_fewestLeftOut_L24_4 F (nI (a_lost S)) f (nI i) C = some (nI (2 ^ a), D) ∧ ko C D) := by
  intro f
  have hm := cM_le h
  have ht := cT_le h
  induction f with
  | zero => intro k i C _ _ _ h; omega
  | succ f ih =>
    intro k i C p n hk hf
    have g5 : zz_gI C 5 = nI (cM S) := p.2.2.2.2.2.1.1
    rw [pX9_fewestLeftOut_L24_4, g5]
    simp (disch := omega) only [zl_lit, zz_lt, nI_leI, nI_add]
    cases k with
    | zero =>
      rw [if_pos (by omega), sp_ff]
      exact ⟨fun _ => ⟨C, rfl, ko_rfl C⟩, fun b hb => by cases hb⟩
    | succ k =>
      obtain ⟨D, f1, f2⟩ := q9_lostWithout F h p n hF (nI i) (-nI 1)
      rw [if_neg (by omega), f1]
      simp only [zz_b2]
      have hl : a_lost S ≤ 8 := sLost_le ht _ _ _
      have hw : sLw S (nI i) (-nI 1) ≤ 8 := sLost_le ht _ _ _
      simp (disch := omega) only [nI_leI]
      obtain ⟨h1, h2⟩ := ih k (i + 1) D (p9_ko f2 p) (n9_ko f2 n) (by omega) (by omega)
      rw [sp_ff]
      by_cases q : a_lost S ≤ sLw S (nI i) (-nI 1)
      · rw [if_pos q, if_neg (by unfold sT1; rw [decide_eq_true_eq]; omega)]
        exact ⟨fun z => (let ⟨E, x, y⟩ := h1 z; ⟨E, x, ko_tr f2 y⟩), fun b z => (let ⟨E, x, y⟩ := h2 b z; ⟨E, x, ko_tr f2 y⟩)⟩
      · rw [if_neg q, if_pos (by unfold sT1; rw [decide_eq_true_eq]; omega)]
        refine ⟨fun z => (by cases z), fun b hb => ?_⟩
        cases hb
        refine ⟨D, ?_, f2⟩
        rw [zl_ishl1 i (by omega)]
theorem sp_ff_n {p : Nat → Bool} (h : ∀ i, p i = false) : ∀ k i, sp_ff p k i = none
  | 0, _ => rfl
  | k + 1, i => by rw [sp_ff, if_neg (by rw [h i]; decide), sp_ff_n h k]
theorem sp_fp_n {p : Nat → Nat → Bool} (h : ∀ i j, p i j = false) : ∀ k i, sp_fp p k i = none
  | 0, _ => rfl
  | k + 1, i => by rw [sp_fp, sp_ff_n (h i), sp_fp_n h k]; rfl
theorem q9_howMany (F : Nat) {C S : zz_M} (p : p9 C S) (n : n9 C S) (hF : 100 ≤ F) : pX7_howManyTake F (zz_gI C 6) (zz_gA C 7) (zz_gA C 8) (zz_gI C 3) (zz_gI C 4) (zz_gL C 0 0) (zz_gA C 5) (zz_gA C 17) (zz_gL C 2) = some (nI (a_lost S)) := by
  have hv := n.2.2.2
  obtain ⟨-, -, -, -, ⟨w1, -, -, w4⟩, -, t1, t2⟩ := p
  rw [w1, t1, q7_howManyTake F (cN_le S) t2 hv hF]
  have ef : (fun i => (sp_takes (cN S) (zz_gA C 5) (cV S) (cWt S) (cNd S) i).isSome) = fun i => (cTk S i).isSome := by
    funext i; rw [sp_takes_cg w4]; rfl
  rw [ef]
  rfl
theorem q9_fewest (F : Nat) {C S : zz_M} (h : ok10 S) (p : p9 C S) (n : n9 C S) (hF : 100 ≤ F) : ∃ D, pX9_fewestLeftOut F C = some (nI (sTb (sTm S)), D) ∧ ko C D := by
  have hm := cM_le h
  have ht := cT_le h
  have hl : a_lost S ≤ 8 := sLost_le ht _ _ _
  unfold pX9_fewestLeftOut
  rw [q9_howMany F p n hF]
  simp only [zz_b1, zl_lit]
  by_cases q0 : a_lost S = 0
  · rw [q0, if_pos rfl]
    have e : sTm S = none := by
      unfold sTm
      rw [sp_ff_n (fun i => by unfold sT1; rw [q0]; exact decide_eq_false (by omega)), sp_fp_n (fun i j => by unfold sT2; rw [q0]; exact decide_eq_false (by omega))]
      rfl
    rw [e]
    exact ⟨C, rfl, ko_rfl C⟩
  · rw [if_neg (fun z => q0 ((nI_eq (by omega) (by omega)).mp z))]
    obtain ⟨r1, r2⟩ := q9_tm1 F h hF F (cM S) 0 C p n (by omega) (by omega)
    cases q : sp_ff (sT1 S) (cM S) 0 with
    | some a =>
      obtain ⟨U, u1, u2⟩ := r2 a q
      have e : sTm S = some (a, none) := by unfold sTm; rw [q]; rfl
      rw [u1, e]
      exact ⟨U, rfl, u2⟩
    | none =>
      obtain ⟨U, u1, u2⟩ := r1 q
      rw [u1]
      obtain ⟨v1, v2⟩ := q9_tm2 F h hF F (cM S) 0 U (p9_ko u2 p) (n9_ko u2 n) (by omega) (by omega)
      cases q2 : sp_fp (sT2 S) (cM S) 0 with
      | none =>
        obtain ⟨V, w1, w2⟩ := v1 q2
        have e : sTm S = none := by unfold sTm; rw [q, q2]; rfl
        rw [w1, e]
        exact ⟨V, rfl, ko_tr u2 w2⟩
      | some x =>
        obtain ⟨a, b⟩ := x
        obtain ⟨V, w1, w2⟩ := v2 a b q2
        have e : sTm S = some (a, some b) := by unfold sTm; rw [q, q2]; rfl
        rw [w1, e]
        exact ⟨V, rfl, ko_tr u2 w2⟩
theorem tb_c1 : ∀ a, a < 24 → pJ6_bitCount_0f7a4 0 (nI (2 ^ a)) = some (nI 1) ∧ sp_fd (2 ^ a).testBit 0 36 = some a ∧ sp_fd (2 ^ a).testBit 1 36 = none := by decide +kernel
theorem tb_c2 : ∀ a, a < 24 → ∀ b, b < 24 → a < b → pJ6_bitCount_0f7a4 0 (nI (2 ^ a ||| 2 ^ b)) = some (nI 2) ∧ sp_fd (2 ^ a ||| 2 ^ b).testBit 0 36 = some a ∧ sp_fd (2 ^ a ||| 2 ^ b).testBit 1 36 = some b := by decide +kernel
theorem tb_lt {S : zz_M} (h : ok10 S) : sTb (sTm S) < 2 ^ 24 := by
  cases q : sTm S with
  | none => rw [sTb]; decide
  | some x =>
    obtain ⟨a, b⟩ := x
    obtain ⟨h1, h2⟩ := sTm_lt h q
    rcases b with _ | b
    · rw [sTb]; exact Nat.pow_lt_pow_right (by decide) h1
    · rw [sTb]
      have := h2 b rfl
      exact Nat.or_lt_two_pow (Nat.pow_lt_pow_right (by decide) (by omega)) (Nat.pow_lt_pow_right (by decide) (by omega))
theorem tb_fd {S : zz_M} (h : ok10 S) {j : Nat} (hj : j < 2) : sp_fd (sTb (sTm S)).testBit j 36 = sTj j (sTm S) := by
  cases q : sTm S with
  | none =>
    rw [sTb]
    rcases (show j = 0 ∨ j = 1 by omega) with rfl | rfl <;> decide +kernel
  | some x =>
    obtain ⟨a, b⟩ := x
    obtain ⟨h1, h2⟩ := sTm_lt h q
    rcases b with _ | b
    · rw [sTb]
      obtain ⟨-, c1, c2⟩ := tb_c1 a h1
      rcases (show j = 0 ∨ j = 1 by omega) with rfl | rfl
      · exact c1
      · exact c2
    · rw [sTb]
      have h3 := h2 b rfl
      obtain ⟨-, c1, c2⟩ := tb_c2 a h1 b h3.2 h3.1
      rcases (show j = 0 ∨ j = 1 by omega) with rfl | rfl
      · exact c1
      · exact c2
theorem tb_n (F : Nat) {S : zz_M} (h : ok10 S) : (if nI (sTb (sTm S)) = nI 0 then some (-nI 1) else pJ6_bitCount_0f7a4 F (nI (sTb (sTm S)))) = some (sTn (sTm S)) := by
  have hl := tb_lt h
  have eF : ∀ x, pJ6_bitCount_0f7a4 F x = pJ6_bitCount_0f7a4 0 x := fun _ => rfl
  cases q : sTm S with
  | none => rw [sTb, if_pos rfl]; rfl
  | some x =>
    rw [q] at hl
    obtain ⟨a, b⟩ := x
    obtain ⟨h1, h2⟩ := sTm_lt h q
    have hp := Nat.two_pow_pos a
    rcases b with _ | b
    · rw [sTb] at hl ⊢
      rw [if_neg (fun z => by have := (nI_eq (by omega) (by omega)).mp z; omega), eF, (tb_c1 a h1).1]; rfl
    · rw [sTb] at hl ⊢
      have h3 := h2 b rfl
      have h4 : 2 ^ a ≤ 2 ^ a ||| 2 ^ b := Nat.left_le_or
      rw [if_neg (fun z => by have := (nI_eq (by omega) (by omega)).mp z; omega), eF, (tb_c2 a h1 b h3.2 h3.1).1]; rfl
theorem q9_rngO {α : Type} {u : Int32} {N : Nat} (hN : N < 2 ^ 31 - 1) (a b : α) : (if u < -nI 1 then a else if u ≤ nI N then b else a) = if (decide (u = -nI 1) || (zu u (N + 1)).isSome) = true then b else a := by
  have e : (u = -nI 1) ↔ u.toInt = -1 := by rw [fa_eq, zl_m1T]
  have hq : ((decide (u = -nI 1) || (zu u (N + 1)).isSome) = true) ↔ (u = -nI 1 ∨ (0 ≤ u.toInt ∧ u.toInt < ((N + 1 : Nat) : Int))) := by rw [zu_b]; simp
  have e1 : (u < -nI 1) ↔ u.toInt < -1 := by rw [fa_lt, zl_m1T]
  have e2 : (u ≤ nI N) ↔ u.toInt ≤ (N : Int) := by rw [fa_le, zl_T (by omega)]
  replace hq := hq.trans (or_congr e Iff.rfl)
  by_cases q1 : u < -nI 1
  · rw [if_pos q1, if_neg (fun z => by have := hq.mp z; have := e1.mp q1; omega)]
  · rw [if_neg q1]
    rw [e1] at q1
    by_cases q2 : u ≤ nI N
    · rw [if_pos q2, if_pos (hq.mpr (by have := e2.mp q2; omega))]
    · rw [if_neg q2, if_neg (fun z => by have := hq.mp z; rw [e2] at q2; omega)]
theorem r9_26 {C S : zz_M} (r : r9 C S) {m : Nat} (hm : m = sTb (sTm S)) : r9 (zz_sI C 26 (nI m)) S ∧ ke C (zz_sI C 26 (nI m)) := by
  obtain ⟨p, n⟩ := r
  refine ⟨⟨?_, fun z => ⟨(n z).1, Or.inr (by rw [hm]; rfl)⟩⟩, ⟨fun j a b => by rw [zg_II, if_neg (by omega)], rfl, fun _ _ _ => rfl⟩⟩
  obtain ⟨p1, p2, p3⟩ := p
  exact ⟨fun k hk => by rw [zg_II, if_neg (by omega)]; exact p1 k hk, p2, p3⟩
theorem q9_trT (F : Nat) {E S : zz_M} (h : ok10 S) (hF : 100 ≤ F) (k3 : zz_gI E 26 = nI (sTb (sTm S))) {u : Int32} (hu : (decide (u = -nI 1) || (zu u 2).isSome) = true) : (if u = -nI 1 then (if zz_gI E 26 = nI 0 then some (-nI 1, E) else zz_b1 (pJ6_bitCount_0f7a4 F (zz_gI E 26)) (fun r => some (r, E))) else zz_b1 (pX9_placeOfBit F (zz_gI E 26).toInt64 u) (fun r => some (r, E))) = some (a_trim S u, E) := by
  have hl := tb_lt h
  unfold a_trim
  rw [k3]
  by_cases q : u = -nI 1
  · rw [if_pos q, if_pos q]
    have := tb_n F h
    by_cases q2 : nI (sTb (sTm S)) = nI 0
    · rw [if_pos q2] at this ⊢
      rw [Option.some.inj this]
    · rw [if_neg q2] at this ⊢
      rw [this]; rfl
  · rw [if_neg q, if_neg q]
    cases q2 : zu u 2 with
    | none => rw [q2] at hu; simp [q] at hu
    | some j =>
      obtain ⟨h1, h2⟩ := zu_S q2
      subst h2
      rw [nI_l (by omega), q9_placeOfBit F (by omega) (by omega) hF, tb_fd h h1]
      rfl
theorem q9_trim (F : Nat) {C S : zz_M} (h : ok10 S) (r : r9 C S) (hF : 100 ≤ F) (u : Int32) : ∃ D, pX9_trim F u C = some (a_trim S u, D) ∧ r9 D S ∧ ke C D := by
  unfold pX9_trim
  simp only [zl_lit, zz_lt]
  rw [q9_rngO (by omega)]
  obtain ⟨D, e1, e2, e3, e4, e5, e6⟩ := q9_set9 F h r hF
  rw [e1]
  by_cases hu : (decide (u = -nI 1) || (zu u 2).isSome) = true
  · rw [if_pos hu, zz_b1]
    by_cases q : zz_gI D 26 = -nI 1
    · obtain ⟨G, g1, g2⟩ := q9_fewest F h e2.1 e4 hF
      obtain ⟨k1, k2⟩ := r9_26 (r9_ko e2 g2) rfl
      simp only [if_pos q, g1, zz_b2]
      rw [q9_trT F h hF (E := zz_sI G 26 (nI (sTb (sTm S)))) rfl hu]
      exact ⟨_, rfl, k1, ke_tr e3 (ke_tr (ke_ko g2) k2)⟩
    · simp only [if_neg q]
      have k3 : zz_gI D 26 = nI (sTb (sTm S)) := by
        rcases e5 with e5 | e5
        · exact absurd e5 q
        · exact e5
      rw [q9_trT F h hF k3 hu]
      exact ⟨D, rfl, e2, e3⟩
  · rw [if_neg hu]
    have e : a_trim S u = -nI 2 := by
      unfold a_trim
      rw [if_neg (fun z => hu (by simp [z]))]
      cases q2 : zu u 2 with
      | none => rfl
      | some j => exact absurd (by rw [q2]; simp) hu
    rw [e]
    exact ⟨C, rfl, r, ke_rfl C⟩
