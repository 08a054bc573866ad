/-! which shops stay whole -/
def sp_mk (p : Nat → Bool) : Nat → Nat
  | 0 => 0
  | c + 1 => if p c then sp_mk p c ||| 2 ^ c else sp_mk p c
theorem sp_mk_b (p : Nat → Bool) (c : Nat) : ∀ n, (sp_mk p n).testBit c = (decide (c < n) && p c)
  | 0 => by rw [sp_mk]; simp
  | n + 1 => by
    rw [sp_mk]
    by_cases q : p n = true
    · rw [if_pos q, fb_bit_set, sp_mk_b p c n]
      by_cases e : c = n
      · subst e; simp [q]
      · have : decide (c < n + 1) = decide (c < n) := by rw [decide_eq_decide]; omega
        simp [e, this]
    · rw [if_neg q, sp_mk_b p c n]
      by_cases e : c = n
      · subst e; simp [q]
      · have : decide (c < n + 1) = decide (c < n) := by rw [decide_eq_decide]; omega
        rw [this]
theorem sp_mk_lt (p : Nat → Bool) : ∀ n, sp_mk p n < 2 ^ n
  | 0 => by rw [sp_mk]; decide
  | n + 1 => by
    have := sp_mk_lt p n
    have h2 : 2 ^ n < 2 ^ (n + 1) := Nat.pow_lt_pow_right (by decide) (by omega)
    rw [sp_mk]; split
    · exact Nat.or_lt_two_pow (by omega) h2
    · omega
theorem sp_tf_b (tk : Nat → Option Nat) (wt : Nat → Nat) (c : Nat) : ∀ m, (sp_tf tk wt none m).testBit c = sp_any tk wt c m
  | 0 => by rw [sp_tf, sp_any]; simp
  | i + 1 => by
    rw [sp_tf, sp_any, if_neg (by simp), ← sp_tf_b tk wt c i]
    cases q : (tk i).isSome
    · simp
    · rw [if_pos rfl, fb_bit_set]
      have : decide (c = wt i) = decide (wt i = c) := by rw [decide_eq_decide]; exact eq_comm
      simp [this]
theorem sp_shm_b (kn : Nat → Nat) (c : Nat) : ∀ n, (sp_shm kn n).testBit c = (decide (c < n) && decide (kn c = 2))
  | n => by
    have h : ∀ n, sp_shm kn n = sp_mk (fun c => decide (kn c = 2)) n := fun n => by
      induction n with
      | zero => rfl
      | succ n ih => rw [sp_shm, sp_mk, ih]; by_cases q : kn n = 2 <;> simp [q]
    rw [h, sp_mk_b]
theorem sp_ward_k (b : Nat → Int32) (L c : Nat) : c < (sp_ward b L).2.1 → (sp_ward b L).2.2.2 c ≤ 4 := by
  unfold sp_ward
  cases q : sp_wd b L 0 0 0 0 0 (fun _ => 0) with
  | inl x => intro h; exact absurd h (by simp [sp_wend])
  | inr z =>
    obtain ⟨r, d, n, w, kn⟩ := z
    have hI := sp_wd_I L 0 0 0 0 0 (fun _ => 0) r d n w kn ⟨⟨by omega, fun _ => ⟨by omega, rfl⟩, fun h => absurd h (by decide), fun j hj => by omega⟩, fun _ => rfl⟩ q
    rw [sp_wend]
    split
    · intro h; exact absurd h (by simp)
    · intro h; exact hI.1.2.2.2 c h
def sSf (S : zz_M) (c : Nat) : Bool := sp_shop (cN S) (cK S) c && !sp_any (cTk S) (cWt S) c (cT S)
def cSf (S : zz_M) : Nat := sp_mk (sSf S) (cN S)
theorem cSf_lt (S : zz_M) : cSf S < 2 ^ 36 := Nat.lt_of_lt_of_le (sp_mk_lt _ _) (Nat.pow_le_pow_right (by decide) (cN_le S))
def a_safe (S : zz_M) (u : Int32) : Int32 := zo (-nI 2) (fun j => if j = 0 then nI (cSf S % 2 ^ 18) else nI (cSf S / 2 ^ 18)) (zu u 2)
theorem cSf_c (S : zz_M) : sp_shm (sp_ward (tB S 0) (tL S 0)).2.2.2 (cN S) &&& (sp_tf (cTk S) (cWt S) none (cT S) ^^^ (2 ^ 64 - 1)) = cSf S := by
  apply Nat.eq_of_testBit_eq
  intro c
  have hn := cN_le S
  rw [Nat.testBit_and, Nat.testBit_xor, Nat.testBit_two_pow_sub_one, sp_tf_b, sp_shm_b]
  unfold cSf sSf
  rw [sp_mk_b]
  unfold sp_shop
  by_cases q : c < cN S
  · have e2 : cK S c = nI ((sp_ward (tB S 0) (tL S 0)).2.2.2 c) := rfl
    have e3 : (sp_ward (tB S 0) (tL S 0)).2.2.2 c ≤ 4 := sp_ward_k _ _ c q
    have e4 : decide (cK S c = nI 2) = decide ((sp_ward (tB S 0) (tL S 0)).2.2.2 c = 2) := by
      rw [e2, decide_eq_decide]; exact nI_eq (by omega) (by omega)
    rw [e4, decide_eq_true (show c < 64 by omega), decide_eq_true q]
    simp
  · simp [q]
theorem q9_safe (F : Nat) {C S : zz_M} (h : ok10 S) (p : p9 C S) (n : zz_gI C 25 = 0 → n9 C S) (hF : 100 ≤ F) (u : Int32) : ∃ D, pX9_safe F u C = some (a_safe S u, D) ∧ qd9 C D S := by
  unfold pX9_safe a_safe
  rw [q9_isEither]
  simp only [zl_lit, zl_litL, zz_b1, zb0]
  cases q : zu u 2 with
  | none => exact ⟨C, rfl, Or.inl rfl⟩
  | some j =>
    obtain ⟨h1, h2⟩ := zu_S q
    subst h2
    obtain ⟨D, e1, e2, e3⟩ := q9_settled F h p n hF
    rw [e1]
    have hv := e2.2.1.2.2.2
    obtain ⟨-, -, -, -, ⟨w1, -, w3, w4⟩, -, t1, t2⟩ := e3
    have e4 := q7_takenFrom F (w := zz_gI D 4) (sh := zz_gL D 0 0) (pl := zz_gA D 17) (but := none) (fun b e => by cases e) (cN_le S) t2 hv hF (ks := zz_gA D 5)
    rw [sp_iN] at e4
    have ef : sp_takes (cN S) (zz_gA D 5) (cV S) (cWt S) (cNd S) = cTk S := by funext i; rw [sp_takes_cg w4]; rfl
    rw [ef] at e4
    simp only [zz_b1, Option.isSome, zo_S]
    rw [if_neg (by decide), w1, t1, e4]
    simp only [zz_b1]
    rw [w3, show (-lN 1 : Int64) = lN (2 ^ 64 - 1) from by decide, fb_xorL, fb_andL, cSf_c, q9_halfOf F (cSf_lt S) h1]
    exact ⟨D, rfl, Or.inr e2⟩
theorem q10_sfL (F : Nat) {S T : zz_M} {j : Nat} (hj : j < 2) (e2 : sm S T) (g : wk10 T (cM S) (cB S) (fun _ => decide (cFo S = 1))) (hF : 100 ≤ F) : ∀ (f k c : Nat), c + k = cN S → k < f →
    pX10_safeOf_L8_4 (nI j) F T f (nI (if j = 0 then sp_mk (sSf S) c % 2 ^ 18 else sp_mk (sSf S) c / 2 ^ 18)) (nI c) = some (nI (if j = 0 then cSf S % 2 ^ 18 else cSf S / 2 ^ 18), T) := by
  intro f
  have hn := cN_le S
  obtain ⟨⟨-, g2, gk, -, -, g4, gT⟩, -⟩ := g.1
  have hv := wk_V e2 g
  rw [sm_N e2] at g2 gk
  rw [sm_K e2] at gk
  rw [sm_T e2] at g4 gT
  rw [sm_Wt e2, sm_Nd e2] at gT
  have ef : sp_takes (cN S) (zz_gA T 2) (cV S) (cWt S) (cNd S) = cTk S := by funext i; rw [sp_takes_cg gk]; rfl
  have et : ∀ c, c < cN S → pX10_isTaken F (nI c) T = some (zb (sp_any (cTk S) (cWt S) c (cT S))) := fun c hc => by
    rw [q10_isTaken F hn gT hv g2 rfl rfl rfl g4 (by omega) hF, ef]
  induction f with
  | zero => intro k c _ h; omega
  | succ f ih =>
    intro k c hk hf
    rw [pX10_safeOf_L8_4, g2]
    simp (disch := omega) only [zl_lit, zz_lt, nI_leI, nI_add, zl_in, nI_clamp]
    cases k with
    | zero => rw [if_pos (by omega), show c = cN S by omega]; rfl
    | succ k =>
      rw [if_neg (by omega), if_pos (by omega), gk c (by omega), et c (by omega)]
      simp only [zz_b1, zb0]
      have h1 := ih k (c + 1) (by omega) (by omega)
      have hb : sSf S c = (decide (cK S c = nI 2) && !sp_any (cTk S) (cWt S) c (cT S)) := by
        unfold sSf sp_shop; rw [decide_eq_true (show c < cN S by omega), Bool.true_and]
      have hyes : sSf S c = true → sp_mk (sSf S) (c + 1) = sp_mk (sSf S) c ||| 2 ^ c := fun e => by rw [sp_mk, if_pos e]
      have hno : sSf S c = false → sp_mk (sSf S) (c + 1) = sp_mk (sSf S) c := fun e => by rw [sp_mk, if_neg (by rw [e]; decide)]
      have hor : ∀ x : Nat, nI x ||| nI 0 = nI x := fun x => by rw [fa_or, Nat.or_zero]
      rw [zl_rem (by omega) (by omega) (by omega), zl_ishl1 (c % 18) (by omega), pk_div (by omega) (by omega) (by omega), fa_or, hor]
      simp (disch := omega) only [nI_eq]
      by_cases qa : cK S c = nI 2
      · rw [if_pos qa]
        cases qb : sp_any (cTk S) (cWt S) c (cT S)
        · rw [hyes (by rw [hb, qb, decide_eq_true qa]; rfl), or_lo (by omega), or_hi (by omega)] at h1
          simp only [if_true]
          generalize hX : sp_mk (sSf S) c = X at h1 ⊢
          rcases (show j = 0 ∨ j = 1 by omega) with rfl | rfl
          · simp only [if_true] at h1 ⊢
            by_cases qc : c < 18
            · rw [if_pos qc] at h1
              rw [if_pos (show c / 18 = 0 by omega), Nat.mod_eq_of_lt qc]
              exact h1
            · rw [if_neg qc, Nat.or_zero] at h1
              rw [if_neg (show ¬ c / 18 = 0 by omega)]
              exact h1
          · simp only [Nat.one_ne_zero, if_false] at h1 ⊢
            by_cases qc : c < 18
            · rw [if_pos qc, Nat.or_zero] at h1
              rw [if_neg (show ¬ c / 18 = 1 by omega)]
              exact h1
            · rw [if_neg qc] at h1
              rw [if_pos (show c / 18 = 1 by omega), show c % 18 = c - 18 by omega]
              exact h1
        · rw [hno (by rw [hb, qb]; simp)] at h1
          simp only [Bool.true_eq_false, if_false]
          exact h1
      · rw [hno (by rw [hb, decide_eq_false qa]; rfl)] at h1
        rw [if_neg qa]
        exact h1
theorem q10_safe (F : Nat) {S : zz_M} (h : ok10 S) (hF : 100 ≤ F) (u : Int32) : ∃ T, pX10_safe F u S = some (a_safe S u, T) ∧ sm S T := by
  unfold pX10_safe a_safe
  simp only [zl_lit, zz_lt]
  rw [q10_inN F u (by omega)]
  simp only [zz_b1, zb0]
  cases q : zu u 2 with
  | none => exact ⟨S, rfl, sm_rfl S⟩
  | some j =>
    obtain ⟨h1, h2⟩ := zu_S q
    subst h2
    obtain ⟨T, e1, e2, e3⟩ := q10_walksTold F h hF
    have hn := cN_le S
    have e4 := q10_sfL F h1 e2 e3 hF F (cN S) 0 (by omega) (by omega)
    have e5 : (if j = 0 then sp_mk (sSf S) 0 % 2 ^ 18 else sp_mk (sSf S) 0 / 2 ^ 18) = 0 := by rw [sp_mk]; split <;> simp
    rw [e5] at e4
    unfold pX10_safeOf
    rw [e1]
    simp only [zl_lit, zz_b1, Option.isSome, zo_S]
    rw [if_neg (by decide), e4]
    refine ⟨T, ?_, e2⟩
    simp only [zz_b2]
    split <;> rfl
