def w9 (C D S T : zz_M) : Prop := (D = C ∧ T = S) ∨ (p9 D T ∧ zz_gI D 25 = 1 ∧ kc C D)
theorem kc_tx {k : Nat} {C D E : zz_M} (hk : k < 3) (h : tx k C D) (g : kc D E) : kc C E :=
  ⟨fun j a b => by rw [g.1 j a b, h.1 j (by omega)], fun j a => by rw [g.2.1 j a, h.2.1 j (by omega)], fun j a => by rw [g.2.2 j a, h.2.2 j]⟩
theorem tx_I (k : Nat) (C : zz_M) (x : Int32) : tx k C (zz_sI C k x) := ⟨fun j q => by rw [zg_II, if_neg q], fun _ _ => rfl, fun _ => rfl⟩
theorem tx_IA (k : Nat) (C : zz_M) (x : Int32) (f : Nat → Int32) : tx k C (zz_sA (zz_sI C k x) k f) := ⟨fun j q => by rw [zg_IA, zg_II, if_neg q], fun j q => by rw [zg_AA, if_neg q, zg_AI], fun _ => rfl⟩
theorem q9_ln (F : Nat) {C S : zz_M} {k L : Nat} (hk : k < 3) (h : ok10 S) (p : p9 C S) (hL : L ≤ tL S k) (hF : 100 ≤ F) : ∃ D, pX9_readAgain F (nI k) (zz_sI C k (nI L)) = some D ∧ p9 D (lnS S k L) ∧ zz_gI D 25 = 1 ∧ kc C D := by
  have hl := (h.1 k hk).2
  have hc := cLim_le k
  have e : tL (lnS S k L) k = L := by rw [tL_ln (by omega), if_pos rfl]
  have hx := tx_I k C (nI L)
  obtain ⟨D, e1, e2, e3, e4⟩ := q9_readAgain F hk (ok_ln h hk hL) (p9_px hk hx (ty_ln (by omega)) (by rw [e, zg_II, if_pos rfl]) (fun j hj => by rw [e] at hj; rw [tB_ln, zg_AI]; exact p.2.1 k j hk (by omega)) p) hF
  exact ⟨D, e1, e2, e3, kc_tx hk hx e4⟩
theorem kc_p9 {D T : zz_M} {k : Nat} (hk : k < 3) (p : p9 D T) : zz_gI D k = nI (tL T k) := p.1 k hk
theorem q9_wipe (F : Nat) {C S : zz_M} (h : ok10 S) (p : p9 C S) (hF : 100 ≤ F) (u : Int32) : ∃ D, pX9_wipe F u C = some (a_wipe S u, D) ∧ w9 C D S (s_wipe S u) ∧ ok10 (s_wipe S u) := by
  unfold pX9_wipe a_wipe s_wipe
  rw [q9_isText]
  simp only [zl_lit, zz_b1, zz_lt, zb0]
  cases q : zu u 3 with
  | none => exact ⟨C, rfl, Or.inl ⟨rfl, rfl⟩, h⟩
  | some k =>
    obtain ⟨h1, h2⟩ := zu_S q
    subst h2
    obtain ⟨D, e1, e2⟩ := q9_ln F h1 h p (Nat.zero_le _) hF
    simp (disch := omega) only [Option.isSome, zo_S, nI_eq]
    rw [if_neg (by decide)]
    refine ⟨D, ?_, Or.inr e2, ok_ln h h1 (Nat.zero_le _)⟩
    rcases (show k = 0 ∨ k = 1 ∨ k = 2 by omega) with rfl | rfl | rfl
    · rw [if_pos rfl, e1, p.1 0 h1]
    · rw [if_neg (by decide), if_pos rfl, e1, p.1 1 h1]
    · rw [if_neg (by decide), if_neg (by decide), if_pos rfl, e1, p.1 2 h1]
theorem q9_undo (F : Nat) {C S : zz_M} (h : ok10 S) (p : p9 C S) (hF : 100 ≤ F) (u : Int32) : ∃ D, pX9_undo F u C = some (a_undo S u, D) ∧ w9 C D S (s_undo S u) ∧ ok10 (s_undo S u) := by
  unfold pX9_undo a_undo s_undo
  rw [q9_isText]
  simp only [zl_lit, zz_b1, zz_lt, zb0]
  cases q : zu u 3 with
  | none => exact ⟨C, rfl, Or.inl ⟨rfl, rfl⟩, h⟩
  | some k =>
    obtain ⟨h1, h2⟩ := zu_S q
    subst h2
    have hl := (h.1 k h1).2
    have hc := cLim_le k
    obtain ⟨D, e1, e2⟩ := q9_ln F h1 h p (Nat.sub_le (tL S k) 1) hF
    have e3 : zz_gI D k = nI (tL S k - 1) := by
      rw [e2.1.1 k h1, tL_ln (by omega), if_pos rfl]
    simp (disch := omega) only [Option.isSome, zo_S, nI_eq]
    rw [if_neg (by decide)]
    by_cases q2 : tL S k = 0
    · rw [if_pos q2, if_pos q2]
      refine ⟨C, ?_, Or.inl ⟨rfl, rfl⟩, h⟩
      rcases (show k = 0 ∨ k = 1 ∨ k = 2 by omega) with rfl | rfl | rfl
      · rw [if_pos rfl, p.1 0 h1, q2, if_pos rfl]
      · rw [if_neg (by decide), if_pos rfl, p.1 1 h1, q2, if_pos rfl]
      · rw [if_neg (by decide), if_neg (by decide), if_pos rfl, p.1 2 h1, q2, if_pos rfl]
    · rw [if_neg q2, if_neg q2]
      refine ⟨D, ?_, Or.inr e2, ok_ln h h1 (Nat.sub_le _ _)⟩
      rcases (show k = 0 ∨ k = 1 ∨ k = 2 by omega) with rfl | rfl | rfl
      · rw [if_pos rfl, p.1 0 h1, if_neg (fun z => q2 ((nI_eq (by omega) (by omega)).mp z)), pk_sub (by omega), e1]; simp only [e3]
      · rw [if_neg (by decide), if_pos rfl, p.1 1 h1, if_neg (fun z => q2 ((nI_eq (by omega) (by omega)).mp z)), pk_sub (by omega), e1]; simp only [e3]
      · rw [if_neg (by decide), if_neg (by decide), if_pos rfl, p.1 2 h1, if_neg (fun z => q2 ((nI_eq (by omega) (by omega)).mp z)), pk_sub (by omega), e1]; simp only [e3]
theorem q6_append (F : Nat) {N L : Nat} (hN : N ≤ 41) (hL : L ≤ N) (v : Int32) (b : Nat → Int32) : pX6_append F N v (nI L) b = some (if L = N then (nI 0, nI L, b) else (nI 1, nI (L + 1), upd b L v)) := by
  unfold pX6_append
  rw [show Int32.ofNat N = nI N from rfl]
  simp (disch := omega) only [zl_lit, zz_lt, nI_ltI, zl_in, nI_clamp, nI_add]
  by_cases q : L = N
  · rw [if_neg (by omega), if_pos q]
  · rw [if_pos (by omega), if_pos (by omega), if_neg q]
theorem ss_I (S : zz_M) (k : Nat) : zz_sI S k (zz_gI S k) = S := by unfold zz_sI zz_gI; rw [zs_upS]
theorem ss_A (S : zz_M) (k : Nat) : zz_sA S k (zz_gA S k) = S := by unfold zz_sA zz_gA; rw [zs_upS]
theorem q9_ty (F : Nat) {C S : zz_M} {k : Nat} {v : Int32} (hk : k < 3) (h : ok10 S) (p : p9 C S) (hL : tL S k < cLim k) (hv : 0 ≤ v.toInt ∧ v.toInt ≤ 255) (hF : 100 ≤ F) : ∃ D, pX9_readAgain F (nI k) (zz_sA (zz_sI C k (nI (tL S k + 1))) k (upd (zz_gA C k) (tL S k) v)) = some D ∧ p9 D (tyS S k v) ∧ zz_gI D 25 = 1 ∧ kc C D := by
  have hc := cLim_le k
  have e : tL (tyS S k v) k = tL S k + 1 := by rw [tL_ty (by omega), if_pos rfl]
  have hx := tx_IA k C (nI (tL S k + 1)) (upd (zz_gA C k) (tL S k) v)
  obtain ⟨D, e1, e2, e3, e4⟩ := q9_readAgain F hk (ok_ty h hk hL hv) (p9_px hk hx (ty_ty (by omega)) (by rw [e, zg_IA, zg_II, if_pos rfl]) (fun j hj => by
    rw [e] at hj
    rw [tB_tyk (by omega), zg_AA, if_pos rfl]
    by_cases q : j = tL S k
    · subst q; rw [if_pos rfl, pk_us]
    · rw [if_neg q, pk_un q]; exact p.2.1 k j hk (by omega)) p) hF
  exact ⟨D, e1, e2, e3, kc_tx hk hx e4⟩
theorem q9_rng3 {α : Type} {u : Int32} {N : Nat} (hN : N < 2 ^ 31 - 1) (a b : α) : (if u < nI 0 then a else if u ≤ nI N then b else a) = if (zu u (N + 1)).isSome = true then b else a := by
  rw [← q9_rng2 (by omega)]
  have : (u ≤ nI N) ↔ u < nI (N + 1) := by rw [fa_le, fa_lt, zl_T (by omega), zl_T (by omega)]; omega
  by_cases q1 : u < nI 0
  · rw [if_pos q1, if_pos q1]
  · rw [if_neg q1, if_neg q1]
    by_cases q : u ≤ nI N
    · rw [if_pos q, if_pos (this.mp q)]
    · rw [if_neg q, if_neg (fun z => q (this.mpr z))]
theorem q9_type (F : Nat) {C S : zz_M} (h : ok10 S) (p : p9 C S) (hF : 100 ≤ F) (u v : Int32) : ∃ D, pX9_type F u v C = some (a_type S u v, D) ∧ w9 C D S (s_type S u v) ∧ ok10 (s_type S u v) := by
  unfold pX9_type a_type s_type
  rw [q9_isText]
  simp only [zl_lit, zz_b1, zz_lt, zb0]
  rw [q9_rng3 (by omega)]
  cases q : zu u 3 with
  | none => exact ⟨C, rfl, Or.inl ⟨rfl, rfl⟩, h⟩
  | some k =>
    obtain ⟨h1, h2⟩ := zu_S q
    subst h2
    cases qv : zu v 256 with
    | none => exact ⟨C, rfl, Or.inl ⟨rfl, rfl⟩, h⟩
    | some j =>
      obtain ⟨v1, v2⟩ := zu_S qv
      have hv : 0 ≤ v.toInt ∧ v.toInt ≤ 255 := by rw [v2, zl_T (by omega)]; omega
      have hl := (h.1 k h1).2
      have hc := cLim_le k
      have ea := q6_append F hc hl v (zz_gA C k)
      rw [← p.1 k h1] at ea
      simp (disch := omega) only [Option.isSome, zo_S, nI_eq]
      rw [if_neg (by decide), if_pos trivial]
      by_cases q2 : tL S k = cLim k
      · rw [if_pos q2] at ea ⊢
        rw [if_pos q2]
        refine ⟨C, ?_, Or.inl ⟨rfl, rfl⟩, h⟩
        have es : zz_sA (zz_sI C k (zz_gI C k)) k (zz_gA C k) = C := by rw [ss_I, ss_A]
        rcases (show k = 0 ∨ k = 1 ∨ k = 2 by omega) with rfl | rfl | rfl
        · rw [if_pos rfl, show (41 : Nat) = cLim 0 from rfl, ea]; simp only [zz_b3, es]; rfl
        · rw [if_neg (by decide), if_pos rfl, show (24 : Nat) = cLim 1 from rfl, ea]; simp only [zz_b3, es]; rfl
        · rw [if_neg (by decide), if_neg (by decide), if_pos rfl, show (31 : Nat) = cLim 2 from rfl, ea]; simp only [zz_b3, es]; rfl
      · rw [if_neg q2] at ea ⊢
        rw [if_neg q2]
        obtain ⟨D, e1, e2⟩ := q9_ty F h1 h p (by omega) hv hF
        have e3 : zz_gI D k = nI (tL S k + 1) := by
          rw [e2.1.1 k h1, tL_ty (by omega), if_pos rfl]
        refine ⟨D, ?_, Or.inr e2, ok_ty h h1 (by omega) hv⟩
        rcases (show k = 0 ∨ k = 1 ∨ k = 2 by omega) with rfl | rfl | rfl
        · rw [if_pos rfl, show (41 : Nat) = cLim 0 from rfl, ea]; simp only [zz_b3]; rw [if_neg (by decide), e1]; simp only [e3]
        · rw [if_neg (by decide), if_pos rfl, show (24 : Nat) = cLim 1 from rfl, ea]; simp only [zz_b3]; rw [if_neg (by decide), e1]; simp only [e3]
        · rw [if_neg (by decide), if_neg (by decide), if_pos rfl, show (31 : Nat) = cLim 2 from rfl, ea]; simp only [zz_b3]; rw [if_neg (by decide), e1]; simp only [e3]
