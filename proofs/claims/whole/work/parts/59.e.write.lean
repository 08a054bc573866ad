/-! missed, read from a sheet -/
def sp_rd (it : Nat → Int32) (sz : Nat) : Nat → Nat → zz_M → Nat × zz_M
  | 0, n, S => (n, S)
  | k + 1, n, S => if sz ≤ 2 * n + 1 then (n, S) else if a_missed S (it (2 * n)) (it (2 * n + 1)) ≤ nI 0 then (n, S) else sp_rd it sz k (n + 1) (s_missed S (it (2 * n)) (it (2 * n + 1)))
theorem a_missed_c (S : zz_M) (hm : cQ S ≤ 8) (u v : Int32) : (a_missed S u v ≤ nI 0 ∧ s_missed S u v = S ∧ ((zu u 36).isSome && (zu v 2).isSome) = false) ∨ (a_missed S u v ≤ nI 0 ∧ s_missed S u v = S ∧ cQ S = 8 ∧ ∃ c b, zu u 36 = some c ∧ zu v 2 = some b) ∨ (¬ a_missed S u v ≤ nI 0 ∧ ¬ cQ S = 8 ∧ ∃ c b, zu u 36 = some c ∧ zu v 2 = some b) := by
  unfold a_missed s_missed
  cases q : zu u 36 with
  | none => exact Or.inl ⟨by rw [zo_N]; decide, rfl, rfl⟩
  | some c =>
    cases q2 : zu v 2 with
    | none => exact Or.inl ⟨by rw [zo_S, zo_N]; decide, rfl, rfl⟩
    | some b =>
      rw [zo_S, zo_S, zo_S, zo_S]
      by_cases q8 : cQ S = 8
      · rw [if_pos q8, if_pos q8]
        exact Or.inr (Or.inl ⟨by decide, rfl, q8, c, b, rfl, rfl⟩)
      · rw [if_neg q8]
        exact Or.inr (Or.inr ⟨nI_ge (by omega) (by omega), q8, c, b, rfl, rfl⟩)
theorem sp_rd_P {P : zz_M → Prop} {it : Nat → Int32} {sz : Nat} (h : ∀ S u v, P S → P (s_missed S u v)) : ∀ (k n : Nat) (S : zz_M), P S → P (sp_rd it sz k n S).2
  | 0, _, _, hp => hp
  | k + 1, n, S, hp => by
    rw [sp_rd]
    split
    · exact hp
    · split
      · exact hp
      · exact sp_rd_P h k _ _ (h _ _ _ hp)
theorem sp_rd_le {it : Nat → Int32} {sz : Nat} (hz : sz ≤ 60) : ∀ (k n : Nat) (S : zz_M), n ≤ 30 → (sp_rd it sz k n S).1 ≤ 30
  | 0, _, _, h => h
  | k + 1, n, S, h => by
    rw [sp_rd]
    split
    · exact h
    · split
      · exact h
      · exact sp_rd_le hz k _ _ (by omega)
theorem q10_rdL (F : Nat) {s sz : Nat} {it : Nat → Int32} (hs : s < 4) (hz : sz ≤ 60) : ∀ (f k n : Nat) (S : zz_M), mk10 S → zz_gA S 17 s = nI sz → (∀ i, i < 60 → zz_gA S 18 (60 * s + i) = it i) → n + k = 31 → k < f →
    pX10_read_L27_5 (nI s) F f (nI n) S = some (nI (sp_rd it sz k n S).1, (sp_rd it sz k n S).2) := by
  intro f
  induction f with
  | zero => intro k n S _ _ _ _ h; omega
  | succ f ih =>
    intro k n S hm h17 h18 hk hf
    rw [pX10_read_L27_5]
    simp only [zz_lt]
    simp (disch := omega) only [zl_lit, nI_leI, zl_in, nI_clamp, nI_add, pk_mul, h17]
    rw [if_pos hs]
    cases k with
    | zero => rw [if_pos (by omega)]; rfl
    | succ k =>
      rw [sp_rd]
      by_cases q : sz ≤ 2 * n + 1
      · rw [if_pos q, if_pos q]
      · rw [if_neg q, if_neg q, if_pos (by omega), if_pos (by omega), h18 (2 * n) (by omega), show 60 * s + 2 * n + 1 = 60 * s + (2 * n + 1) by omega, h18 (2 * n + 1) (by omega), q10_missed F hm]
        simp only [zz_b2]
        rcases a_missed_c S hm.2.1 (it (2 * n)) (it (2 * n + 1)) with ⟨c1, c2, -⟩ | ⟨c1, c2, -⟩ | ⟨c1, -⟩
        · rw [if_pos c1, if_pos c1, c2]
        · rw [if_pos c1, if_pos c1, c2]
        · rw [if_neg c1, if_neg c1]
          exact ih k (n + 1) _ (mk_missed hm) (s_missed_c (P := fun T => zz_gA T 17 s = nI sz) _ _ h17 h17) (s_missed_c (P := fun T => ∀ i, i < 60 → zz_gA T 18 (60 * s + i) = it i) _ _ h18 h18) (by omega) (by omega)
theorem q1_rdL (F : Nat) {sz : Nat} {it it' : Nat → Int32} (hz : sz ≤ 60) (hi : ∀ i, i < 60 → it' i = it i) : ∀ (f k n : Nat) (S : zz_M) (x : Int32) (y z : Nat → Int32), mq x y z S → n + k = 31 → k < f →
    ∃ x' y' z', pX1_addFrom_L4_5 F (nI sz) it' f (nI n) (nI (2 * n)) x y z = some (nI (sp_rd it sz k n S).1, x', y', z') ∧ mq x' y' z' (sp_rd it sz k n S).2 := by
  intro f
  induction f with
  | zero => intro k n S x y z _ _ h; omega
  | succ f ih =>
    intro k n S x y z m hk hf
    rw [pX1_addFrom_L4_5]
    simp only [zz_lt]
    simp (disch := omega) only [zl_lit, nI_leI, zl_in, nI_clamp, nI_add]
    cases k with
    | zero => rw [if_pos (by omega)]; exact ⟨x, y, z, rfl, m⟩
    | succ k =>
      rw [sp_rd]
      by_cases q : sz ≤ 2 * n + 1
      · rw [if_pos q, if_pos q]; exact ⟨x, y, z, rfl, m⟩
      · rw [if_neg q, if_neg q, if_pos (by omega), if_pos (by omega), hi (2 * n) (by omega), hi (2 * n + 1) (by omega), q1_mayBe]
        simp only [zz_b1, zb0]
        rcases a_missed_c S m.1.2.1 (it (2 * n)) (it (2 * n + 1)) with ⟨c1, c2, c3⟩ | ⟨c1, c2, c3, c, b, c4, c5⟩ | ⟨c1, c3, c, b, c4, c5⟩
        · rw [if_pos c1, c3, if_pos rfl]; exact ⟨x, y, z, rfl, m⟩
        · obtain ⟨x', y', z', f1, f2, f3, f4⟩ := q1_add F m c4 c5
          obtain ⟨g1, g2, g3⟩ := f4 c3
          rw [if_pos c1, c4, c5, f1]
          simp only [zz_b4, zb0, Option.isSome, Bool.and_self]
          rw [if_neg (by decide), if_pos (by simp [c3]), g1, g2, g3]
          exact ⟨x, y, z, rfl, m⟩
        · obtain ⟨x', y', z', f1, f2, f3, f4⟩ := q1_add F m c4 c5
          rw [if_neg c1, c4, c5, f1]
          simp only [zz_b4, zb0, Option.isSome, Bool.and_self]
          rw [if_neg (by decide), if_neg (by simp [c3])]
          exact ih k (n + 1) _ x' y' z' f2 (by omega) (by omega)
def cRd (S : zz_M) (s : Nat) : Nat × zz_M := sp_rd (fun i => zz_gA S 18 (60 * s + i)) (cSz S s) 31 0 S
def a_read (S : zz_M) (u : Int32) : Int32 := zo (-nI 2) (fun s => if cTh S s then nI (cRd S s).1 else a_fnd 1) (zu u 4)
def s_read (S : zz_M) (u : Int32) : zz_M := zo S (fun s => if cTh S s then (cRd S s).2 else zz_sI S 13 (nI 1)) (zu u 4)
theorem q10_read (F : Nat) {S : zz_M} (hm : mk10 S) (hk : hk10 S) (hF : 100 ≤ F) (u : Int32) : pX10_read F u S = some (a_read S u, s_read S u) := by
  unfold pX10_read a_read s_read
  simp only [zl_lit, zz_lt]
  rw [q10_isSheet, q10_meets]
  simp only [zz_b1, zz_b2, zb0]
  cases q : zu u 4 with
  | none => rfl
  | some s =>
    obtain ⟨h1, h2⟩ := zu_S q
    subst h2
    obtain ⟨k1, k2, k3, k4, k5⟩ := hk s h1
    simp (disch := omega) only [zl_in, nI_clamp, Option.isSome, zo_S, k1, zb0]
    rw [if_neg (by decide), if_pos h1]
    cases cTh S s
    · rfl
    · rw [if_neg (by decide), if_pos rfl, if_pos rfl]
      exact q10_rdL F h1 k5 F 31 0 S hm k4 (fun i hi => rfl) (by omega) (by omega)
theorem q9_readG (F : Nat) {s : Nat} (hs : s < 4) (C : zz_M) : pX9_read F (nI s) C = if zz_gI C (8 + 3 * s) = nI 0 then zz_b4 (pX1_addFrom F (zz_gI C 7) (zz_gA C 9) (zz_gA C 10) (zz_gI C (8 + 3 * s)) (zz_gI C (9 + 3 * s)) (zz_gI C (10 + 3 * s)) (zz_gA C (11 + s))) (fun r3 f4 f5 f6 => some (r3, miC C f4 f5 f6)) else some (a_fnd 1, zz_sI C 24 (nI 1)) := by
  unfold pX9_read
  rw [q9_isSheet, zu_nI hs (by omega)]
  rcases (show s = 0 ∨ s = 1 ∨ s = 2 ∨ s = 3 by omega) with rfl | rfl | rfl | rfl <;> rfl
theorem q9_read (F : Nat) {C S : zz_M} (R : R9 C S) (hF : 100 ≤ F) (u : Int32) : ∃ D, pX9_read F u C = some (a_read S u, D) ∧ R9 D (s_read S u) := by
  unfold a_read s_read
  cases q : zu u 4 with
  | none =>
    refine ⟨C, ?_, R⟩
    unfold pX9_read; rw [q9_isSheet, q]; rfl
  | some s =>
    obtain ⟨h1, h2⟩ := zu_S q
    subst h2
    have R' := R
    obtain ⟨r, m, h, v⟩ := R'
    obtain ⟨k1, k2, k3, k4⟩ := h.2 s h1
    obtain ⟨g1, g2, g3, g4, g5⟩ := h.1 s h1
    rw [q9_readG F h1, k1, k3, zo_S, zo_S]
    cases qt : cTh S s
    · rw [if_neg (show ¬ zb (!false) = nI 0 by decide), if_neg (by decide), if_neg (by decide)]
      exact ⟨_, rfl, R9_fnd R _⟩
    · rw [if_pos (show zb (!true) = nI 0 by decide), if_pos rfl, if_pos rfl]
      unfold pX1_addFrom
      obtain ⟨x', y', z', f1, f2⟩ := q1_rdL F (it := fun i => zz_gA S 18 (60 * s + i)) g5 k4 F 31 0 S (zz_gI C 7) (zz_gA C 9) (zz_gA C 10) m (by omega) (by omega)
      rw [show ((0 : Int32) = nI (2 * 0)) from rfl]
      rw [show pX1_addFrom_L4_5 F (nI (cSz S s)) (zz_gA C (11 + s)) F (nI (2 * 0)) (nI (2 * 0)) (zz_gI C 7) (zz_gA C 9) (zz_gA C 10) = _ from f1]
      exact ⟨_, rfl, R9_mi R f2 (fun r => sp_rd_P (P := fun T => r9 C T) (fun S u v r => s_missed_c (P := fun T => r9 C T) u v r (r9_ms r)) _ _ _ r) (fun r => sp_rd_P (P := fun T => h9 C T) (fun S u v r => s_missed_c (P := fun T => h9 C T) u v r (h9_ms r)) _ _ _ r) (fun r => sp_rd_P (P := fun T => v9 C T) (fun S u v r => s_missed_c (P := fun T => v9 C T) u v r (v9_ms r)) _ _ _ r)⟩
/-! places written to a sheet -/
def wrG (S : zz_M) (s i : Nat) : Int32 := cut (cFm S s) (sp_i (cP S i))
def wrS (S : zz_M) (s : Nat) : zz_M := zz_sA S 18 (fb_put (zz_gA S 18) (wrG S s) (60 * s) (cSz S s))
def a_write (S : zz_M) (u : Int32) : Int32 := zo (-nI 2) (fun s => if cTh S s then nI (cSz S s) else a_fnd 1) (zu u 4)
def s_write (S : zz_M) (u : Int32) : zz_M := zo S (fun s => if cTh S s then wrS S s else zz_sI S 13 (nI 1)) (zu u 4)
theorem q10_atOf (F : Nat) {S : zz_M} (h : ok10 S) (hF : 100 ≤ F) {t : Nat} (ht : t ≤ 96) : ∃ T, pX10_atOf F (nI t) S = some (sp_i (cP S t), T) ∧ sm S T := by
  obtain ⟨T, e1, e2, e3⟩ := q10_walksTold F h hF
  unfold pX10_atOf
  rw [e1]
  simp (disch := omega) only [zz_b1, zl_in, nI_clamp]
  rw [if_pos (by omega), e3.2.1 t ht, ← sm_M e2, ← sm_B e2, ← sm_P e2]
  exact ⟨T, rfl, e2⟩
theorem q10_wrL (F : Nat) {S : zz_M} {s : Nat} (h : ok10 S) (hk : hk10 S) (hs : s < 4) (hF : 100 ≤ F) : ∀ (f m n : Nat) (T : zz_M), sm (zz_sA S 18 (fb_put (zz_gA S 18) (wrG S s) (60 * s) n)) T → n + m = cSz S s → m < f →
    ∃ U, pX10_write_L27_5 (nI s) F f (nI n) T = some (nI (cSz S s), U) ∧ sm (wrS S s) U := by
  obtain ⟨k1, k2, k3, k4, k5⟩ := hk s hs
  intro f
  induction f with
  | zero => intro m n T _ _ h; omega
  | succ f ih =>
    intro m n T e hm hf
    have g17 : zz_gA T 17 = zz_gA S 17 := sm_Ak e (k := 17) (by omega)
    rw [pX10_write_L27_5, g17]
    simp only [zz_lt]
    simp (disch := omega) only [zl_lit, nI_leI, zl_in, nI_clamp, nI_add, k4]
    rw [if_pos hs]
    cases m with
    | zero =>
      have en : n = cSz S s := by omega
      subst en
      rw [if_pos (by omega)]; exact ⟨T, rfl, e⟩
    | succ m =>
      have hT : ok10 T := sm_ok e (have q := h; q)
      obtain ⟨U, u1, u2⟩ := q10_atOf F hT hF (show n ≤ 96 by omega)
      rw [if_neg (by omega), u1]
      simp only [zz_b2]
      have e2 := sm_tr e u2
      have hkU : hk10 U := sm_hk e2 (have q := hk; q)
      have eP : cP T = cP S := by
        have := sm_P e
        exact this
      have eF : cFm U s = cFm S s := by
        unfold cFm; rw [sm_Ak e2 (k := 16) (by omega)]; rfl
      have eA : zz_gA U 18 = fb_put (zz_gA S 18) (wrG S s) (60 * s) n := by
        rw [sm_Ak e2 (k := 18) (by omega), zg_AA, if_pos rfl]
      rw [q10_keep F hkU hs (by omega), eP, eF, eA]
      simp only [zz_b1]
      have e3 : upd (fb_put (zz_gA S 18) (wrG S s) (60 * s) n) (60 * s + n) (cut (cFm S s) (sp_i (cP S n))) = fb_put (zz_gA S 18) (wrG S s) (60 * s) (n + 1) := fb_put_succ (zz_gA S 18) (wrG S s) (60 * s) n
      rw [e3]
      have e4 := sm_cA e2 18 (fb_put (zz_gA S 18) (wrG S s) (60 * s) (n + 1))
      rw [zs_AA] at e4
      exact ih m (n + 1) _ e4 (by omega) (by omega)
theorem q10_write (F : Nat) {S : zz_M} (h : ok10 S) (hk : hk10 S) (hF : 100 ≤ F) (u : Int32) : ∃ T, pX10_write F u S = some (a_write S u, T) ∧ sm (s_write S u) T := by
  unfold pX10_write a_write s_write
  simp only [zl_lit, zz_lt]
  rw [q10_isSheet, q10_meets]
  simp only [zz_b1, zz_b2, zb0]
  cases q : zu u 4 with
  | none => exact ⟨S, rfl, sm_rfl S⟩
  | some s =>
    obtain ⟨h1, h2⟩ := zu_S q
    subst h2
    obtain ⟨k1, k2, k3, k4, k5⟩ := hk s h1
    simp (disch := omega) only [zl_in, nI_clamp, Option.isSome, zo_S, k1, zb0]
    rw [if_neg (by decide), if_pos h1]
    cases cTh S s
    · exact ⟨_, rfl, sm_rfl _⟩
    · rw [if_neg (by decide), if_pos rfl, if_pos rfl]
      exact q10_wrL F h hk h1 hF F (cSz S s) 0 S (by rw [fb_put_0, ss_A]; exact sm_rfl S) (by omega) (by omega)
def gWr (s F : Nat) : Nat → Int32 → zz_M → Option (Int32 × zz_M)
  | 0, _, _ => none
  | n + 1, x, z => if zz_gI z (10 + 3 * s) ≤ x then some (zz_gI z (10 + 3 * s), z) else if nI 96 ≤ x then some (zz_gI z (10 + 3 * s), z) else if zz_in x 96 then zz_b1 (pX5_store F x (zz_gA z 17 x.toNatClampNeg) (zz_gI z (8 + 3 * s)) (zz_gI z (9 + 3 * s)) (zz_gI z (10 + 3 * s)) (zz_gA z (11 + s))) (fun f => gWr s F n (x + nI 1) (zz_sA z (11 + s) f)) else none
theorem gWr_0 (F : Nat) : ∀ n x z, pX9_write_L37_6 F n x z = gWr 0 F n x z
  | 0, _, _ => rfl
  | n + 1, x, z => by rw [pX9_write_L37_6, gWr]; simp only [zz_lt, gWr_0 F n]; rfl
theorem gWr_1 (F : Nat) : ∀ n x z, pX9_write_L37_20 F n x z = gWr 1 F n x z
  | 0, _, _ => rfl
  | n + 1, x, z => by rw [pX9_write_L37_20, gWr]; simp only [zz_lt, gWr_1 F n]; rfl
theorem gWr_2 (F : Nat) : ∀ n x z, pX9_write_L37_34 F n x z = gWr 2 F n x z
  | 0, _, _ => rfl
  | n + 1, x, z => by rw [pX9_write_L37_34, gWr]; simp only [zz_lt, gWr_2 F n]; rfl
theorem gWr_3 (F : Nat) : ∀ n x z, pX9_write_L37_48 F n x z = gWr 3 F n x z
  | 0, _, _ => rfl
  | n + 1, x, z => by rw [pX9_write_L37_48, gWr]; simp only [zz_lt, gWr_3 F n]; rfl
theorem q9_writeG (F : Nat) {s : Nat} (hs : s < 4) (C : zz_M) : pX9_write F (nI s) C = if zz_gI C (8 + 3 * s) = nI 0 then zz_b1 (pX9_settle F C) (fun D => gWr s F F (nI 0) D) else some (a_fnd 1, zz_sI C 24 (nI 1)) := by
  unfold pX9_write
  simp only [gWr_0, gWr_1, gWr_2, gWr_3]
  rw [q9_isSheet, zu_nI hs (by omega)]
  rcases (show s = 0 ∨ s = 1 ∨ s = 2 ∨ s = 3 by omega) with rfl | rfl | rfl | rfl <;> rfl
theorem q9_wrL (F : Nat) {C S : zz_M} {s fm sz : Nat} (hs : s < 4) (n3 : ∀ t, t < 96 → zz_gA C 17 t = sp_i (cP S t)) (k2 : zz_gI C (9 + 3 * s) = nI fm) (k3 : zz_gI C (10 + 3 * s) = nI sz) (hm : fm ≤ 2) (hz : sz ≤ 60) : ∀ (f m n : Nat), n + m = sz → m < f →
    gWr s F f (nI n) (zz_sA C (11 + s) (fb_put (zz_gA C (11 + s)) (fun i => cut fm (sp_i (cP S i))) 0 n)) = some (nI sz, zz_sA C (11 + s) (fb_put (zz_gA C (11 + s)) (fun i => cut fm (sp_i (cP S i))) 0 sz)) := by
  intro f
  induction f with
  | zero => intro m n _ h; omega
  | succ f ih =>
    intro m n hmn hf
    rw [gWr]
    rw [zg_IA, zg_IA, zg_IA, k2, k3, show zz_gA (zz_sA C (11 + s) (fb_put (zz_gA C (11 + s)) (fun i => cut fm (sp_i (cP S i))) 0 n)) 17 = zz_gA C 17 from by rw [zg_AA, if_neg (by omega)], show zz_gA (zz_sA C (11 + s) (fb_put (zz_gA C (11 + s)) (fun i => cut fm (sp_i (cP S i))) 0 n)) (11 + s) = fb_put (zz_gA C (11 + s)) (fun i => cut fm (sp_i (cP S i))) 0 n from by rw [zg_AA, if_pos rfl]]
    simp (disch := omega) only [nI_leI, zl_in, nI_clamp, nI_add]
    cases m with
    | zero => rw [if_pos (by omega), show n = sz by omega]
    | succ m =>
      rw [if_neg (by omega), if_neg (by omega), if_pos (by omega), n3 n (by omega), q5_store F _ _ _ (show n < sz by omega) hm hz]
      simp only [zz_b1]
      have e := fb_put_succ (zz_gA C (11 + s)) (fun i => cut fm (sp_i (cP S i))) 0 n
      rw [Nat.zero_add] at e
      rw [zs_AA, e]
      exact ih m (n + 1) (by omega) (by omega)
theorem q9_write (F : Nat) {C S : zz_M} (h0 : ok10 S) (R : R9 C S) (hF : 100 ≤ F) (u : Int32) : ∃ D, pX9_write F u C = some (a_write S u, D) ∧ R9 D (s_write S u) := by
  unfold a_write s_write
  cases q : zu u 4 with
  | none =>
    refine ⟨C, ?_, R⟩
    unfold pX9_write; rw [q9_isSheet, q]; rfl
  | some s =>
    obtain ⟨h1, h2⟩ := zu_S q
    subst h2
    obtain ⟨D, e1, e2, e3, e4, e5, e6⟩ := q9_set9 F h0 R.1 hF
    have RD := R9_ke R e2 e3
    obtain ⟨k1, -⟩ := R.2.2.1.2 s h1
    obtain ⟨-, k2, k3, k4⟩ := RD.2.2.1.2 s h1
    obtain ⟨g1, g2, g3, g4, g5⟩ := RD.2.2.1.1 s h1
    rw [q9_writeG F h1, k1, zo_S, zo_S]
    cases qt : cTh S s
    · rw [if_neg (show ¬ zb (!false) = nI 0 by decide), if_neg (by decide), if_neg (by decide)]
      exact ⟨_, rfl, R9_fnd R _⟩
    · rw [if_pos (show zb (!true) = nI 0 by decide), if_pos rfl, if_pos rfl, e1]
      simp only [zz_b1]
      have e := q9_wrL F (C := D) (S := S) h1 e4.2.2.1 k2 k3 g3 g5 F (cSz S s) 0 (by omega) (by omega)
      rw [fb_put_0, ss_A] at e
      rw [e]
      refine ⟨_, rfl, ?_⟩
      unfold wrS
      refine R9_it RD h1 (fun i hi => ?_) (fun i hi => ?_)
      · by_cases qi : i < cSz S s
        · rw [fb_put_in (by omega) (by omega), fb_put_in (by omega) (by omega), show 60 * s + i - 60 * s = i by omega, Nat.sub_zero]; rfl
        · rw [fb_put_out (by omega), fb_put_out (by omega)]; exact k4 i hi
      · rw [fb_put_out (by omega)]
