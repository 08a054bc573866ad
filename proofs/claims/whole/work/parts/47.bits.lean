/-! bits: how many, the i-th -/
theorem cnt_mono (p : Nat → Bool) (c : Nat) : ∀ k, fa_cnt p c ≤ fa_cnt p (c + k)
  | 0 => Nat.le_refl _
  | k + 1 => by
    have := cnt_mono p c k
    rw [show c + (k + 1) = c + k + 1 from rfl, fa_cnt]; omega
theorem cnt_add (p : Nat → Bool) (m : Nat) : ∀ n, fa_cnt p (m + n) = fa_cnt p m + fa_cnt (fun j => p (m + j)) n
  | 0 => rfl
  | n + 1 => by rw [show m + (n + 1) = m + n + 1 from rfl, fa_cnt, fa_cnt, cnt_add p m n]; omega
def sp_fd (p : Nat → Bool) (i : Nat) : Nat → Option Nat
  | 0 => none
  | c + 1 => if p c = true ∧ fa_cnt p c = i then some c else sp_fd p i c
theorem sp_fd_S {p : Nat → Bool} {i : Nat} : ∀ (c x : Nat), sp_fd p i c = some x → i < fa_cnt p c
  | 0, x, h => by rw [sp_fd] at h; cases h
  | c + 1, x, h => by
    rw [sp_fd] at h
    split at h
    · rename_i q
      rw [fa_cnt_yes q.1]; omega
    · have := sp_fd_S c x h
      have h2 := cnt_mono p c 1
      omega
theorem sp_fd_k {p : Nat → Bool} {i c : Nat} (h : i < fa_cnt p c) : ∀ k, sp_fd p i (c + k) = sp_fd p i c
  | 0 => rfl
  | k + 1 => by
    have h2 := cnt_mono p c k
    rw [show c + (k + 1) = c + k + 1 from rfl, sp_fd, if_neg (fun z => by omega), sp_fd_k h k]
theorem q9_bit {u c : Nat} (hu : u < 2 ^ 63) (hc : c < 64) : (lg_cmp ((zz_lushr (lN u) (nI c)) &&& lN 1) (lN 0) = nI 0) ↔ u.testBit c = false := by
  unfold zz_lushr
  rw [show nI 0 = 0 from rfl, lg_cmp_eq, show lN 1 = 1 from rfl, wb_bit (by omega) hc, Nat.testBit_eq_decide_div_mod_eq]
  have hb : u / 2 ^ c % 2 < 2 := Nat.mod_lt _ (by decide)
  generalize u / 2 ^ c % 2 = x at hb ⊢
  rcases (show x = 0 ∨ x = 1 by omega) with rfl | rfl <;> decide
theorem q9_pbL {u i : Nat} (hu : u < 2 ^ 63) (hi : i ≤ 36) : ∀ (f k c : Nat), c + k = 36 → k < f → fa_cnt u.testBit c ≤ i →
    pX9_placeOfBit_L5_2 (lN u) f (nI (i - fa_cnt u.testBit c)) (nI c) = some (sp_i (sp_fd u.testBit i 36)) := by
  intro f
  induction f with
  | zero => intro k c _ h; omega
  | succ f ih =>
    intro k c hk hf hle
    rw [pX9_placeOfBit_L5_2]
    simp only [zz_lt]
    simp (disch := omega) only [zl_lit, zl_litL, nI_leI, nI_add, q9_bit hu (show c < 64 by omega)]
    cases k with
    | zero =>
      have e : c = 36 := by omega
      subst e
      rw [if_pos (by omega)]
      cases q : sp_fd u.testBit i 36 with
      | none => rfl
      | some x => have := sp_fd_S _ _ q; omega
    | succ k =>
      rw [if_neg (by omega)]
      have h1 := ih k (c + 1) (by omega) (by omega)
      cases q : u.testBit c
      · rw [if_pos rfl]
        rw [fa_cnt_no q] at h1
        exact h1 hle
      · rw [if_neg (by decide)]
        rw [fa_cnt_yes q] at h1
        simp (disch := omega) only [nI_eq]
        by_cases q2 : i - fa_cnt u.testBit c = 0
        · rw [if_pos q2]
          have e : sp_fd u.testBit i 36 = some c := by
            have e1 : sp_fd u.testBit i (c + 1) = some c := by rw [sp_fd, if_pos ⟨q, by omega⟩]
            have e2 := sp_fd_k (p := u.testBit) (i := i) (c := c + 1) (by rw [fa_cnt_yes q]; omega) (35 - c)
            rw [show c + 1 + (35 - c) = 36 by omega] at e2
            rw [e2, e1]
          rw [e]; rfl
        · rw [if_neg q2]
          have h2 := h1 (by omega)
          rw [show i - fa_cnt u.testBit c = (i - (fa_cnt u.testBit c + 1)) + 1 by omega, show (-nI 1 : Int32) = -1 from rfl, pk_m1]
          exact h2
theorem q9_placeOfBit (F : Nat) {u i : Nat} (hu : u < 2 ^ 63) (hi : i ≤ 36) (hF : 100 ≤ F) : pX9_placeOfBit F (lN u) (nI i) = some (sp_i (sp_fd u.testBit i 36)) := by
  unfold pX9_placeOfBit
  exact q9_pbL hu hi F 36 0 (by omega) (by omega) (by rw [fa_cnt]; omega)
/-! how many bits a long has -/
def pc_by (g : Nat → Nat) : Nat → Nat → Nat
  | 0, _ => 0
  | k + 1, u => g (u % 256) + 256 * pc_by g k (u / 256)
def sp_rp (m : Nat) : Nat → Nat
  | 0 => 0
  | k + 1 => m + 256 * sp_rp m k
theorem pc_and {m : Nat} (a r : Nat) (hm : m < 256) : a &&& (m + 256 * r) = (a % 256 &&& m) + 256 * (a / 256 &&& r) := by
  have h1 : (a &&& (m + 256 * r)) % 2 ^ 8 = (a % 256 &&& m) := by
    rw [Nat.and_mod_two_pow]
    have : (m + 256 * r) % 2 ^ 8 = m := by omega
    rw [this]
  have h2 : (a &&& (m + 256 * r)) / 2 ^ 8 = (a / 256 &&& r) := by
    rw [Nat.and_div_two_pow]
    have : (m + 256 * r) / 2 ^ 8 = r := by omega
    rw [this]
  rw [← h1, ← h2]; omega
theorem pc_d1 : ∀ x, x < 256 → ∀ b, b < 2 → ((x / 2 + 128 * b) &&& 85) = (x / 2 &&& 85) ∧ (x / 2 &&& 85) ≤ x := by decide +kernel
theorem pc_d2 : ∀ x, x < 256 → ∀ b, b < 4 → ((x / 4 + 64 * b) &&& 51) = (x / 4 &&& 51) := by decide +kernel
theorem pc_d3 : ∀ x, x < 256 → x % 16 ≤ 4 → x / 16 ≤ 4 → ∀ b, b < 5 → ((x + x / 16 + 16 * b) &&& 15) = ((x + x / 16) &&& 15) := by decide +kernel
def pc_1 (x : Nat) : Nat := x - (x / 2 &&& 85)
def pc_2 (x : Nat) : Nat := (pc_1 x &&& 51) + (pc_1 x / 4 &&& 51)
def pc_3 (x : Nat) : Nat := (pc_2 x + pc_2 x / 16) &&& 15
theorem pc_b : ∀ x, x < 256 → pc_1 x < 256 ∧ pc_2 x < 256 ∧ pc_2 x % 16 ≤ 4 ∧ pc_2 x / 16 ≤ 4 ∧ pc_3 x ≤ 8 ∧ pc_3 x = fa_cnt x.testBit 8 := by decide +kernel
theorem pc_s1 : ∀ k u, u < 256 ^ k → u - (u / 2 &&& sp_rp 85 k) = pc_by pc_1 k u ∧ (u / 2 &&& sp_rp 85 k) ≤ u
  | 0, u, h => by
    have : u = 0 := by rw [Nat.pow_zero] at h; omega
    subst this; rw [sp_rp, pc_by]; simp
  | k + 1, u, h => by
    rw [Nat.pow_succ] at h
    obtain ⟨i1, i2⟩ := pc_s1 k (u / 256) (by generalize 256 ^ k = P at h; omega)
    rw [sp_rp, pc_by, pc_and _ _ (by omega)]
    obtain ⟨d1, d2⟩ := pc_d1 (u % 256) (by omega) (u / 256 % 2) (by omega)
    rw [show u / 2 % 256 = u % 256 / 2 + 128 * (u / 256 % 2) by omega, d1, show u / 2 / 256 = u / 256 / 2 by omega, ← i1]
    unfold pc_1
    generalize (u % 256 / 2 &&& 85) = X at d2 ⊢
    generalize (u / 256 / 2 &&& sp_rp 85 k) = Y at i2 ⊢
    omega
theorem pc_s2 (g : Nat → Nat) (hg : ∀ x, x < 256 → g x < 256) : ∀ k u, (pc_by g k u &&& sp_rp 51 k) + (pc_by g k u / 4 &&& sp_rp 51 k) = pc_by (fun x => (g x &&& 51) + (g x / 4 &&& 51)) k u
  | 0, u => by rw [sp_rp, pc_by, pc_by]; simp
  | k + 1, u => by
    have ih := pc_s2 g hg k (u / 256)
    rw [pc_by, pc_by, sp_rp, pc_and _ _ (by omega), pc_and _ _ (by omega)]
    have hx := hg (u % 256) (by omega)
    generalize pc_by g k (u / 256) = Y at ih ⊢
    rw [← ih]
    generalize g (u % 256) = x at hx ⊢
    rw [show (x + 256 * Y) % 256 = x by omega, show (x + 256 * Y) / 256 = Y by omega, show (x + 256 * Y) / 4 % 256 = x / 4 + 64 * (Y % 4) by omega, show (x + 256 * Y) / 4 / 256 = Y / 4 by omega, pc_d2 x hx (Y % 4) (by omega)]
    omega
theorem pc_s3 (g : Nat → Nat) (hg : ∀ x, x < 256 → g x < 256 ∧ g x % 16 ≤ 4 ∧ g x / 16 ≤ 4) : ∀ k u, (pc_by g k u + pc_by g k u / 16 &&& sp_rp 15 k) = pc_by (fun x => (g x + g x / 16) &&& 15) k u ∧ pc_by g k u % 16 ≤ 4
  | 0, u => by rw [sp_rp, pc_by, pc_by]; simp
  | k + 1, u => by
    have ih := pc_s3 g hg k (u / 256)
    rw [pc_by, pc_by, sp_rp, pc_and _ _ (by omega)]
    obtain ⟨hx, hy, hz⟩ := hg (u % 256) (by omega)
    generalize pc_by g k (u / 256) = Y at ih ⊢
    obtain ⟨i1, i2⟩ := ih
    rw [← i1]
    generalize g (u % 256) = x at hx hy hz ⊢
    rw [show (x + 256 * Y + (x + 256 * Y) / 16) % 256 = x + x / 16 + 16 * (Y % 16) by omega, show (x + 256 * Y + (x + 256 * Y) / 16) / 256 = Y + Y / 16 by omega, pc_d3 x hx hy hz (Y % 16) (by omega)]
    exact ⟨rfl, by omega⟩
theorem pc_sum : ∀ k u, ∃ t, fa_cnt u.testBit (8 * (k + 1)) = pc_3 (u % 256) + t ∧ t = fa_cnt (u / 256).testBit (8 * k)
  | k, u => by
    refine ⟨_, ?_, rfl⟩
    rw [show 8 * (k + 1) = 8 + 8 * k by omega, cnt_add]
    have e1 : fa_cnt u.testBit 8 = pc_3 (u % 256) := by
      rw [(pc_b (u % 256) (by omega)).2.2.2.2.2]
      apply fa_cnt_cong
      intro j hj
      rw [show (256 : Nat) = 2 ^ 8 from rfl, Nat.testBit_mod_two_pow, decide_eq_true hj, Bool.true_and]
    have e2 : (fun j => u.testBit (8 + j)) = (u / 256).testBit := by
      funext j
      rw [show (256 : Nat) = 2 ^ 8 from rfl, Nat.testBit_div_two_pow, Nat.add_comm]
    rw [e1, e2]
theorem pc_by5 {u : Nat} (h : u < 2 ^ 36) : ∃ a b c d e : Nat, pc_by pc_3 8 u = a + 256 * (b + 256 * (c + 256 * (d + 256 * e))) ∧ a ≤ 8 ∧ b ≤ 8 ∧ c ≤ 8 ∧ d ≤ 8 ∧ e ≤ 8 ∧ a + b + c + d + e = fa_cnt u.testBit 36 := by
  refine ⟨pc_3 (u % 256), pc_3 (u / 256 % 256), pc_3 (u / 256 / 256 % 256), pc_3 (u / 256 / 256 / 256 % 256), pc_3 (u / 256 / 256 / 256 / 256 % 256), ?_, (pc_b _ (by omega)).2.2.2.2.1, (pc_b _ (by omega)).2.2.2.2.1, (pc_b _ (by omega)).2.2.2.2.1, (pc_b _ (by omega)).2.2.2.2.1, (pc_b _ (by omega)).2.2.2.2.1, ?_⟩
  · have z : u / 256 / 256 / 256 / 256 / 256 = 0 := by omega
    have z3 : pc_3 (0 % 256) = 0 := by decide
    simp only [pc_by, z, Nat.zero_div, z3, Nat.mul_zero, Nat.add_zero]
  · obtain ⟨t0, s0, r0⟩ := pc_sum 4 u
    obtain ⟨t1, s1, r1⟩ := pc_sum 3 (u / 256)
    obtain ⟨t2, s2, r2⟩ := pc_sum 2 (u / 256 / 256)
    obtain ⟨t3, s3, r3⟩ := pc_sum 1 (u / 256 / 256 / 256)
    obtain ⟨t4, s4, r4⟩ := pc_sum 0 (u / 256 / 256 / 256 / 256)
    have e : fa_cnt u.testBit 40 = fa_cnt u.testBit 36 := by
      have hz : ∀ j, 36 ≤ j → u.testBit j = false := fun j hj => Nat.testBit_lt_two_pow (Nat.lt_of_lt_of_le h (Nat.pow_le_pow_right (by decide) hj))
      rw [show (40 : Nat) = 36 + 1 + 1 + 1 + 1 from rfl, fa_cnt_no (hz _ (by omega)), fa_cnt_no (hz _ (by omega)), fa_cnt_no (hz _ (by omega)), fa_cnt_no (hz _ (by omega))]
    have e0 : t4 = 0 := r4
    rw [← e]
    have s0' : fa_cnt u.testBit 40 = _ := s0
    rw [s0']
    have s1' : t0 = _ := r0.trans s1
    have s2' : t1 = _ := r1.trans s2
    have s3' : t2 = _ := r2.trans s3
    have s4' : t3 = _ := r3.trans s4
    omega
theorem qJ_shr {n k : Nat} (hn : n < 2 ^ 64) (hk : k < 64) : zz_lushr (lN n) (nI k) = lN (n / 2 ^ k) := by
  unfold zz_lushr; exact wb_shr hn hk
theorem qJ_bitCountL (F : Nat) {u : Nat} (h : u < 2 ^ 36) : pJ13_bitCount_95d88 F (lN u) = some (nI (fa_cnt u.testBit 36)) := by
  obtain ⟨a, b, c, d, e, hB, ha, hb, hc, hd, he, hs⟩ := pc_by5 h
  obtain ⟨e1, e1'⟩ := pc_s1 8 u (by omega)
  have e2 := pc_s2 pc_1 (fun x hx => (pc_b x hx).1) 8 u
  have e3 := (pc_s3 pc_2 (fun x hx => ⟨(pc_b x hx).2.1, (pc_b x hx).2.2.1, (pc_b x hx).2.2.2.1⟩) 8 u).1
  have f2 : pc_by (fun x => (pc_1 x &&& 51) + (pc_1 x / 4 &&& 51)) 8 u = pc_by pc_2 8 u := rfl
  have f3 : pc_by (fun x => (pc_2 x + pc_2 x / 16) &&& 15) 8 u = pc_by pc_3 8 u := rfl
  rw [f2] at e2
  rw [f3] at e3
  have g1 : sp_rp 85 8 = 6148914691236517205 := by decide
  have g2 : sp_rp 51 8 = 3689348814741910323 := by decide
  have g3 : sp_rp 15 8 = 1085102592571150095 := by decide
  rw [g1] at e1 e1'
  rw [g2] at e2
  rw [g3, hB] at e3
  have b1 : pc_by pc_1 8 u ≤ u := by rw [← e1]; exact Nat.sub_le _ _
  have b2 : pc_by pc_2 8 u ≤ pc_by pc_1 8 u + pc_by pc_1 8 u / 4 := by
    rw [← e2]
    exact Nat.add_le_add Nat.and_le_left Nat.and_le_left
  unfold pJ13_bitCount_95d88
  simp only [zz_lt, zl_lit, zl_litL]
  rw [qJ_shr (by omega) (by omega), fb_andL, Nat.pow_one, lN_sub e1', e1]
  rw [fb_andL, qJ_shr (by omega) (by omega), fb_andL, lN_add, show (2 : Nat) ^ 2 = 4 from rfl, e2]
  rw [qJ_shr (by omega) (by omega), lN_add, fb_andL, show (2 : Nat) ^ 4 = 16 from rfl, e3]
  rw [qJ_shr (by omega) (by omega), lN_add, qJ_shr (by omega) (by omega), lN_add, qJ_shr (by omega) (by omega), lN_add, zl_l2i, show nI 127 = nI (2 ^ 7 - 1) from rfl, fa_mask]
  rw [← hs]
  congr 2
  have x1 : (a + 256 * (b + 256 * (c + 256 * (d + 256 * e)))) / 2 ^ 8 = b + 256 * (c + 256 * (d + 256 * e)) := by omega
  rw [x1]
  have x2 : (a + 256 * (b + 256 * (c + 256 * (d + 256 * e))) + (b + 256 * (c + 256 * (d + 256 * e)))) / 2 ^ 16 = (c + d) + 256 * ((d + e) + 256 * e) := by omega
  rw [x2]
  have x3 : (a + 256 * (b + 256 * (c + 256 * (d + 256 * e))) + (b + 256 * (c + 256 * (d + 256 * e))) + ((c + d) + 256 * ((d + e) + 256 * e))) / 2 ^ 32 = e := by omega
  rw [x3]
  omega
theorem mk_cnt (p : Nat → Bool) {n : Nat} (hn : n ≤ 36) : fa_cnt (sp_mk p n).testBit 36 = fa_cnt p n := by
  have e1 : fa_cnt (sp_mk p n).testBit 36 = fa_cnt (sp_mk p n).testBit n := by
    have := cnt_add (sp_mk p n).testBit n (36 - n)
    rw [show n + (36 - n) = 36 by omega] at this
    rw [this]
    have z : fa_cnt (fun j => (sp_mk p n).testBit (n + j)) (36 - n) = fa_cnt (fun _ => false) (36 - n) := fa_cnt_cong (fun j _ => by rw [sp_mk_b, decide_eq_false (by omega)]; rfl)
    have z2 : ∀ m, fa_cnt (fun _ => false) m = 0 := fun m => by
      induction m with
      | zero => rfl
      | succ m ih => rw [fa_cnt_no rfl, ih]
    rw [z, z2, Nat.add_zero]
  rw [e1]
  exact fa_cnt_cong (fun j hj => by rw [sp_mk_b, decide_eq_true hj, Bool.true_and])
theorem mk_fd (p : Nat → Bool) {i : Nat} : ∀ {n : Nat}, (∀ m, n ≤ m → p m = false) → ∀ k, sp_fd p i (n + k) = sp_fd p i n := by
  intro n h k
  induction k with
  | zero => rfl
  | succ k ih => rw [show n + (k + 1) = n + k + 1 from rfl, sp_fd, if_neg (by rw [h (n + k) (by omega)]; simp), ih]
theorem fd_cg {p q : Nat → Bool} {i : Nat} : ∀ n, (∀ j, j < n → p j = q j) → sp_fd p i n = sp_fd q i n
  | 0, _ => rfl
  | n + 1, h => by
    rw [sp_fd, sp_fd, h n (by omega), fa_cnt_cong (fun k hk => h k (by omega)), fd_cg n (fun j hj => h j (by omega))]
theorem mk_fd36 (p : Nat → Bool) {n i : Nat} (hn : n ≤ 36) : sp_fd (sp_mk p n).testBit i 36 = sp_fd p i n := by
  have := mk_fd (sp_mk p n).testBit (i := i) (n := n) (fun m hm => by rw [sp_mk_b, decide_eq_false (by omega)]; rfl) (36 - n)
  rw [show n + (36 - n) = 36 by omega] at this
  rw [this]
  exact fd_cg n (fun j hj => by rw [sp_mk_b, decide_eq_true hj, Bool.true_and])
