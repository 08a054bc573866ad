/-! the beat's text -/
def sp_way (b : Int32) : Option Nat := if b = nI 110 then some 0 else if b = nI 101 then some 1 else if b = nI 115 then some 2 else if b = nI 119 then some 3 else if b = nI 46 then some 4 else none
theorem sp_way_le {b : Int32} {j : Nat} (h : sp_way b = some j) : j ≤ 4 := by
  unfold sp_way at h
  repeat' split at h
  all_goals first | (cases h; omega) | cases h
theorem q4_stepOf (F : Nat) (b : Int32) : pX4_stepOf F b = some (sp_i (sp_way b)) := by
  unfold pX4_stepOf sp_way
  simp only [zl_lit]
  by_cases h1 : b = nI 110
  · subst h1; decide
  · by_cases h2 : b = nI 101
    · subst h2; decide
    · by_cases h3 : b = nI 115
      · subst h3; decide
      · by_cases h4 : b = nI 119
        · subst h4; decide
        · by_cases h5 : b = nI 46
          · subst h5; decide
          · simp only [h1, h2, h3, h4, h5, if_false]; rfl
theorem q10_wayOf (F : Nat) (b : Int32) : pX10_wayOf F b = some (sp_i (sp_way b)) := by
  unfold pX10_wayOf sp_way
  simp only [zz_lt, zl_lit]
  repeat' split
  all_goals rfl
def sp_bf (b : Nat → Int32) : Nat → Nat → Option Nat
  | 0, _ => none
  | k + 1, i => if (sp_way (b i)).isSome then sp_bf b k (i + 1) else some i
def sp_bs (b : Nat → Int32) (i : Nat) : Nat := (sp_way (b i)).getD 0
theorem sp_bs_le (b : Nat → Int32) (i : Nat) : sp_bs b i ≤ 4 := by
  unfold sp_bs
  cases q : sp_way (b i) with
  | none => exact Nat.zero_le _
  | some j => exact sp_way_le q
/-- fault and steps of the beat's text -/
def sp_bfl (b : Nat → Int32) (L : Nat) : Option Nat := sp_bf b L 0
def sp_bm (b : Nat → Int32) (L : Nat) : Nat := if (sp_bfl b L).isSome then 0 else L
theorem q4_parseL (F n1 L : Nat) (b : Nat → Int32) (hL : L ≤ n1) (hL2 : L ≤ 24) (hn1 : n1 < 2 ^ 30) : ∀ (f k i : Nat) (z : Nat → Int32), i + k = L → k < f → (∀ j, j < i → z j = nI (sp_bs b j)) → ∃ z' : Nat → Int32, pX4_parse_L7_4 n1 F (nI L) b f (nI i) (nI i) z = some (sp_i (sp_bf b k i), nI (if (sp_bf b k i).isSome then 0 else L), z') ∧ ∀ j, j < (if (sp_bf b k i).isSome then 0 else L) → z' j = nI (sp_bs b j) := by
  intro f
  induction f with
  | zero => intro k i z _ h; omega
  | succ f ih =>
    intro k i z hk hf hz
    rw [pX4_parse_L7_4]
    cases k with
    | zero =>
      have e : i = L := by omega
      subst e
      rw [if_pos (nI_le (by omega) (by omega))]
      exact ⟨z, rfl, hz⟩
    | succ k =>
      rw [if_neg (nI_ge (by omega) (by omega)), if_pos ((zl_in (by omega)).mpr (by omega)), nI_clamp (by omega), q4_stepOf]
      simp only [zz_b1, zz_lt]
      rw [sp_bf]
      cases qk : sp_way (b i) with
      | none =>
        rw [if_pos (show sp_i none = (-1 : Int32) from rfl)]
        exact ⟨z, rfl, fun j hj => absurd hj (Nat.not_lt_zero j)⟩
      | some j =>
        have hj := sp_way_le qk
        rw [if_neg (show ¬ sp_i (some j) = (-1 : Int32) from by rw [sp_iS, show (-1 : Int32) = -nI 1 from rfl, zl_m1a (by omega)]; exact id), sp_iS]
        unfold pX4_add
        simp only [zz_lt]
        rw [if_neg (show ¬ (24 : Int32) ≤ nI i from nI_ge (b := 24) (by omega) (by omega)), if_pos ((zl_in (by omega)).mpr (by omega)), nI_clamp (by omega)]
        simp only [zz_b2]
        rw [nI_1]
        have h1 := ih k (i + 1) (upd z i (nI j)) (by omega) (by omega) (fun x hx => by
          by_cases e : x = i
          · subst e; rw [pk_us]; unfold sp_bs; rw [qk]; rfl
          · rw [pk_un e]; exact hz x (by omega))
        exact h1
theorem q4_parse (F n1 L : Nat) (b : Nat → Int32) {c0 : Int32} {s0 : Nat → Int32} (hL : L ≤ n1) (hL2 : L ≤ 24) (hn1 : n1 < 2 ^ 30) (hF : L < F) : ∃ sa : Nat → Int32, pX4_parse F n1 c0 s0 (nI L) b = some (sp_i (sp_bfl b L), nI (sp_bm b L), sa) ∧ sp_B (sp_bm b L) sa (sp_bs b) := by
  obtain ⟨sa, e1, e2⟩ := q4_parseL F n1 L b hL hL2 hn1 F L 0 s0 (by omega) hF (fun j hj => by omega)
  refine ⟨sa, e1, ?_, fun i hi => ⟨e2 i hi, sp_bs_le b i⟩⟩
  unfold sp_bm; split <;> omega
theorem q10_byteAt (F : Nat) {S : zz_M} {tx L k : Nat} (ht : tx < 3) (gt : zz_gA S 0 tx = nI L) (hL : L ≤ 41) (hk : k < 100) : pX10_byteAt F (nI tx) (nI k) S = some (if k < L then zz_gA S 1 (41 * tx + k) else -nI 1) := by
  unfold pX10_byteAt
  simp only [zz_lt]
  simp (disch := omega) only [zl_lit, pk_mul, nI_add, zl_in, nI_clamp, gt, nI_leI]
  rw [if_pos ht]
  by_cases q : k < L
  · rw [if_neg (by omega), if_pos (by omega), if_pos q]
  · rw [if_pos (by omega), if_neg q]
def btS (S : zz_M) (x3 : Int32) (k : Nat → Int32) : zz_M := zz_sA (zz_sI S 3 x3) 3 k
theorem btS_3 (S : zz_M) (x y : Int32) (k : Nat → Int32) : zz_sI (btS S x k) 3 y = btS S y k := by
  show zz_sA (zz_sI (zz_sI S 3 x) 3 y) 3 k = _
  rw [zs_II]; rfl
theorem btS_k (S : zz_M) (x : Int32) (k k' : Nat → Int32) : zz_sA (btS S x k) 3 k' = btS S x k' := by
  unfold btS; rw [zs_AA]
theorem btS_gk (S : zz_M) (x : Int32) (k : Nat → Int32) : zz_gA (btS S x k) 3 = k := rfl
theorem btS_I (S : zz_M) (x : Int32) (k : Nat → Int32) {j : Nat} (h : j ≠ 3) : zz_gI (btS S x k) j = zz_gI S j := by
  unfold btS; rw [zg_IA, zg_II, if_neg h]
theorem btS_A (S : zz_M) (x : Int32) (k : Nat → Int32) {j : Nat} (h : j ≠ 3) : zz_gA (btS S x k) j = zz_gA S j := by
  unfold btS; rw [zg_AA, if_neg h]; rfl
theorem q10_rbL (F L : Nat) {S : zz_M} (b : Nat → Int32) (hL : L ≤ 24) (gt : zz_gA S 0 1 = nI L) (gb : ∀ j, j < L → zz_gA S 1 (41 + j) = b j) : ∀ (f k i : Nat) (z : Nat → Int32), i + k = L → k < f → (∀ j, j < i → z j = nI (sp_bs b j)) → ∃ z' : Nat → Int32, pX10_readsBeat_L7_3 F f (nI i) (btS S (nI 0) z) = some (sp_i (sp_bf b k i), btS S (nI (if (sp_bf b k i).isSome then 0 else L)) z') ∧ ∀ j, j < (if (sp_bf b k i).isSome then 0 else L) → z' j = nI (sp_bs b j) := by
  intro f
  induction f with
  | zero => intro k i z _ h; omega
  | succ f ih =>
    intro k i z hk hf hz
    rw [pX10_readsBeat_L7_3, btS_A (j := 0) _ _ _ (by decide), show Int32.toNatClampNeg 1 = 1 from rfl, gt]
    cases k with
    | zero =>
      have e : i = L := by omega
      subst e
      rw [if_pos (nI_le (by omega) (by omega))]
      simp only [zz_lt]
      rw [btS_3]
      exact ⟨z, rfl, hz⟩
    | succ k =>
      rw [if_neg (nI_ge (by omega) (by omega)), show (1 : Int32) = nI 1 from rfl, q10_byteAt F (tx := 1) (by decide) (by rw [btS_A _ _ _ (by decide)]; exact gt) (by omega) (by omega), btS_A (j := 1) _ _ _ (by decide), if_pos (by omega), gb i (by omega)]
      simp only [zz_b1, zz_lt]
      rw [q10_wayOf, sp_bf]
      simp only
      cases qk : sp_way (b i) with
      | none =>
        rw [if_pos (show sp_i none = -nI 1 from rfl)]
        exact ⟨z, rfl, fun j hj => absurd hj (Nat.not_lt_zero j)⟩
      | some j =>
        have hj := sp_way_le qk
        rw [if_neg (show ¬ sp_i (some j) = -nI 1 from by rw [sp_iS, zl_m1a (by omega)]; exact id), if_pos ((zl_in (by omega)).mpr (by omega)), nI_clamp (by omega), sp_iS, btS_gk, btS_k, nI_add]
        exact ih k (i + 1) (upd z i (nI j)) (by omega) (by omega) (fun x hx => by
          by_cases e : x = i
          · subst e; rw [pk_us]; unfold sp_bs; rw [qk]; rfl
          · rw [pk_un e]; exact hz x (by omega))
theorem q10_readsBeat (F L : Nat) {S : zz_M} (b : Nat → Int32) (hL : L ≤ 24) (gt : zz_gA S 0 1 = nI L) (gb : ∀ j, j < L → zz_gA S 1 (41 + j) = b j) (hF : 100 ≤ F) : ∃ sa : Nat → Int32, pX10_readsBeat F S = some (sp_i (sp_bfl b L), btS S (nI (sp_bm b L)) sa) ∧ sp_B (sp_bm b L) sa (sp_bs b) := by
  unfold pX10_readsBeat
  simp only [zz_lt]
  have e : zz_sI S 3 0 = btS S (nI 0) (zz_gA S 3) := by
    unfold btS
    have e1 : ∀ (T : zz_M) (k : Nat), zz_sA T k (zz_gA T k) = T := fun T k => by unfold zz_sA zz_gA; rw [zs_upS]
    exact (e1 (zz_sI S 3 0) 3).symm
  rw [e]
  obtain ⟨sa, e1, e2⟩ := q10_rbL F L b hL gt gb F L 0 (zz_gA S 3) (by omega) (by omega) (fun j hj => by omega)
  refine ⟨sa, e1, ?_, fun i hi => ⟨e2 i hi, sp_bs_le b i⟩⟩
  unfold sp_bm; split <;> omega
