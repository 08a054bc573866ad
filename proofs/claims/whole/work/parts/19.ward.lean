/-! the ward's text -/
def sp_kind (b : Int32) : Option Nat := if b = nI 46 then some 0 else if b = nI 35 then some 1 else if b = nI 115 then some 2 else if b = nI 108 then some 3 else if b = nI 100 then some 4 else none
theorem sp_kind_le {b : Int32} {j : Nat} (h : sp_kind b = some j) : j ≤ 4 := by
  unfold sp_kind at h
  repeat' split at h
  all_goals first | (cases h; omega) | cases h
theorem sp_kind_59 : sp_kind (nI 59) = none := by decide
theorem q8_kindOf (F : Nat) (b : Int32) : pX8_kindOf F b = some (sp_i (sp_kind b)) := by
  unfold pX8_kindOf sp_kind
  simp only [zl_lit]
  by_cases h1 : b = nI 46
  · subst h1; decide
  · by_cases h2 : b = nI 35
    · subst h2; decide
    · by_cases h3 : b = nI 115
      · subst h3; decide
      · by_cases h4 : b = nI 108
        · subst h4; decide
        · by_cases h5 : b = nI 100
          · subst h5; decide
          · simp only [h1, h2, h3, h4, h5, if_false]; rfl
theorem q10_kindOf (F : Nat) (b : Int32) : pX10_kindOf F b = some (sp_i (sp_kind b)) := by
  unfold pX10_kindOf sp_kind
  simp only [zz_lt, zl_lit]
  repeat' split
  all_goals rfl
def sp_pt (f : Nat → Nat) (k v : Nat) : Nat → Nat := fun j => if j = k then v else f j
/-- reading on: bytes left, place, row, column, cells, width, kinds -/
def sp_wd (b : Nat → Int32) : Nat → Nat → Nat → Nat → Nat → Nat → (Nat → Nat) → Nat ⊕ (Nat × Nat × Nat × Nat × (Nat → Nat))
  | 0, _, r, c, n, w, kn => .inr (r, c, n, w, kn)
  | k + 1, i, r, c, n, w, kn =>
    if r = 6 then .inl i else match sp_kind (b i) with
    | some j => if c < (if r = 0 then 6 else w) then sp_wd b k (i + 1) r (c + 1) (n + 1) w (sp_pt kn n j) else .inl i
    | none => if b i = nI 59 ∧ 0 < c ∧ (r = 0 ∨ c = w) then sp_wd b k (i + 1) (r + 1) 0 n c kn else .inl i
/-- the end of it: fault, cells, width, kinds -/
def sp_wend (L : Nat) : Nat ⊕ (Nat × Nat × Nat × Nat × (Nat → Nat)) → Option Nat × Nat × Nat × (Nat → Nat)
  | .inl x => (some x, 0, 0, fun _ => 0)
  | .inr (r, c, n, w, kn) => if 0 < L ∧ (c = 0 ∨ (0 < r ∧ c < w)) then (some L, 0, 0, fun _ => 0) else (none, n, c, kn)
def sp_ward (b : Nat → Int32) (L : Nat) : Option Nat × Nat × Nat × (Nat → Nat) := sp_wend L (sp_wd b L 0 0 0 0 0 (fun _ => 0))
def sp_wI (r c n w : Nat) (kn : Nat → Nat) : Prop := r ≤ 6 ∧ (r = 0 → c ≤ 6 ∧ n = c) ∧ (0 < r → 0 < w ∧ w ≤ 6 ∧ c ≤ w ∧ n = r * w + c) ∧ ∀ j, j < n → kn j ≤ 4
theorem sp_wI_add {r c n w j : Nat} {kn : Nat → Nat} (h : sp_wI r c n w kn) (hr : ¬ r = 6) (hc : c < (if r = 0 then 6 else w)) (hj : j ≤ 4) : sp_wI r (c + 1) (n + 1) w (sp_pt kn n j) := by
  obtain ⟨h1, h2, h3, h4⟩ := h
  refine ⟨h1, fun e => ?_, fun e => ?_, fun x hx => ?_⟩
  · rw [if_pos e] at hc; have := h2 e; omega
  · rw [if_neg (by omega)] at hc; have := h3 e; omega
  · unfold sp_pt; split
    · exact hj
    · exact h4 x (by omega)
theorem sp_wI_row {r c n w : Nat} {kn : Nat → Nat} (h : sp_wI r c n w kn) (hr : ¬ r = 6) (h0 : 0 < c) (hc : r = 0 ∨ c = w) : sp_wI (r + 1) 0 n c kn := by
  obtain ⟨h1, h2, h3, h4⟩ := h
  refine ⟨by omega, fun e => by omega, fun _ => ?_, h4⟩
  rcases Nat.eq_zero_or_pos r with e | e
  · subst e; have := h2 rfl; omega
  · have := h3 e
    rcases hc with q | q
    · omega
    · subst q; obtain ⟨a1, a2, a3, a4⟩ := this
      refine ⟨a1, a2, by omega, ?_⟩
      rw [a4, Nat.succ_mul]; omega
theorem sp_wI_n {r c n w : Nat} {kn : Nat → Nat} (h : sp_wI r c n w kn) : c ≤ 6 ∧ w * 0 = 0 ∧ (¬ r = 6 → n ≤ 36) ∧ (¬ r = 6 → c < (if r = 0 then 6 else w) → n < 36) := by
  obtain ⟨h1, h2, h3, h4⟩ := h
  rcases Nat.eq_zero_or_pos r with e | e
  · subst e; have := h2 rfl; simp only [if_pos]; omega
  · obtain ⟨a1, a2, a3, a4⟩ := h3 e
    have hb : ∀ x : Nat, x ≤ 5 → x * w ≤ 5 * 6 := fun x hx => Nat.mul_le_mul hx a2
    refine ⟨by omega, by omega, fun q => ?_, fun q q2 => ?_⟩
    · have := hb r (by omega); omega
    · rw [if_neg (by omega)] at q2; have := hb r (by omega); omega
/-- cells that are shops, as bits -/
def sp_shm (kn : Nat → Nat) : Nat → Nat
  | 0 => 0
  | n + 1 => if kn n = 2 then sp_shm kn n ||| 2 ^ n else sp_shm kn n
theorem sp_shm_cg {kn kn' : Nat → Nat} : ∀ n, (∀ j, j < n → kn j = kn' j) → sp_shm kn n = sp_shm kn' n
  | 0, _ => rfl
  | n + 1, h => by rw [sp_shm, sp_shm, h n (by omega), sp_shm_cg n (fun j hj => h j (by omega))]
theorem q8_addCell (F : Nat) {n j m : Nat} {w : Int32} {ks : Nat → Int32} (hn : n < 36) (hj : j ≤ 4) : pX8_addCell F (nI j) (nI n) w (lN m) ks = some (nI (n + 1), lN (if j = 2 then m ||| 2 ^ n else m), upd ks n (nI j)) := by
  unfold pX8_addCell
  simp only [zz_lt]
  simp (disch := omega) only [zl_lit, zl_litL, nI_leI, nI_eq, nI_add, zl_in, nI_clamp]
  rw [if_neg (by omega), if_pos (by omega), zl_shl1 (by omega)]
  by_cases q : j = 2
  · rw [if_pos q, if_pos q, fb_orL]
  · rw [if_neg q, if_neg q, fb_orL, Nat.or_zero]
theorem q8_fail (F : Nat) (x c w : Int32) (sh : Int64) (ks : Nat → Int32) : pX8_fail F x c w sh ks = some (x, nI 0, nI 0, lN 0) := rfl
theorem sp_wd_s {b : Nat → Int32} {k i r c n w : Nat} {kn : Nat → Nat} : sp_wd b (k + 1) i r c n w kn = if r = 6 then .inl i else match sp_kind (b i) with
    | some j => if c < (if r = 0 then 6 else w) then sp_wd b k (i + 1) r (c + 1) (n + 1) w (sp_pt kn n j) else .inl i
    | none => if b i = nI 59 ∧ 0 < c ∧ (r = 0 ∨ c = w) then sp_wd b k (i + 1) (r + 1) 0 n c kn else .inl i := rfl
set_option maxHeartbeats 4000000 in
theorem q8_parseL (F n1 L : Nat) (b : Nat → Int32) (hL : L ≤ n1) (hn1 : n1 < 2 ^ 30) : ∀ (f k i r c n w : Nat) (kn : Nat → Nat) (ks : Nat → Int32), i + k = L → k < f → sp_wI r c n w kn → (∀ j, j < n → ks j = nI (kn j)) → w ≤ 6 →
    ∃ ks' : Nat → Int32, pX8_parse_L11_11 n1 F (nI L) b f (nI r) (nI c) (nI i) (nI n) (nI w) (lN (sp_shm kn n)) ks = some (sp_i (sp_wend L (sp_wd b k i r c n w kn)).1, nI (sp_wend L (sp_wd b k i r c n w kn)).2.1, nI (sp_wend L (sp_wd b k i r c n w kn)).2.2.1, lN (sp_shm (sp_wend L (sp_wd b k i r c n w kn)).2.2.2 (sp_wend L (sp_wd b k i r c n w kn)).2.1), ks') ∧ (∀ j, j < (sp_wend L (sp_wd b k i r c n w kn)).2.1 → ks' j = nI ((sp_wend L (sp_wd b k i r c n w kn)).2.2.2 j)) := by
  intro f
  induction f with
  | zero => intro k i r c n w kn ks _ h; omega
  | succ f ih =>
    intro k i r c n w kn ks hk hf hI hks hw
    obtain ⟨n1', -, n2, n3⟩ := sp_wI_n hI
    have hr6 := hI.1
    rw [pX8_parse_L11_11]
    simp only [zz_lt, q8_fail, zz_b4]
    simp (config := { maxSteps := 2000000 }) (disch := omega) only [zl_lit, nI_leI, nI_eq, zl_in, nI_clamp]
    have flt : ∀ x : Nat, ∃ ks' : Nat → Int32, some (nI x, nI 0, nI 0, lN 0, ks) = some (sp_i (sp_wend L (.inl x)).1, nI (sp_wend L (.inl x)).2.1, nI (sp_wend L (.inl x)).2.2.1, lN (sp_shm (sp_wend L (.inl x)).2.2.2 (sp_wend L (.inl x)).2.1), ks') ∧ (∀ j, j < (sp_wend L (.inl x)).2.1 → ks' j = nI ((sp_wend L (.inl x)).2.2.2 j)) := fun x => ⟨ks, rfl, fun j hj => absurd hj (Nat.not_lt_zero j)⟩
    cases k with
    | zero =>
      rw [if_pos (by omega), sp_wd, sp_wend]
      by_cases q : 0 < L ∧ (c = 0 ∨ (0 < r ∧ c < w))
      · rw [if_pos q, if_neg (by omega)]
        have e : (if c = 0 then some (nI L, nI 0, nI 0, lN 0, ks) else if r ≤ 0 then some (-nI 1, nI n, nI c, lN (sp_shm kn n), ks) else if w ≤ c then some (-nI 1, nI n, nI c, lN (sp_shm kn n), ks) else some (nI L, nI 0, nI 0, lN 0, ks)) = some (nI L, nI 0, nI 0, lN 0, ks) := by
          by_cases q1 : c = 0
          · rw [if_pos q1]
          · rw [if_neg q1, if_neg (by omega), if_neg (by omega)]
        rw [e]
        exact ⟨ks, rfl, fun j hj => absurd hj (Nat.not_lt_zero j)⟩
      · rw [if_neg q]
        refine ⟨ks, ?_, hks⟩
        by_cases q1 : L ≤ 0
        · rw [if_pos q1]; rfl
        · rw [if_neg q1, if_neg (by omega)]
          by_cases q2 : r ≤ 0
          · rw [if_pos q2]; rfl
          · rw [if_neg q2, if_pos (by omega)]; rfl
    | succ k =>
      rw [if_neg (by omega), if_pos (by omega), q8_kindOf]
      simp only [zz_b1]
      rw [sp_wd_s]
      by_cases q6 : r = 6
      · rw [if_pos q6, if_pos q6]; exact flt i
      · rw [if_neg q6, if_neg q6]
        have n3' := n3 q6
        have n2' := n2 q6
        simp only [if_pos (show i < n1 by omega)]
        cases qk : sp_kind (b i) with
        | some j =>
          have hj := sp_kind_le qk
          have hb : ¬ b i = nI 59 := fun e => by rw [e, sp_kind_59] at qk; cases qk
          rw [if_neg (show ¬ sp_i (some j) = -nI 1 from by rw [sp_iS, zl_m1a (by omega)]; exact id), if_neg hb]
          have ev : (if r = 0 then nI 6 else nI w) = nI (if r = 0 then 6 else w) := by split <;> rfl
          rw [ev, sp_iS]
          by_cases qc : c < (if r = 0 then 6 else w)
          · rw [if_neg (by rw [nI_leI (by split <;> omega) (by omega)]; omega), q8_addCell F (n3' qc) hj]
            simp only [zz_b3, if_pos qc]
            rw [nI_add, nI_add]
            have h1 := ih k (i + 1) r (c + 1) (n + 1) w (sp_pt kn n j) (upd ks n (nI j)) (by omega) (by omega) (sp_wI_add hI q6 qc hj) (fun x hx => by
              unfold sp_pt
              by_cases e : x = n
              · subst e; rw [pk_us, if_pos rfl]
              · rw [pk_un e, if_neg e]; exact hks x (by omega)) hw
            have es : sp_shm (sp_pt kn n j) (n + 1) = if j = 2 then sp_shm kn n ||| 2 ^ n else sp_shm kn n := by
              rw [sp_shm, sp_shm_cg (kn' := kn) n (fun x hx => by unfold sp_pt; rw [if_neg (by omega)])]
              unfold sp_pt; rw [if_pos rfl]
            rw [es] at h1
            exact h1
          · rw [if_pos (by rw [nI_leI (by split <;> omega) (by omega)]; omega)]
            simp only [if_neg qc]
            exact flt i
        | none =>
          rw [if_pos sp_iN]
          simp only
          by_cases q : b i = nI 59 ∧ 0 < c ∧ (r = 0 ∨ c = w)
          · obtain ⟨e1, e2, e3⟩ := id q
            rw [if_pos q, if_pos e1, if_neg (by omega)]
            have h1 := ih k (i + 1) (r + 1) 0 n c kn ks (by omega) (by omega) (sp_wI_row hI q6 e2 e3) hks (by omega)
            rw [nI_add, nI_add]
            by_cases q0 : r = 0
            · rw [if_pos q0]; exact h1
            · rw [if_neg q0, if_pos (by omega)]; exact h1
          · rw [if_neg q]
            by_cases e1 : b i = nI 59
            · rw [if_pos e1]
              by_cases e2 : c ≤ 0
              · rw [if_pos e2]; exact flt i
              · have e3 : ¬ (r = 0 ∨ c = w) := fun z => q ⟨e1, by omega, z⟩
                rw [if_neg e2, if_neg (fun z => e3 (Or.inl z)), if_neg (fun z => e3 (Or.inr z))]; exact flt i
            · rw [if_neg e1]; exact flt i
theorem q8_parse (F n1 L : Nat) (b : Nat → Int32) {c0 w0 : Int32} {sh0 : Int64} {ks0 : Nat → Int32} (hL : L ≤ n1) (hn1 : n1 < 2 ^ 30) (hF : L < F) : ∃ ks' : Nat → Int32, pX8_parse F n1 c0 w0 sh0 ks0 (nI L) b = some (sp_i (sp_ward b L).1, nI (sp_ward b L).2.1, nI (sp_ward b L).2.2.1, lN (sp_shm (sp_ward b L).2.2.2 (sp_ward b L).2.1), ks') ∧ (∀ j, j < (sp_ward b L).2.1 → ks' j = nI ((sp_ward b L).2.2.2 j)) :=
  q8_parseL F n1 L b hL hn1 F L 0 0 0 0 0 (fun _ => 0) ks0 (by omega) hF ⟨by omega, fun _ => ⟨by omega, rfl⟩, fun h => absurd h (by decide), fun j hj => by omega⟩ (fun j hj => by omega) (by omega)
