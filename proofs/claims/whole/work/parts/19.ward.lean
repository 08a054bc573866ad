/-! the ward's text -/
def sp_kind (b : Int32) : Option Nat := if b = nI 46 then some 0 else if b = nI 35 then some 1 else if b = nI 115 then some 2 else if b = nI 108 then some 3 else if b = nI 100 then some 4 else none
theorem sp_kind_le {b : Int32} {j : Nat} (h : sp_kind b = some j) : j ≤ 4 := by
  unfold sp_kind at h
  repeat' split at h
  all_goals first | (cases h; omega) | cases h
theorem sp_kind_59 : sp_kind (nI 59) = none := by decide
theorem q8_kindOf (F : Nat) (b : Int32) : pX8_kindOf F b = some (sp_i (sp_kind b)) := by
  unfold pX8_kindOf sp_kind
  simp only [zl_lit]
  by_cases h1 : b = nI 46
  · subst h1; decide
  · by_cases h2 : b = nI 35
    · subst h2; decide
    · by_cases h3 : b = nI 115
      · subst h3; decide
      · by_cases h4 : b = nI 108
        · subst h4; decide
        · by_cases h5 : b = nI 100
          · subst h5; decide
          · simp only [h1, h2, h3, h4, h5, if_false]; rfl
theorem q10_kindOf (F : Nat) (b : Int32) : pX10_kindOf F b = some (sp_i (sp_kind b)) := by
  unfold pX10_kindOf sp_kind
  simp only [zz_lt, zl_lit]
  repeat' split
  all_goals rfl
def sp_pt (f : Nat → Nat) (k v : Nat) : Nat → Nat := fun j => if j = k then v else f j
/-- reading on: bytes left, place, row, column, cells, width, kinds -/
def sp_wd (b : Nat → Int32) : Nat → Nat → Nat → Nat → Nat → Nat → (Nat → Nat) → Nat ⊕ (Nat × Nat × Nat × Nat × (Nat → Nat))
  | 0, _, r, c, n, w, kn => .inr (r, c, n, w, kn)
  | k + 1, i, r, c, n, w, kn =>
    if r = 6 then .inl i else match sp_kind (b i) with
    | some j => if c < (if r = 0 then 6 else w) then sp_wd b k (i + 1) r (c + 1) (n + 1) w (sp_pt kn n j) else .inl i
    | none => if b i = nI 59 ∧ 0 < c ∧ (r = 0 ∨ c = w) then sp_wd b k (i + 1) (r + 1) 0 n c kn else .inl i
/-- the end of it: fault, cells, width, kinds -/
def sp_wend (L : Nat) : Nat ⊕ (Nat × Nat × Nat × Nat × (Nat → Nat)) → Option Nat × Nat × Nat × (Nat → Nat)
  | .inl x => (some x, 0, 0, fun _ => 0)
  | .inr (r, c, n, w, kn) => if 0 < L ∧ (c = 0 ∨ (0 < r ∧ c < w)) then (some L, 0, 0, fun _ => 0) else (none, n, c, kn)
def sp_ward (b : Nat → Int32) (L : Nat) : Option Nat × Nat × Nat × (Nat → Nat) := sp_wend L (sp_wd b L 0 0 0 0 0 (fun _ => 0))
def sp_wI (r c n w : Nat) (kn : Nat → Nat) : Prop := r ≤ 6 ∧ (r = 0 → c ≤ 6 ∧ n = c) ∧ (0 < r → 0 < w ∧ w ≤ 6 ∧ c ≤ w ∧ n = r * w + c) ∧ ∀ j, j < n → kn j ≤ 4
theorem sp_wI_add {r c n w j : Nat} {kn : Nat → Nat} (h : sp_wI r c n w kn) (hr : ¬ r = 6) (hc : c < (if r = 0 then 6 else w)) (hj : j ≤ 4) : sp_wI r (c + 1) (n + 1) w (sp_pt kn n j) := by
  obtain ⟨h1, h2, h3, h4⟩ := h
  refine ⟨h1, fun e => ?_, fun e => ?_, fun x hx => ?_⟩
  · rw [if_pos e] at hc; have := h2 e; omega
  · rw [if_neg (by omega)] at hc; have := h3 e; omega
  · unfold sp_pt; split
    · exact hj
    · exact h4 x (by omega)
theorem sp_wI_row {r c n w : Nat} {kn : Nat → Nat} (h : sp_wI r c n w kn) (hr : ¬ r = 6) (h0 : 0 < c) (hc : r = 0 ∨ c = w) : sp_wI (r + 1) 0 n c kn := by
  obtain ⟨h1, h2, h3, h4⟩ := h
  refine ⟨by omega, fun e => by omega, fun _ => ?_, h4⟩
  rcases Nat.eq_zero_or_pos r with e | e
  · subst e; have := h2 rfl; omega
  · have := h3 e
    rcases hc with q | q
    · omega
    · subst q; obtain ⟨a1, a2, a3, a4⟩ := this
      refine ⟨a1, a2, by omega, ?_⟩
      rw [a4, Nat.succ_mul]; omega
theorem sp_wI_n {r c n w : Nat} {kn : Nat → Nat} (h : sp_wI r c n w kn) : c ≤ 6 ∧ w * 0 = 0 ∧ (¬ r = 6 → n ≤ 36) ∧ (¬ r = 6 → c < (if r = 0 then 6 else w) → n < 36) := by
  obtain ⟨h1, h2, h3, h4⟩ := h
  rcases Nat.eq_zero_or_pos r with e | e
  · subst e; have := h2 rfl; simp only [if_pos]; omega
  · obtain ⟨a1, a2, a3, a4⟩ := h3 e
    have hb : ∀ x : Nat, x ≤ 5 → x * w ≤ 5 * 6 := fun x hx => Nat.mul_le_mul hx a2
    refine ⟨by omega, by omega, fun q => ?_, fun q q2 => ?_⟩
    · have := hb r (by omega); omega
    · rw [if_neg (by omega)] at q2; have := hb r (by omega); omega
/-- cells that are shops, as bits -/
def sp_shm (kn : Nat → Nat) : Nat → Nat
  | 0 => 0
  | n + 1 => if kn n = 2 then sp_shm kn n ||| 2 ^ n else sp_shm kn n
theorem sp_shm_cg {kn kn' : Nat → Nat} : ∀ n, (∀ j, j < n → kn j = kn' j) → sp_shm kn n = sp_shm kn' n
  | 0, _ => rfl
  | n + 1, h => by rw [sp_shm, sp_shm, h n (by omega), sp_shm_cg n (fun j hj => h j (by omega))]
theorem q8_addCell (F : Nat) {n j m : Nat} {w : Int32} {ks : Nat → Int32} (hn : n < 36) (hj : j ≤ 4) : pX8_addCell F (nI j) (nI n) w (lN m) ks = some (nI (n + 1), lN (if j = 2 then m ||| 2 ^ n else m), upd ks n (nI j)) := by
  unfold pX8_addCell
  simp only [zz_lt]
  simp (disch := omega) only [zl_lit, zl_litL, nI_leI, nI_eq, nI_add, zl_in, nI_clamp]
  rw [if_neg (by omega), if_pos (by omega), zl_shl1 (by omega)]
  by_cases q : j = 2
  · rw [if_pos q, if_pos q, fb_orL]
  · rw [if_neg q, if_neg q, fb_orL, Nat.or_zero]
