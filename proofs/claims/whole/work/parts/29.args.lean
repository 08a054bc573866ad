/-! numbers that come from outside -/
def zu (u : Int32) (N : Nat) : Option Nat := if 0 ≤ u.toInt ∧ u.toInt < (N : Int) then some u.toInt.toNat else none
theorem zu_S {u : Int32} {N k : Nat} (h : zu u N = some k) : k < N ∧ u = nI k := by
  unfold zu at h
  split at h
  · rename_i q
    cases h
    have hu := Int32.toInt_lt u
    refine ⟨by omega, ?_⟩
    rw [fa_eq, zl_T (by omega)]; omega
  · cases h
theorem zu_N {u : Int32} {N : Nat} (h : zu u N = none) : ¬ (0 ≤ u.toInt ∧ u.toInt < (N : Int)) := by
  unfold zu at h
  split at h
  · cases h
  · assumption
theorem zu_nI {k N : Nat} (hk : k < N) (hN : N ≤ 2 ^ 31) : zu (nI k) N = some k := by
  unfold zu
  rw [zl_T (by omega), if_pos (by omega)]; simp
theorem zu_b (u : Int32) (N : Nat) : (zu u N).isSome = decide (0 ≤ u.toInt ∧ u.toInt < (N : Int)) := by
  unfold zu; split <;> simp [*]
theorem q10_inN (F : Nat) (u : Int32) {h : Nat} (hh : h < 2 ^ 31 - 1) : pX10_in F u (nI 0) (nI h) = some (zb (zu u (h + 1)).isSome) := by
  rw [q10_in, zu_b, zl_T (by omega), zl_T (by omega)]
  have : (((0 : Nat) : Int) ≤ u.toInt ∧ u.toInt ≤ (h : Int)) ↔ (0 ≤ u.toInt ∧ u.toInt < ((h + 1 : Nat) : Int)) := by constructor <;> intro q <;> omega
  rw [decide_eq_decide.mpr this]
theorem q10_inM (F : Nat) (u : Int32) {n : Nat} (hn : n < 2 ^ 31 - 1) : pX10_in F u (nI 0) (nI n - nI 1) = some (zb (zu u n).isSome) := by
  rcases Nat.eq_zero_or_pos n with e | e
  · subst e
    rw [q10_in, zu_b, zl_T (by omega), show nI 0 - nI 1 = -nI 1 by decide, zl_m1T]
    have : (((0 : Nat) : Int) ≤ u.toInt ∧ u.toInt ≤ -1) ↔ (0 ≤ u.toInt ∧ u.toInt < ((0 : Nat) : Int)) := by constructor <;> intro q <;> omega
    rw [decide_eq_decide.mpr this]
  · rw [pk_sub (by omega), q10_inN F u (by omega), show n - 1 + 1 = n by omega]
theorem zu_lt {u : Int32} {N : Nat} (hN : N < 2 ^ 31) (h : zu u N = none) : u < nI 0 ∨ (¬ u < nI 0 ∧ nI N ≤ u) := by
  have := zu_N h
  rw [fa_lt, fa_le, zl_T (by omega), zl_T hN]
  omega
/-- what to answer when the number is none of these -/
def zo {α : Type} (d : α) (f : Nat → α) : Option Nat → α
  | none => d
  | some k => f k
theorem zo_N {α : Type} (d : α) (f : Nat → α) : zo d f none = d := rfl
theorem zo_S {α : Type} (d : α) (f : Nat → α) (k : Nat) : zo d f (some k) = f k := rfl
