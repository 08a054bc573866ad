/-! writing into the texts: the reference -/
theorem tL_sA {S : zz_M} {k : Nat} {x : Nat → Int32} (h : k ≠ 0) : tL (zz_sA S k x) = tL S := by funext j; unfold tL; rw [zg_AA, if_neg (fun e => h e.symm)]
theorem tB_sA {S : zz_M} {k : Nat} {x : Nat → Int32} (h : k ≠ 1) : tB (zz_sA S k x) = tB S := by
  have e : zz_gA (zz_sA S k x) 1 = zz_gA S 1 := by rw [zg_AA, if_neg (fun e => h e.symm)]
  funext j i; unfold tB; rw [e]
def tyS (S : zz_M) (k : Nat) (v : Int32) : zz_M := zz_sA (zz_sA S 1 (upd (zz_gA S 1) (41 * k + tL S k) v)) 0 (upd (zz_gA S 0) k (nI (tL S k + 1)))
def lnS (S : zz_M) (k L : Nat) : zz_M := zz_sA S 0 (upd (zz_gA S 0) k (nI L))
def a_type (S : zz_M) (u v : Int32) : Int32 := zo (-nI 2) (fun k => zo (-nI 2) (fun _ => if tL S k = cLim k then -nI 4 else nI (tL S k + 1)) (zu v 256)) (zu u 3)
def s_type (S : zz_M) (u v : Int32) : zz_M := zo S (fun k => zo S (fun _ => if tL S k = cLim k then S else tyS S k v) (zu v 256)) (zu u 3)
def a_wipe (S : zz_M) (u : Int32) : Int32 := zo (-nI 2) (fun k => nI (tL S k)) (zu u 3)
def s_wipe (S : zz_M) (u : Int32) : zz_M := zo S (fun k => lnS S k 0) (zu u 3)
def a_undo (S : zz_M) (u : Int32) : Int32 := zo (-nI 2) (fun k => if tL S k = 0 then -nI 3 else nI (tL S k - 1)) (zu u 3)
def s_undo (S : zz_M) (u : Int32) : zz_M := zo S (fun k => if tL S k = 0 then S else lnS S k (tL S k - 1)) (zu u 3)
theorem cLim_le (k : Nat) : cLim k ≤ 41 := by unfold cLim; split <;> (try split) <;> omega
theorem q10_wipe (F : Nat) {S : zz_M} (h : ok10 S) (u : Int32) : pX10_wipe F u S = some (a_wipe S u, s_wipe S u) := by
  unfold pX10_wipe a_wipe s_wipe
  rw [q10_isText]
  simp only [zl_lit, zz_b1, zz_lt, zb0]
  cases q : zu u 3 with
  | none => rfl
  | some k =>
    obtain ⟨h1, h2⟩ := zu_S q
    subst h2
    simp (disch := omega) only [zl_in, nI_clamp, Option.isSome, zo_S]
    rw [if_neg (by decide), if_pos h1, if_pos h1, (h.1 k h1).1]
    rfl
theorem q10_undo (F : Nat) {S : zz_M} (h : ok10 S) (u : Int32) : pX10_undo F u S = some (a_undo S u, s_undo S u) := by
  unfold pX10_undo a_undo s_undo
  rw [q10_isText]
  simp only [zl_lit, zz_b1, zz_lt, zb0]
  cases q : zu u 3 with
  | none => rfl
  | some k =>
    obtain ⟨h1, h2⟩ := zu_S q
    subst h2
    have hl := h.1 k h1
    have hc := cLim_le k
    simp only [nI_clamp (show k < 2 ^ 31 by omega), hl.1]
    simp (disch := omega) only [zl_in, Option.isSome, zo_S, nI_eq]
    rw [if_neg (by decide), if_pos h1]
    by_cases q2 : tL S k = 0
    · rw [if_pos q2, if_pos q2, if_pos q2]
    · rw [if_neg q2, if_neg q2, if_neg q2, if_pos h1, if_pos h1, if_pos h1, pk_sub (by omega)]
      unfold lnS
      rw [zg_AA, if_pos rfl, pk_us]
theorem q10_type (F : Nat) {S : zz_M} (h : ok10 S) (u v : Int32) : pX10_type F u v S = some (a_type S u v, s_type S u v) := by
  unfold pX10_type a_type s_type
  rw [q10_isText]
  simp only [zl_lit, zz_b1, zz_lt, zb0]
  rw [q10_inN F v (by omega)]
  simp only [zz_b1, zb0]
  cases q : zu u 3 with
  | none => rfl
  | some k =>
    obtain ⟨h1, h2⟩ := zu_S q
    subst h2
    cases q2 : zu v 256 with
    | none => rfl
    | some j =>
      have hl := h.1 k h1
      have hc := cLim_le k
      have ev : (if nI k = nI 0 then nI 41 else if nI k = nI 1 then nI 24 else nI 31) = nI (cLim k) := by
        rcases (show k = 0 ∨ k = 1 ∨ k = 2 by omega) with rfl | rfl | rfl <;> rfl
      have em : nI 41 * nI k = nI (41 * k) := by
        rcases (show k = 0 ∨ k = 1 ∨ k = 2 by omega) with rfl | rfl | rfl <;> rfl
      have eg : zz_gA (zz_sA S 1 (upd (zz_gA S 1) (41 * k + tL S k) v)) 0 = zz_gA S 0 := rfl
      have hb : 41 * k + tL S k < 2 ^ 31 := by omega
      simp only [ev, em, nI_clamp (show k < 2 ^ 31 by omega), hl.1, nI_add, nI_clamp hb, eg]
      have hlt : ¬ tL S k = cLim k → tL S k < 41 := fun z => by omega
      simp (disch := omega) only [zl_in, Option.isSome, zo_S, nI_eq, nI_clamp]
      rw [if_neg (by decide), if_neg (by decide), if_pos h1]
      by_cases q3 : tL S k = cLim k
      · rw [if_pos q3, if_pos q3, if_pos q3]
      · have := hlt q3
        rw [if_neg q3, if_neg q3, if_neg q3, if_pos h1, if_pos (by omega), if_pos h1, if_pos h1, if_pos h1]
        unfold tyS
        rw [zg_AA, if_pos rfl, pk_us]
