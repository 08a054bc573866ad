/-! the thieves' text -/
def sp_ok (p : Nat) (b : Int32) : Bool := if p = 0 then decide (48 ≤ b.toInt ∧ b.toInt ≤ 51) else if p = 1 then decide (48 ≤ b.toInt ∧ b.toInt ≤ 57) else if p = 2 then decide (49 ≤ b.toInt ∧ b.toInt ≤ 57) else decide (b = nI 59)
theorem q7_mayStandAt (F p : Nat) (b : Int32) (hp : p < 4) : pX7_mayStandAt F (nI p) b = some (zb (sp_ok p b)) := by
  unfold pX7_mayStandAt sp_ok
  simp only [zz_lt]
  have k48 : (48 : Int32).toInt = 48 := by decide
  have k49 : (49 : Int32).toInt = 49 := by decide
  have k51 : (51 : Int32).toInt = 51 := by decide
  have k57 : (57 : Int32).toInt = 57 := by decide
  have key : ∀ (lo hi : Int32) (l h : Int), lo.toInt = l → hi.toInt = h → (if b < lo then (0 : Int32) else if hi < b then 0 else 1) = zb (decide (l ≤ b.toInt ∧ b.toInt ≤ h)) := by
    intro lo hi l h e1 e2
    simp only [fa_lt, e1, e2]
    by_cases h1 : b.toInt < l
    · rw [if_pos h1, decide_eq_false (by omega)]; rfl
    · rw [if_neg h1]
      by_cases h2 : h < b.toInt
      · rw [if_pos h2, decide_eq_false (by omega)]; rfl
      · rw [if_neg h2, decide_eq_true (by omega)]; rfl
  rcases (show p = 0 ∨ p = 1 ∨ p = 2 ∨ p = 3 by omega) with rfl | rfl | rfl | rfl
  · rw [if_pos (show nI 0 = 0 from rfl), if_pos rfl, key _ _ _ _ k48 k51]
  · rw [if_neg (show ¬ nI 1 = 0 by decide), if_pos (show nI 1 = 1 from rfl), key _ _ _ _ k48 k57]; rfl
  · rw [if_neg (show ¬ nI 2 = 0 by decide), if_neg (show ¬ nI 2 = 1 by decide), if_pos (show nI 2 = 2 from rfl), key _ _ _ _ k49 k57]; rfl
  · rw [if_neg (show ¬ nI 3 = 0 by decide), if_neg (show ¬ nI 3 = 1 by decide), if_neg (show ¬ nI 3 = 2 by decide), if_pos (show Int32.toInt (nI 3) < 0 ∨ 2 < Int32.toInt (nI 3) by decide)]
    show some (if b = nI 59 then (1 : Int32) else 0) = some (zb (decide (b = nI 59)))
    by_cases q : b = nI 59
    · rw [if_pos q, decide_eq_true q]; rfl
    · rw [if_neg q, decide_eq_false q]; rfl
def sp_dg (b : Int32) : Nat := (b.toInt - 48).toNat
theorem sp_dg_eq {b : Int32} {l h : Int} (h1 : 48 ≤ l) (h2 : h ≤ 57) (hb : l ≤ b.toInt ∧ b.toInt ≤ h) : b - nI 48 = nI (sp_dg b) ∧ (sp_dg b : Int) = b.toInt - 48 := by
  have e2 : (sp_dg b : Int) = b.toInt - 48 := by unfold sp_dg; omega
  refine ⟨?_, e2⟩
  have k : (nI 48).toInt = 48 := by decide
  rw [fa_eq, fb_subI (by rw [k]; omega) (by rw [k]; omega), k, zl_T (by omega), e2]
def sp_wt (b : Nat → Int32) (i : Nat) : Nat := 10 * sp_dg (b (4 * i)) + sp_dg (b (4 * i + 1))
def sp_nd (b : Nat → Int32) (i : Nat) : Nat := sp_dg (b (4 * i + 2))
def sp_tl (b : Nat → Int32) : Nat → Nat → Option Nat
  | 0, _ => none
  | k + 1, i => if sp_ok (i % 4) (b i) then sp_tl b k (i + 1) else some i
def sp_tfl (b : Nat → Int32) (L : Nat) : Option Nat := match sp_tl b L 0 with
  | some i => some i
  | none => if L = 0 ∨ L % 4 = 3 then none else some L
def sp_tm (b : Nat → Int32) (L : Nat) : Nat := if (sp_tfl b L).isSome then 0 else (L + 1) / 4
theorem sp_ok3 {b : Nat → Int32} {i : Nat} (h0 : sp_ok 0 (b (4 * i)) = true) (h1 : sp_ok 1 (b (4 * i + 1)) = true) (h2 : sp_ok 2 (b (4 * i + 2)) = true) : sp_wt b i ≤ 39 ∧ 1 ≤ sp_nd b i ∧ sp_nd b i ≤ 9 ∧ b (4 * i) - nI 48 = nI (sp_dg (b (4 * i))) ∧ b (4 * i + 1) - nI 48 = nI (sp_dg (b (4 * i + 1))) ∧ b (4 * i + 2) - nI 48 = nI (sp_nd b i) := by
  have a0 : 48 ≤ (b (4 * i)).toInt ∧ (b (4 * i)).toInt ≤ 51 := of_decide_eq_true h0
  have a1 : 48 ≤ (b (4 * i + 1)).toInt ∧ (b (4 * i + 1)).toInt ≤ 57 := of_decide_eq_true h1
  have a2 : 49 ≤ (b (4 * i + 2)).toInt ∧ (b (4 * i + 2)).toInt ≤ 57 := of_decide_eq_true h2
  obtain ⟨e0, f0⟩ := sp_dg_eq (by omega) (by omega) a0
  obtain ⟨e1, f1⟩ := sp_dg_eq (by omega) (by omega) a1
  obtain ⟨e2, f2⟩ := sp_dg_eq (by omega) (by omega) a2
  unfold sp_wt sp_nd
  exact ⟨by omega, by omega, by omega, e0, e1, e2⟩
/-- the first thieves' bytes are well -/
def sp_tI (b : Nat → Int32) (i : Nat) : Prop := ∀ j, j < i → sp_ok (j % 4) (b j) = true
theorem sp_tI3 {b : Nat → Int32} {i t : Nat} (h : sp_tI b i) (ht : 4 * t + 2 < i) : sp_ok 0 (b (4 * t)) = true ∧ sp_ok 1 (b (4 * t + 1)) = true ∧ sp_ok 2 (b (4 * t + 2)) = true := by
  have h0 := h (4 * t) (by omega)
  have h1 := h (4 * t + 1) (by omega)
  have h2 := h (4 * t + 2) (by omega)
  rw [show 4 * t % 4 = 0 by omega] at h0
  rw [show (4 * t + 1) % 4 = 1 by omega] at h1
  rw [show (4 * t + 2) % 4 = 2 by omega] at h2
  exact ⟨h0, h1, h2⟩
theorem q7_add (F n1 L t : Nat) {b wa ne : Nat → Int32} (hL : L ≤ n1) (hL2 : L ≤ 31) (hn1 : n1 < 2 ^ 30) (ht : 4 * t + 2 < L) (h0 : sp_ok 0 (b (4 * t)) = true) (h1 : sp_ok 1 (b (4 * t + 1)) = true) (h2 : sp_ok 2 (b (4 * t + 2)) = true) : pX7_add F n1 (nI (4 * t)) (nI t) wa ne (nI L) b = some (1, nI (t + 1), upd wa t (nI (sp_wt b t)), upd ne t (nI (sp_nd b t))) := by
  obtain ⟨-, -, -, e0, e1, e2⟩ := sp_ok3 h0 h1 h2
  unfold pX7_add
  simp only [zz_lt]
  simp (disch := omega) only [zl_lit, nI_leI, nI_ltI, nI_add, zl_in, nI_clamp]
  rw [if_neg (by omega), if_neg (by omega), if_pos (by omega), if_pos (by omega), if_pos (by omega), if_pos (by omega), if_pos (by omega), if_pos (by omega), e0, e2, pk_mul]
  have e : nI (10 * sp_dg (b (4 * t))) + b (4 * t + 1) - nI 48 = nI (sp_wt b t) := by
    unfold sp_wt
    rw [← nI_add, ← e1]
    generalize nI (10 * sp_dg (b (4 * t))) = x
    generalize b (4 * t + 1) = y
    rw [Int32.sub_eq_add_neg, Int32.sub_eq_add_neg, Int32.add_assoc]
  rw [e]
theorem q7_parseL (F n1 L : Nat) (b : Nat → Int32) (hL : L ≤ n1) (hL2 : L ≤ 31) (hn1 : n1 < 2 ^ 30) : ∀ (f k i : Nat) (wa ne : Nat → Int32), i + k = L → k < f → sp_tI b i → (∀ t, t < (i + 1) / 4 → wa t = nI (sp_wt b t) ∧ ne t = nI (sp_nd b t)) →
    ∃ (x : Option Nat) (m : Nat) (wa' ne' : Nat → Int32), pX7_parse_L7_5 n1 F (nI L) b f (nI i) (nI ((i + 1) / 4)) wa ne = some (sp_i x, nI m, wa', ne') ∧ x = (match sp_tl b k i with | some i => some i | none => if L = 0 ∨ L % 4 = 3 then none else some L) ∧ m = (if x.isSome then 0 else (L + 1) / 4) ∧ (∀ t, t < m → wa' t = nI (sp_wt b t) ∧ ne' t = nI (sp_nd b t)) ∧ (x = none → sp_tI b L) := by
  intro f
  induction f with
  | zero => intro k i wa ne _ h; omega
  | succ f ih =>
    intro k i wa ne hk hf hI hw
    rw [pX7_parse_L7_5]
    simp only [zz_lt]
    cases k with
    | zero =>
      have e : i = L := by omega
      subst e
      rw [if_pos (nI_le (by omega) (by omega)), show (4 : Int32) = nI 4 from rfl, zl_rem (by omega) (by omega) (by omega), sp_tl]
      simp only
      by_cases q : i = 0 ∨ i % 4 = 3
      · refine ⟨none, (i + 1) / 4, wa, ne, ?_, by rw [if_pos q], rfl, hw, fun _ => hI⟩
        rcases q with q | q
        · rw [if_pos (by rw [q]; rfl)]; rfl
        · rw [if_neg (nI_ne0 (by omega) (by omega)), if_pos (by rw [q]; rfl)]; rfl
      · refine ⟨some i, 0, wa, ne, ?_, by rw [if_neg q], rfl, fun t ht => absurd ht (Nat.not_lt_zero t), fun e => by cases e⟩
        rw [if_neg (nI_ne0 (by omega) (by omega)), if_neg (show ¬ nI (i % 4) = 3 from fun z => q (Or.inr ((nI_eq (b := 3) (by omega) (by omega)).mp z)))]
        rfl
    | succ k =>
      have h4 : i % 4 < 4 := Nat.mod_lt _ (by decide)
      rw [if_neg (nI_ge (by omega) (by omega)), if_pos ((zl_in (by omega)).mpr (by omega)), nI_clamp (by omega), show (4 : Int32) = nI 4 from rfl, zl_rem (by omega) (by omega) (by omega), q7_mayStandAt F _ _ h4]
      simp only [zz_b1, zb0']
      rw [sp_tl]
      cases qk : sp_ok (i % 4) (b i)
      · rw [if_pos rfl]
        exact ⟨some i, 0, wa, ne, rfl, rfl, rfl, fun t ht => absurd ht (Nat.not_lt_zero t), fun e => by cases e⟩
      · rw [if_neg (by decide)]
        have hI' : sp_tI b (i + 1) := fun j hj => by
          by_cases e : j = i
          · subst e; exact qk
          · exact hI j (by omega)
        by_cases q2 : i % 4 = 2
        · have ei : i = 4 * ((i + 1) / 4) + 2 := by omega
          obtain ⟨h0, h1, h2⟩ := sp_tI3 (t := (i + 1) / 4) hI' (by omega)
          have ea := q7_add F n1 L ((i + 1) / 4) (wa := wa) (ne := ne) hL hL2 hn1 (by omega) h0 h1 h2
          rw [if_pos (by rw [q2]; rfl), show nI i - 2 = nI (4 * ((i + 1) / 4)) from by rw [show (2 : Int32) = nI 2 from rfl, pk_sub (by omega)]; exact congrArg nI (by omega), ea]
          simp only [zz_b4]
          rw [if_neg (show ¬ (1 : Int32) = 0 by decide), nI_1, show (i + 1) / 4 + 1 = (i + 1 + 1) / 4 by omega]
          refine ih k (i + 1) _ _ (by omega) (by omega) hI' (fun t ht => ?_)
          by_cases e : t = (i + 1) / 4
          · subst e; exact ⟨pk_us, pk_us⟩
          · rw [pk_un e, pk_un e]; exact hw t (by omega)
        · rw [if_neg (show ¬ nI (i % 4) = 2 from fun z => q2 ((nI_eq (b := 2) (by omega) (by omega)).mp z)), nI_1, show (i + 1) / 4 = (i + 1 + 1) / 4 by omega]
          exact ih k (i + 1) wa ne (by omega) (by omega) hI' (fun t ht => hw t (by omega))
theorem q7_parse (F n1 L : Nat) (b : Nat → Int32) {c0 : Int32} {w0 n0 : Nat → Int32} (hL : L ≤ n1) (hL2 : L ≤ 31) (hn1 : n1 < 2 ^ 30) (hF : L < F) : ∃ wa ne : Nat → Int32, pX7_parse F n1 c0 w0 n0 (nI L) b = some (sp_i (sp_tfl b L), nI (sp_tm b L), wa, ne) ∧ sp_T (sp_tm b L) wa ne (sp_wt b) (sp_nd b) := by
  obtain ⟨x, m, wa, ne, e1, e2, e3, e4, e5⟩ := q7_parseL F n1 L b hL hL2 hn1 F L 0 w0 n0 (by omega) hF (fun j hj => by omega) (fun t ht => by omega)
  have ex : x = sp_tfl b L := e2
  have em : m = sp_tm b L := by unfold sp_tm; rw [← ex]; exact e3
  rw [ex, em] at e1
  rw [em] at e4
  refine ⟨wa, ne, e1, ?_, fun i hi => ?_⟩
  · unfold sp_tm; split <;> omega
  · have hx : x = none := by
      cases x with
      | none => rfl
      | some y => rw [← em, e3] at hi; exact absurd hi (Nat.not_lt_zero i)
    have hm : i < (L + 1) / 4 := by rw [← em, e3, hx] at hi; exact hi
    obtain ⟨h0, h1, h2⟩ := sp_tI3 (t := i) (e5 hx) (by omega)
    obtain ⟨a1, a2, a3, -⟩ := sp_ok3 h0 h1 h2
    exact ⟨(e4 i hi).1, a1, (e4 i hi).2, a2, a3⟩
