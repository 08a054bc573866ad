/-! shops and thieves -/
def sp_shop (n : Nat) (kd : Nat → Int32) (c : Nat) : Bool := decide (c < n) && decide (kd c = nI 2)
def sp_T (m : Nat) (wa ne : Nat → Int32) (wt nd : Nat → Nat) : Prop := m ≤ 8 ∧ ∀ i, i < m → wa i = nI (wt i) ∧ wt i ≤ 39 ∧ ne i = nI (nd i) ∧ 1 ≤ nd i ∧ nd i ≤ 9
def sp_takes (n : Nat) (kd : Nat → Int32) (vm wt nd : Nat → Nat) (i : Nat) : Option Nat := if sp_shop n kd (wt i) then sp_tk (fun t => (vm t).testBit (wt i)) (nd i) else none
theorem sp_takes_lt {n : Nat} {kd : Nat → Int32} {vm wt nd : Nat → Nat} {i x : Nat} (h : sp_takes n kd vm wt nd i = some x) : x < 96 := by
  unfold sp_takes at h
  split at h
  · have := sp_end_lt 96 0 0 x h; omega
  · cases h
theorem q8_isShop (F : Nat) {n c : Nat} {w : Int32} {sh : Int64} {ks : Nat → Int32} (hn : n ≤ 36) (hc : c < 2 ^ 31) : pX8_isShop F (nI c) (nI n) w sh ks = some (zb (sp_shop n ks c)) := by
  unfold pX8_isShop sp_shop
  simp only [zz_lt]
  simp (disch := omega) only [zl_lit, nI_ltI, nI_leI]
  rw [if_neg (by omega)]
  by_cases q : c < n
  · rw [if_neg (by omega), if_pos ((zl_in (by omega)).mpr (by omega)), nI_clamp (by omega)]
    by_cases q2 : ks c = nI 2
    · rw [if_pos q2, if_pos (by decide), decide_eq_true q, decide_eq_true q2]; rfl
    · rw [if_neg q2, if_pos (by decide), decide_eq_true q, decide_eq_false q2]; rfl
  · rw [if_pos (by omega), if_pos (by decide), decide_eq_false q]; rfl
theorem q7_takesBehind (F : Nat) {n m i : Nat} {w : Int32} {sh : Int64} {ks wa ne pl : Nat → Int32} {wt nd vm : Nat → Nat} {vw : Nat → Int64} (hn : n ≤ 36) (hT : sp_T m wa ne wt nd) (hv : sp_V vw vm) (hi : i < m) (hF : 100 ≤ F) : pX7_takesBehind F (nI i) (nI m) wa ne (nI n) w sh ks pl vw = some (sp_i (sp_takes n ks vm wt nd i)) := by
  obtain ⟨hm, hT⟩ := hT
  obtain ⟨t1, t2, t3, t4, t5⟩ := hT i hi
  unfold pX7_takesBehind sp_takes
  simp only [zz_lt]
  simp (disch := omega) only [zl_lit, nI_ltI, nI_leI, zl_in, nI_clamp]
  rw [if_neg (by omega), if_neg (by omega), if_pos (by omega), t1, q8_isShop F hn (by omega)]
  simp only [zz_b1, zb0]
  cases q : sp_shop n ks (wt i)
  · rw [if_pos rfl, if_neg (by decide)]; rfl
  · rw [if_neg (by decide), if_pos (by omega), if_pos (by omega), t3, q2_endOfUnseen F hv (by omega) t5 hF, if_pos rfl]
theorem q7_hmL (F : Nat) {n m : Nat} {w : Int32} {sh : Int64} {ks wa ne pl : Nat → Int32} {wt nd vm : Nat → Nat} {vw : Nat → Int64} (hn : n ≤ 36) (hT : sp_T m wa ne wt nd) (hv : sp_V vw vm) (hF : 100 ≤ F) : ∀ (f k i : Nat), i + k = m → k < f → pX7_howManyTake_L5_2 F (nI m) wa ne (nI n) w sh ks pl vw f (nI (fa_cnt (fun i => (sp_takes n ks vm wt nd i).isSome) i)) (nI i) = some (nI (fa_cnt (fun i => (sp_takes n ks vm wt nd i).isSome) m)) := by
  have hm := hT.1
  intro f
  induction f with
  | zero => intro k i _ h; omega
  | succ f ih =>
    intro k i hk hf
    rw [pX7_howManyTake_L5_2]
    simp only [zz_lt]
    simp (disch := omega) only [zl_lit, nI_leI, nI_add]
    by_cases q : m ≤ i
    · rw [if_pos q, show i = m by omega]
    · rw [if_neg q, q7_takesBehind F hn hT hv (by omega) hF]
      simp only [zz_b1]
      have h1 := ih (k - 1) (i + 1) (by omega) (by omega)
      rw [fa_cnt] at h1
      cases q2 : sp_takes n ks vm wt nd i with
      | none => rw [if_pos sp_iN]; rw [q2] at h1; exact h1
      | some x =>
        have := sp_takes_lt q2
        rw [if_neg (by rw [sp_iS, zl_m1a (by omega)]; exact id)]; rw [q2] at h1; exact h1
theorem q7_howManyTake (F : Nat) {n m : Nat} {w : Int32} {sh : Int64} {ks wa ne pl : Nat → Int32} {wt nd vm : Nat → Nat} {vw : Nat → Int64} (hn : n ≤ 36) (hT : sp_T m wa ne wt nd) (hv : sp_V vw vm) (hF : 100 ≤ F) : pX7_howManyTake F (nI m) wa ne (nI n) w sh ks pl vw = some (nI (fa_cnt (fun i => (sp_takes n ks vm wt nd i).isSome) m)) := by
  have hm := hT.1
  unfold pX7_howManyTake
  exact q7_hmL F hn hT hv hF F m 0 (by omega) (by omega)
/-- the cells that any thief but one takes from, as bits -/
def sp_tf (tk : Nat → Option Nat) (wt : Nat → Nat) (but : Option Nat) : Nat → Nat
  | 0 => 0
  | i + 1 => if but = some i then sp_tf tk wt but i else if (tk i).isSome then sp_tf tk wt but i ||| 2 ^ wt i else sp_tf tk wt but i
theorem q7_tfL (F : Nat) {n m : Nat} {w : Int32} {sh : Int64} {ks wa ne pl : Nat → Int32} {wt nd vm : Nat → Nat} {vw : Nat → Int64} {but : Option Nat} (hbut : ∀ b, but = some b → b < 2 ^ 31) (hn : n ≤ 36) (hT : sp_T m wa ne wt nd) (hv : sp_V vw vm) (hF : 100 ≤ F) : ∀ (f k i : Nat), i + k = m → k < f → pX7_takenFrom_L6_2 (sp_i but) F (nI m) wa ne (nI n) w sh ks pl vw f (lN (sp_tf (sp_takes n ks vm wt nd) wt but i)) (nI i) = some (lN (sp_tf (sp_takes n ks vm wt nd) wt but m)) := by
  have hm := hT.1
  intro f
  induction f with
  | zero => intro k i _ h; omega
  | succ f ih =>
    intro k i hk hf
    rw [pX7_takenFrom_L6_2]
    simp only [zz_lt]
    simp (disch := omega) only [zl_lit, zl_litL, nI_leI, nI_add, zl_in, nI_clamp]
    by_cases q : m ≤ i
    · rw [if_pos q, show i = m by omega]
    · rw [if_neg q]
      have h1 := ih (k - 1) (i + 1) (by omega) (by omega)
      rw [sp_tf] at h1
      have e : (nI i = sp_i but) ↔ but = some i := by
        cases but with
        | none => rw [sp_iN, zl_m1a (by omega)]; simp
        | some b => rw [sp_iS, nI_eq (by omega) (hbut b rfl)]; simp [eq_comm]
      by_cases q1 : but = some i
      · rw [if_pos (e.mpr q1)]; rw [if_pos q1] at h1; exact h1
      · rw [if_neg (fun z => q1 (e.mp z)), q7_takesBehind F hn hT hv (by omega) hF]
        rw [if_neg q1] at h1
        simp only [zz_b1]
        obtain ⟨t1, t2, -⟩ := hT.2 i (by omega)
        cases q2 : sp_takes n ks vm wt nd i with
        | none => rw [if_pos sp_iN]; rw [q2] at h1; exact h1
        | some x =>
          have := sp_takes_lt q2
          rw [if_neg (by rw [sp_iS, zl_m1a (by omega)]; exact id), if_pos (by omega), t1, zl_shl1 (by omega), fb_orL]; rw [q2] at h1; exact h1
theorem q7_takenFrom (F : Nat) {n m : Nat} {w : Int32} {sh : Int64} {ks wa ne pl : Nat → Int32} {wt nd vm : Nat → Nat} {vw : Nat → Int64} {but : Option Nat} (hbut : ∀ b, but = some b → b < 2 ^ 31) (hn : n ≤ 36) (hT : sp_T m wa ne wt nd) (hv : sp_V vw vm) (hF : 100 ≤ F) : pX7_takenFrom F (sp_i but) (nI m) wa ne (nI n) w sh ks pl vw = some (lN (sp_tf (sp_takes n ks vm wt nd) wt but m)) := by
  have hm := hT.1
  unfold pX7_takenFrom
  exact q7_tfL F hbut hn hT hv hF F m 0 (by omega) (by omega)
