/-! another start, another girth: the reference -/
def sp_le : Option (Nat × Nat) → Nat → Bool
  | none, _ => false
  | some (_, y), x => decide (y ≤ x)
def sp_bst (ok : Nat → Bool) (v : Nat → Nat) : Nat → Option (Nat × Nat)
  | 0 => none
  | c + 1 => if ok c then (if sp_le (sp_bst ok v c) (v c) then sp_bst ok v c else some (c, v c)) else sp_bst ok v c
def sp_b1 : Option (Nat × Nat) → Int32
  | none => -nI 1
  | some (c, _) => nI c
def sp_b2 (d : Int32) : Option (Nat × Nat) → Int32
  | none => d
  | some (_, y) => nI y
def sp_bj (j : Nat) (o : Option (Nat × Nat)) : Int32 := if j = 0 then sp_b1 o else sp_b2 (-nI 1) o
theorem sp_bst_ok {ok : Nat → Bool} {v : Nat → Nat} : ∀ (n b y : Nat), sp_bst ok v n = some (b, y) → b < n ∧ ok b = true ∧ y = v b
  | 0, b, y, h => by rw [sp_bst] at h; cases h
  | n + 1, b, y, h => by
    rw [sp_bst] at h
    split at h
    · rename_i q
      split at h
      · have := sp_bst_ok n b y h; exact ⟨by omega, this.2⟩
      · cases h; exact ⟨by omega, q, rfl⟩
    · have := sp_bst_ok n b y h; exact ⟨by omega, this.2⟩
theorem sp_bst_cg {ok ok' : Nat → Bool} {v v' : Nat → Nat} : ∀ n, (∀ c, c < n → ok c = ok' c ∧ v c = v' c) → sp_bst ok v n = sp_bst ok' v' n
  | 0, _ => rfl
  | n + 1, h => by
    rw [sp_bst, sp_bst, sp_bst_cg n (fun c hc => h c (by omega)), (h n (by omega)).1, (h n (by omega)).2]
def fgT (S : zz_M) : Nat → Bool := fun _ => decide (cFo S = 1)
def sBg (S : zz_M) (c : Nat) : Nat := sLost (zz_sI S 5 (nI c)) (cM S) (cB S) (fgT S)
def sRc (S : zz_M) (g : Nat) : Nat := sLost (zz_sI S 6 (nI g)) (cM S) (cB S) (fgT S)
def sBgO (S : zz_M) : Option (Nat × Nat) := sp_bst (sp_for (cK S) (cGi S)) (sBg S) (cN S)
def sRcO (S : zz_M) : Option (Nat × Nat) := sp_bst (fun _ => true) (sRc S) 10
def a_begin (S : zz_M) (u : Int32) : Int32 := zo (-nI 2) (fun j => sp_bj j (sBgO S)) (zu u 2)
def a_recruit (S : zz_M) (u : Int32) : Int32 := zo (-nI 2) (fun j => sp_bj j (sRcO S)) (zu u 2)
theorem sm_cI {S T : zz_M} (h : sm S T) (k : Nat) (v : Int32) : sm (zz_sI S k v) (zz_sI T k v) :=
  ⟨h.1, fun j a b c d e f g i => by rw [zg_II, zg_II]; split; rfl; exact h.2 j a b c d e f g i⟩
theorem sBg_le {S : zz_M} (h : ok10 S) (c : Nat) : sBg S c ≤ 8 := sLost_le (S := zz_sI S 5 (nI c)) (have q := cT_le h; q) _ _ _
theorem sRc_le {S : zz_M} (h : ok10 S) (c : Nat) : sRc S c ≤ 8 := sLost_le (S := zz_sI S 6 (nI c)) (have q := cT_le h; q) _ _ _
theorem go10_I5 {T : zz_M} {m : Nat} {bs : Nat → Nat} {fg : Nat → Bool} (g : go10 T m bs fg) (x : Int32) : go10 (zz_sI T 5 x) m bs fg := g
theorem go10_I6 {T : zz_M} {m : Nat} {bs : Nat → Nat} {fg : Nat → Bool} (g : go10 T m bs fg) (x : Int32) : go10 (zz_sI T 6 x) m bs fg := g
theorem q10_lostSet (F : Nat) {S T : zz_M} {k : Nat} {v : Int32} (hk : k = 5 ∨ k = 6) (hT : sm S (zz_sI T k (zz_gI S k))) (g : go10 T (cM S) (cB S) (fgT S)) (hv : ok10 (zz_sI S k v)) (hF : 100 ≤ F) : ∃ U, pX10_lostNow F (zz_sI T k v) = some (nI (sLost (zz_sI S k v) (cM S) (cB S) (fgT S)), U) ∧ sm S (zz_sI U k (zz_gI S k)) ∧ go10 U (cM S) (cB S) (fgT S) := by
  have h1 : sm (zz_sI S k v) (zz_sI T k v) := by
    have := sm_cI hT k v
    rw [zs_II] at this
    exact this
  have g' : go10 (zz_sI T k v) (cM S) (cB S) (fgT S) := by
    rcases hk with rfl | rfl
    · exact go10_I5 g v
    · exact go10_I6 g v
  obtain ⟨U, e1, e2, e3⟩ := q10_lostNow F (sm_ok h1 hv) g' hF
  refine ⟨U, ?_, ?_, e3.1⟩
  · rw [e1]
    have : sLost (zz_sI T k v) (cM S) (cB S) (fgT S) = sLost (zz_sI S k v) (cM S) (cB S) (fgT S) := by unfold sLost; rw [sm_sTk h1, sm_T h1]
    rw [this]
  · have := sm_cI e2 k (zz_gI S k)
    rw [zs_II] at this
    exact sm_tr hT this
theorem q10_bgL (F : Nat) {S : zz_M} {j : Nat} (hj : j < 2) (h : ok10 S) (hF : 100 ≤ F) : ∀ (f k c : Nat) (T : zz_M), sm S (zz_sI T 5 (zz_gI S 5)) → go10 T (cM S) (cB S) (fgT S) → c + k = cN S → k < f →
    ∃ U, pX10_beginOf_L17_7 (nI j) F (zz_gI S 5) f (sp_b1 (sp_bst (sp_for (cK S) (cGi S)) (sBg S) c)) (sp_b2 (-nI 1) (sp_bst (sp_for (cK S) (cGi S)) (sBg S) c)) (nI c) T = some (sp_bj j (sBgO S), U) ∧ sm S U := by
  intro f
  have hn := cN_le S
  induction f with
  | zero => intro k c T _ _ _ h; omega
  | succ f ih =>
    intro k c T e2 e3 hk hf
    have g2 : zz_gI T 2 = nI (cN T) := e3.1.2.1
    have gn' := sm_N e2
    have gn : cN T = cN S := gn'
    rw [gn] at g2
    rw [pX10_beginOf_L17_7, g2]
    simp (disch := omega) only [zl_lit, zz_lt, nI_leI, nI_add, nI_eq]
    cases k with
    | zero =>
      have e : c = cN S := by omega
      subst e
      rw [if_pos (by omega)]
      refine ⟨_, ?_, e2⟩
      unfold sp_bj sBgO
      rcases (show j = 0 ∨ j = 1 by omega) with rfl | rfl <;> rfl
    | succ k =>
      rw [if_neg (by omega)]
      obtain ⟨⟨w, hW, -, -⟩, -, gk, -⟩ := e3.1
      rw [gn] at hW gk
      have gK' := sm_K e2
      have gK : cK T = cK S := gK'
      rw [gK] at gk
      have g6 : zz_gI T 6 = nI (cGi S) := by
        have : zz_gI (zz_sI T 5 (zz_gI S 5)) 6 = zz_gI S 6 := sm_I6 e2
        exact this.trans h.2.2.2.1.1
      rw [q10_isFor F hW rfl g6 h.2.2.2.1.2 (show c < cN S by omega), sp_for_cg (gk c (by omega))]
      simp only [zz_b1, zb0]
      have hvc : ok10 (zz_sI S 5 (nI c)) := ok_set (k := 0) h (by omega) (show c < cMost 0 + 1 from by show c < 36; omega)
      obtain ⟨U, u1, u2, u3⟩ := q10_lostSet F (Or.inl rfl) e2 e3 hvc hF
      have ev : sLost (zz_sI S 5 (nI c)) (cM S) (cB S) (fgT S) = sBg S c := rfl
      rw [ev] at u1
      rw [u1]
      simp only [zz_b2]
      have hb := sBg_le h c
      cases qf : sp_for (cK S) (cGi S) c
      · rw [if_pos rfl]
        have h1 := ih k (c + 1) T e2 e3 (by omega) (by omega)
        rw [sp_bst, if_neg (by rw [qf]; decide)] at h1
        exact h1
      · rw [if_neg (by decide)]
        have h1 := ih k (c + 1) U u2 u3 (by omega) (by omega)
        rw [sp_bst, if_pos qf] at h1
        cases qo : sp_bst (sp_for (cK S) (cGi S)) (sBg S) c with
        | none =>
          rw [qo, sp_le, if_neg (by decide)] at h1
          exact h1
        | some x =>
          obtain ⟨b, y⟩ := x
          obtain ⟨b1, -, b3⟩ := sp_bst_ok _ _ _ qo
          have hy := sBg_le h b
          rw [← b3] at hy
          rw [qo, sp_le] at h1
          rw [show sp_b1 (some (b, y)) = nI b from rfl, show sp_b2 (-nI 1) (some (b, y)) = nI y from rfl]
          simp (disch := omega) only [zl_m1a, nI_leI, if_false]
          by_cases q : y ≤ sBg S c
          · rw [decide_eq_true q, if_pos rfl] at h1
            rw [if_pos q]
            exact h1
          · rw [decide_eq_false q, if_neg (by decide)] at h1
            rw [if_neg q]
            exact h1
theorem q10_beginOf (F : Nat) {S : zz_M} {j : Nat} (hj : j < 2) (h : ok10 S) (hF : 100 ≤ F) : ∃ T, pX10_beginOf F (nI j) S = some (sp_bj j (sBgO S), T) ∧ sm S T := by
  obtain ⟨T, e1, e2, e3⟩ := q10_asTold F h hF
  have hn := cN_le S
  unfold pX10_beginOf
  rw [e1]
  simp only [zz_b1, zz_lt, zl_lit]
  have e5 := sm_I5 e2
  rw [e5]
  obtain ⟨U, u1, u2⟩ := q10_bgL F hj h hF F (cN S) 0 T (by rw [← e5, ss_I]; exact e2) e3 (by omega) (by omega)
  exact ⟨U, u1, u2⟩
theorem q10_begin (F : Nat) {S : zz_M} (h : ok10 S) (hF : 100 ≤ F) (u : Int32) : ∃ T, pX10_begin F u S = some (a_begin S u, T) ∧ sm S T := by
  unfold pX10_begin a_begin
  simp only [zl_lit, zz_lt]
  rw [q10_inN F u (by omega)]
  simp only [zz_b1, zb0]
  cases q : zu u 2 with
  | none => exact ⟨S, rfl, sm_rfl S⟩
  | some j =>
    obtain ⟨h1, h2⟩ := zu_S q
    subst h2
    obtain ⟨T, e1, e2⟩ := q10_beginOf F h1 h hF
    rw [e1]
    exact ⟨T, rfl, e2⟩
theorem q10_rcL (F : Nat) {S : zz_M} {j : Nat} (hj : j < 2) (h : ok10 S) (hF : 100 ≤ F) : ∀ (f k c : Nat) (T : zz_M), sm S (zz_sI T 6 (zz_gI S 6)) → go10 T (cM S) (cB S) (fgT S) → c + k = 10 → k < f →
    ∃ U, pX10_recruitOf_L17_7 (nI j) F (zz_gI S 6) f (sp_b1 (sp_bst (fun _ => true) (sRc S) c)) (sp_b2 (-nI 1) (sp_bst (fun _ => true) (sRc S) c)) (nI c) T = some (sp_bj j (sRcO S), U) ∧ sm S U := by
  intro f
  induction f with
  | zero => intro k c T _ _ _ h; omega
  | succ f ih =>
    intro k c T e2 e3 hk hf
    rw [pX10_recruitOf_L17_7]
    simp (disch := omega) only [zl_lit, zz_lt, nI_leI, nI_add, nI_eq]
    cases k with
    | zero =>
      have e : c = 10 := by omega
      subst e
      rw [if_pos (by omega)]
      refine ⟨_, ?_, e2⟩
      unfold sp_bj sRcO
      rcases (show j = 0 ∨ j = 1 by omega) with rfl | rfl <;> rfl
    | succ k =>
      rw [if_neg (by omega)]
      have hvc : ok10 (zz_sI S 6 (nI c)) := ok_set (k := 1) h (by omega) (show c < cMost 1 + 1 from by show c < 10; omega)
      obtain ⟨U, u1, u2, u3⟩ := q10_lostSet F (Or.inr rfl) e2 e3 hvc hF
      have ev : sLost (zz_sI S 6 (nI c)) (cM S) (cB S) (fgT S) = sRc S c := rfl
      rw [ev] at u1
      rw [u1]
      simp only [zz_b2]
      have hb := sRc_le h c
      have h1 := ih k (c + 1) U u2 u3 (by omega) (by omega)
      rw [sp_bst, if_pos rfl] at h1
      cases qo : sp_bst (fun _ => true) (sRc S) c with
      | none =>
        rw [qo, sp_le, if_neg (by decide)] at h1
        exact h1
      | some x =>
        obtain ⟨b, y⟩ := x
        obtain ⟨b1, -, b3⟩ := sp_bst_ok _ _ _ qo
        have hy := sRc_le h b
        rw [← b3] at hy
        rw [qo, sp_le] at h1
        rw [show sp_b1 (some (b, y)) = nI b from rfl, show sp_b2 (-nI 1) (some (b, y)) = nI y from rfl]
        simp (disch := omega) only [zl_m1a, nI_leI, if_false]
        by_cases q : y ≤ sRc S c
        · rw [decide_eq_true q, if_pos rfl] at h1
          rw [if_pos q]
          exact h1
        · rw [decide_eq_false q, if_neg (by decide)] at h1
          rw [if_neg q]
          exact h1
theorem q10_recruitOf (F : Nat) {S : zz_M} {j : Nat} (hj : j < 2) (h : ok10 S) (hF : 100 ≤ F) : ∃ T, pX10_recruitOf F (nI j) S = some (sp_bj j (sRcO S), T) ∧ sm S T := by
  obtain ⟨T, e1, e2, e3⟩ := q10_asTold F h hF
  unfold pX10_recruitOf
  rw [e1]
  simp only [zz_b1, zz_lt, zl_lit]
  have e5 := sm_I6 e2
  rw [e5]
  obtain ⟨U, u1, u2⟩ := q10_rcL F hj h hF F 10 0 T (by rw [← e5, ss_I]; exact e2) e3 (by omega) (by omega)
  exact ⟨U, u1, u2⟩
theorem q10_recruit (F : Nat) {S : zz_M} (h : ok10 S) (hF : 100 ≤ F) (u : Int32) : ∃ T, pX10_recruit F u S = some (a_recruit S u, T) ∧ sm S T := by
  unfold pX10_recruit a_recruit
  simp only [zl_lit, zz_lt]
  rw [q10_inN F u (by omega)]
  simp only [zz_b1, zb0]
  cases q : zu u 2 with
  | none => exact ⟨S, rfl, sm_rfl S⟩
  | some j =>
    obtain ⟨h1, h2⟩ := zu_S q
    subst h2
    obtain ⟨T, e1, e2⟩ := q10_recruitOf F h1 h hF
    rw [e1]
    exact ⟨T, rfl, e2⟩
