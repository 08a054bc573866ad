/-! what was missed, and whether a night agrees with it -/
def cQ (S : zz_M) : Nat := Int32.toNatClampNeg (zz_gI S 12)
def cQc (S : zz_M) (j : Nat) : Nat := Int32.toNatClampNeg (zz_gA S 12 j)
def cQb (S : zz_M) (j : Nat) : Bool := decide (zz_gA S 13 j = nI 1)
def mk10 (S : zz_M) : Prop := zz_gI S 12 = nI (cQ S) ∧ cQ S ≤ 8 ∧ ∀ j, j < cQ S → zz_gA S 12 j = nI (cQc S j) ∧ cQc S j < 36 ∧ zz_gA S 13 j = zb (cQb S j)
def m9 (C S : zz_M) : Prop := mk10 S ∧ zz_gI C 7 = nI (cQ S) ∧ ∀ j, j < cQ S → zz_gA C 9 j = zz_gA S 12 j ∧ zz_gA C 10 j = zz_gA S 13 j
theorem sm_A12 {S T : zz_M} (h : sm S T) : zz_gA T 12 = zz_gA S 12 := h.1 12 (by decide) (by decide) (by decide) (by decide) (by decide) (by decide) (by decide) (by decide) (by decide) (by decide)
theorem sm_A13 {S T : zz_M} (h : sm S T) : zz_gA T 13 = zz_gA S 13 := h.1 13 (by decide) (by decide) (by decide) (by decide) (by decide) (by decide) (by decide) (by decide) (by decide) (by decide)
theorem sm_I12 {S T : zz_M} (h : sm S T) : zz_gI T 12 = zz_gI S 12 := h.2 12 (by decide) (by decide) (by decide) (by decide) (by decide) (by decide) (by decide) (by decide)
theorem sm_Q {S T : zz_M} (h : sm S T) : cQ T = cQ S := by unfold cQ; rw [sm_I12 h]
theorem sm_Qc {S T : zz_M} (h : sm S T) : cQc T = cQc S := by funext j; unfold cQc; rw [sm_A12 h]
theorem sm_Qb {S T : zz_M} (h : sm S T) : cQb T = cQb S := by funext j; unfold cQb; rw [sm_A13 h]
theorem sm_mk {S T : zz_M} (h : sm S T) (k : mk10 S) : mk10 T := by
  unfold mk10 at k ⊢
  rw [sm_Q h, sm_Qc h, sm_Qb h, sm_A12 h, sm_A13 h, sm_I12 h]; exact k
def sp_ag (ct : Nat → Nat) (qb : Nat → Bool) (tk : Nat → Bool) : Nat → Bool
  | 0 => true
  | k + 1 => sp_ag ct qb tk k && decide (tk (ct k) = qb k)
theorem sp_ag_f {ct : Nat → Nat} {qb tk : Nat → Bool} {i : Nat} (h : sp_ag ct qb tk i = false) : ∀ k, sp_ag ct qb tk (i + k) = false
  | 0 => h
  | k + 1 => by rw [show i + (k + 1) = i + k + 1 from rfl, sp_ag, sp_ag_f h k]; rfl
theorem sp_ag_cg {ct : Nat → Nat} {qb tk tk' : Nat → Bool} : ∀ k, (∀ j, j < k → tk (ct j) = tk' (ct j)) → sp_ag ct qb tk k = sp_ag ct qb tk' k
  | 0, _ => rfl
  | k + 1, h => by rw [sp_ag, sp_ag, sp_ag_cg k (fun j hj => h j (by omega)), h k (by omega)]
theorem zb_q (a b : Bool) : (zb a = zb b) ↔ a = b := by cases a <;> cases b <;> decide
theorem q10_imL (F : Nat) {T : zz_M} {tk : Nat → Bool} (hm : mk10 T) (ht : ∀ c, c < 36 → pX10_isTaken F (nI c) T = some (zb (tk c))) : ∀ (f k i : Nat), i + k = cQ T → k < f →
    pX10_isMissed_L4_2 F T f (zb (sp_ag (cQc T) (cQb T) tk i)) (nI i) = some (zb (sp_ag (cQc T) (cQb T) tk (cQ T))) := by
  obtain ⟨m1, m2, m3⟩ := hm
  intro f
  induction f with
  | zero => intro k i _ h; omega
  | succ f ih =>
    intro k i hk hf
    rw [pX10_isMissed_L4_2, m1]
    simp only [zz_lt]
    simp (disch := omega) only [zl_lit, nI_leI, zl_in, nI_clamp, nI_add, zb1', if_true, zb0]
    cases k with
    | zero => rw [if_pos (by omega), show i = cQ T by omega]
    | succ k =>
      rw [if_neg (by omega)]
      obtain ⟨c1, c2, c3⟩ := m3 i (by omega)
      have h1 := ih k (i + 1) (by omega) (by omega)
      cases q : sp_ag (cQc T) (cQb T) tk i
      · rw [if_pos rfl]
        have := sp_ag_f q (k + 1)
        rw [show i + (k + 1) = cQ T by omega] at this
        rw [this]
      · rw [if_neg (by decide), if_pos (by omega), c1, ht _ c2, c3]
        simp only [zz_b1]
        rw [if_pos (show i < 8 by omega)]
        have e1 : (if zb (cQb T i) = nI 1 then nI 1 else nI 0) = zb (cQb T i) := by cases cQb T i <;> decide
        have e2 : (if zb (tk (cQc T i)) = zb (cQb T i) then nI 1 else nI 0) = zb (decide (tk (cQc T i) = cQb T i)) := by
          cases tk (cQc T i) <;> cases cQb T i <;> decide
        rw [e1, e2]
        rw [sp_ag, q, Bool.true_and] at h1
        exact h1
theorem q10_isMissed (F : Nat) {T : zz_M} {tk : Nat → Bool} (hm : mk10 T) (ht : ∀ c, c < 36 → pX10_isTaken F (nI c) T = some (zb (tk c))) (hF : 100 ≤ F) : pX10_isMissed F T = some (zb (sp_ag (cQc T) (cQb T) tk (cQ T))) := by
  have := hm.2.1
  unfold pX10_isMissed
  exact q10_imL F hm ht F (cQ T) 0 (by omega) (by omega)
theorem q9_bitE {u c : Nat} {b : Bool} (hu : u < 2 ^ 63) (hc : c < 64) : (lg_cmp ((zz_lushr (lN u) (nI c)) &&& lN 1) (zb b).toInt64 = nI 0) ↔ u.testBit c = b := by
  unfold zz_lushr
  rw [show nI 0 = 0 from rfl, lg_cmp_eq, show lN 1 = 1 from rfl, wb_bit (by omega) hc, Nat.testBit_eq_decide_div_mod_eq]
  have hb : u / 2 ^ c % 2 < 2 := Nat.mod_lt _ (by decide)
  generalize u / 2 ^ c % 2 = x at hb ⊢
  rcases (show x = 0 ∨ x = 1 by omega) with rfl | rfl <;> cases b <;> decide
theorem q1_agL {u k : Nat} {cs os : Nat → Int32} {ct : Nat → Nat} {qb : Nat → Bool} (hu : u < 2 ^ 63) (hk8 : k ≤ 8) (h : ∀ j, j < k → cs j = nI (ct j) ∧ ct j < 36 ∧ os j = zb (qb j)) : ∀ (f l i : Nat), i + l = k → l < f → sp_ag ct qb u.testBit i = true →
    pX1_agreesWith_L2_1 (lN u) (nI k) cs os f (nI i) = some (zb (sp_ag ct qb u.testBit k)) := by
  intro f
  induction f with
  | zero => intro l i _ h; omega
  | succ f ih =>
    intro l i hl hf hi
    rw [pX1_agreesWith_L2_1]
    simp (disch := omega) only [zl_lit, zl_litL, zz_lt, nI_leI, zl_in, nI_clamp, nI_add]
    cases l with
    | zero => rw [if_pos (by omega), ← show i = k by omega, hi]; rfl
    | succ l =>
      obtain ⟨c1, c2, c3⟩ := h i (by omega)
      rw [if_neg (by omega), if_pos (by omega), if_pos (by omega), c1, c3]
      by_cases q : u.testBit (ct i) = qb i
      · rw [if_pos ((q9_bitE hu (by omega)).mpr q)]
        exact ih l (i + 1) (by omega) (by omega) (by rw [sp_ag, hi, decide_eq_true q]; rfl)
      · rw [if_neg (fun z => q ((q9_bitE hu (by omega)).mp z))]
        have := sp_ag_f (ct := ct) (qb := qb) (tk := u.testBit) (i := i + 1) (by rw [sp_ag, decide_eq_false q, Bool.and_false]) l
        rw [show i + 1 + l = k by omega] at this
        rw [this]; rfl
theorem q1_agrees (F : Nat) {u k : Nat} {cs os : Nat → Int32} {ct : Nat → Nat} {qb : Nat → Bool} (hu : u < 2 ^ 63) (hk8 : k ≤ 8) (h : ∀ j, j < k → cs j = nI (ct j) ∧ ct j < 36 ∧ os j = zb (qb j)) (hF : 100 ≤ F) : pX1_agreesWith F (lN u) (nI k) cs os = some (zb (sp_ag ct qb u.testBit k)) := by
  unfold pX1_agreesWith
  exact q1_agL hu hk8 h F k 0 (by omega) (by omega) rfl
theorem q9_agrees (F : Nat) {C S : zz_M} {u : Nat} (hu : u < 2 ^ 63) (m : m9 C S) (hF : 100 ≤ F) : pX1_agreesWith F (lN u) (zz_gI C 7) (zz_gA C 9) (zz_gA C 10) = some (zb (sp_ag (cQc S) (cQb S) u.testBit (cQ S))) := by
  obtain ⟨⟨m1, m2, m3⟩, m4, m5⟩ := m
  rw [m4]
  exact q1_agrees F hu m2 (fun j hj => by rw [(m5 j hj).1, (m5 j hj).2]; exact m3 j hj) hF
theorem m9_ke {C D S : zz_M} (h : ke C D) (m : m9 C S) : m9 D S := by
  obtain ⟨m1, m2, m3⟩ := m
  refine ⟨m1, by rw [h.1 7 (by decide) (by decide)]; exact m2, fun j hj => ?_⟩
  rw [h.2.2 9 (by decide) (by decide), h.2.2 10 (by decide) (by decide)]; exact m3 j hj
theorem m9_sm {C S T : zz_M} (h : sm S T) (m : m9 C S) : m9 C T := by
  obtain ⟨m1, m2, m3⟩ := m
  refine ⟨sm_mk h m1, ?_, ?_⟩
  · rw [sm_Q h]; exact m2
  · rw [sm_Q h, sm_A12 h, sm_A13 h]; exact m3
/-! which step may have been left out -/
def sWo (S : zz_M) (u v : Int32) : Nat → Option Nat := sTk S (sp_wo (cB S) (sp_sk u v) (cM S)).1 (sp_wo (cB S) (sp_sk u v) (cM S)).2 (fgT S)
def sTn9 (S : zz_M) (k c : Nat) : Bool := sp_any (sWo S (nI k) (-nI 1)) (cWt S) c (cT S)
def sOm (S : zz_M) (k : Nat) : Bool := sp_ag (cQc S) (cQb S) (sTn9 S k) (cQ S)
def a_omitted (S : zz_M) : Nat := sp_mk (sOm S) (cM S)
theorem sm_Wo {S T : zz_M} (h : sm S T) (u v : Int32) : sWo T u v = sWo S u v := by
  have : fgT T = fgT S := by unfold fgT; rw [sm_Fo h]
  unfold sWo; rw [sm_sTk h, sm_M h, sm_B h, this]
theorem sm_Tn9 {S T : zz_M} (h : sm S T) : sTn9 T = sTn9 S := by funext k c; unfold sTn9; rw [sm_Wo h, sm_Wt h, sm_T h]
theorem sm_Om {S T : zz_M} (h : sm S T) : sOm T = sOm S := by funext k; unfold sOm; rw [sm_Qc h, sm_Qb h, sm_Tn9 h, sm_Q h]
theorem q10_isTakenW (F : Nat) {T : zz_M} {m : Nat} {bs : Nat → Nat} {fg : Nat → Bool} (e3 : wk10 T m bs fg) (hF : 100 ≤ F) {c : Nat} (hc : c < 2 ^ 31) : pX10_isTaken F (nI c) T = some (zb (sp_any (sTk T m bs fg) (cWt T) c (cT T))) := by
  obtain ⟨⟨⟨-, g2, gk, -, -, g4, gT⟩, -⟩, -, hv⟩ := e3
  have ef : sp_takes (cN T) (zz_gA T 2) (sp_vm (cN T) (cW T) (cK T) (cSi T) fg (sp_pl (cN T) (cW T) (cK T) (cGi T) (cSt T) m bs)) (cWt T) (cNd T) = sTk T m bs fg := by funext i; rw [sp_takes_cg gk]; rfl
  rw [q10_isTaken F (cN_le T) gT hv g2 rfl rfl rfl g4 hc hF, ef]
/-- a night without one step: walked by the reference -/
theorem q10_nightWo (F : Nat) {S : zz_M} (h : ok10 S) (hF : 100 ≤ F) (k : Nat) : ∃ T U, pX10_without F (nI k) (-nI 1) S = some T ∧ pX10_walks F T = some U ∧ sm S U ∧ rd10 U ∧ ∀ c, c < 36 → pX10_isTaken F (nI c) U = some (zb (sTn9 S k c)) := by
  obtain ⟨T, e1, e2, e3⟩ := q10_without F h hF (nI k) (-nI 1)
  obtain ⟨U, f1, f2, f3⟩ := q10_walked F (sm_ok e2 h) e3 hF
  have hs := sm_tr e2 f2
  refine ⟨T, U, e1, f1, hs, f3.1.1, fun c hc => ?_⟩
  rw [q10_isTakenW F f3 hF (by omega), sm_sTk hs, sm_Wt hs, sm_T hs]
  rfl
theorem q10_omL (F : Nat) {S : zz_M} (h : ok10 S) (hm : mk10 S) (hF : 100 ≤ F) : ∀ (f k i : Nat) (T : zz_M), sm S T → rd10 T → i + k = cM S → k < f →
    ∃ U, pX10_omittedNow_L8_5 F f (nI (sp_mk (sOm S) i)) (nI i) T = some (nI (a_omitted S), U) ∧ sm S U := by
  intro f
  have hc := cM_le h
  induction f with
  | zero => intro k i T _ _ _ h; omega
  | succ f ih =>
    intro k i T e2 e3 hk hf
    have g3 : zz_gI T 3 = nI (cM T) := e3.2.2.2.1
    rw [sm_M e2] at g3
    rw [pX10_omittedNow_L8_5, g3]
    simp (disch := omega) only [zl_lit, zz_lt, nI_leI, nI_add]
    cases k with
    | zero =>
      have e : i = cM S := by omega
      subst e
      rw [if_pos (by omega)]; exact ⟨T, rfl, e2⟩
    | succ k =>
      obtain ⟨U, V, f1, f2, f3, f4, f5⟩ := q10_nightWo F (sm_ok e2 h) hF i
      have hs := sm_tr e2 f3
      rw [if_neg (by omega), f1]
      simp only [zz_b1]
      rw [f2]
      simp only
      rw [q10_isMissed F (sm_mk hs hm) f5 hF]
      simp only [zb0]
      rw [zl_ishl1 i (by omega), sm_Qc hs, sm_Qb hs, sm_Q hs, sm_Tn9 e2]
      have eo : sp_ag (cQc S) (cQb S) (sTn9 S i) (cQ S) = sOm S i := rfl
      rw [eo]
      have h1 := ih k (i + 1) V hs f4 (by omega) (by omega)
      rw [sp_mk] at h1
      cases q : sOm S i
      · rw [q, if_neg (by decide)] at h1
        rw [if_pos rfl, fa_or, Nat.or_zero]; exact h1
      · rw [q, if_pos rfl] at h1
        rw [if_neg (by decide), fa_or]; exact h1
theorem q10_omittedNow (F : Nat) {S : zz_M} (h : ok10 S) (hm : mk10 S) (hF : 100 ≤ F) : ∃ U, pX10_omittedNow F S = some (nI (a_omitted S), U) ∧ sm S U := by
  obtain ⟨T, e1, e2, e3⟩ := q10_reads F h hF
  have hc := cM_le h
  obtain ⟨U, f1, f2⟩ := q10_omL F h hm hF F (cM S) 0 T e2 e3 (by omega) (by omega)
  rw [sp_mk] at f1
  unfold pX10_omittedNow
  rw [e1]
  simp only [zz_b1, zl_lit]
  exact ⟨U, f1, f2⟩
theorem q10_omitted (F : Nat) {S : zz_M} (h : ok10 S) (hm : mk10 S) (hF : 100 ≤ F) : ∃ U, pX10_omitted F S = some (nI (a_omitted S), U) ∧ sm S U := by
  obtain ⟨U, e1, e2⟩ := q10_omittedNow F h hm hF
  unfold pX10_omitted
  rw [e1]
  exact ⟨U, rfl, e2⟩
theorem sp_tf_lt {tk : Nat → Option Nat} {wt : Nat → Nat} {but : Option Nat} : ∀ m, (∀ i, i < m → wt i ≤ 39) → sp_tf tk wt but m < 2 ^ 40
  | 0, _ => by rw [sp_tf]; decide
  | i + 1, h => by
    have h1 := sp_tf_lt (tk := tk) (but := but) i (fun j hj => h j (by omega))
    have h2 : 2 ^ wt i < 2 ^ 40 := Nat.pow_lt_pow_right (by decide) (by have := h i (by omega); omega)
    rw [sp_tf]
    split
    · exact h1
    · split
      · exact Nat.or_lt_two_pow h1 h2
      · exact h1
theorem cWt_le {S : zz_M} (h : ok10 S) {i : Nat} (hi : i < cT S) : cWt S i ≤ 39 ∧ 1 ≤ cNd S i ∧ cNd S i ≤ 9 := by
  have := (sp_tm_ok (tB S 2) (show tL S 2 ≤ 31 from (h.1 2 (by omega)).2)).2 i hi
  exact this
theorem q9_takenWo (F : Nat) {C S : zz_M} (h : ok10 S) (p : p9 C S) (n : n9 C S) (hF : 100 ≤ F) (u : Int32) : ∃ D, pX9_takenFromWithout F u C = some (lN (sp_tf (sWo S u (-nI 1)) (cWt S) none (cT S)), D) ∧ ko C D := by
  have n1 := n.1
  have n2 := n.2.1
  have p' := p
  obtain ⟨-, -, -, ⟨a0, -⟩, ⟨w1, -, -, w4⟩, ⟨b1, b2⟩, t1, t2⟩ := p'
  unfold pX9_takenFromWithout
  obtain ⟨z, e1, e2⟩ := q4_takeAllBut F (c0 := zz_gI C 21) (s0 := zz_gA C 18) u (-nI 1) b2 (cB_le S) hF
  obtain ⟨pl, vw, f1, f2⟩ := q2_walk F (pl0 := zz_gA C 21) (vw0 := zz_gL C 4) (cK_W S) e2 n2 h.2.2.1.2 hF
  have hv : sp_V vw (sp_vm (cN S) (cW S) (cK S) (cSi S) (fgT S) (sp_pl (cN S) (cW S) (cK S) (cGi S) (cSt S) (sp_wo (cB S) (sp_sk u (-nI 1)) (cM S)).1 (sp_wo (cB S) (sp_sk u (-nI 1)) (cM S)).2)) := fun t ht => (f2 t ht).2
  have e4 := q7_takenFrom F (w := zz_gI C 4) (sh := zz_gL C 0 0) (pl := pl) (but := none) (fun b e => by cases e) (cN_le S) t2 hv hF (ks := zz_gA C 5)
  rw [sp_iN] at e4
  have ef : sp_takes (cN S) (zz_gA C 5) (sp_vm (cN S) (cW S) (cK S) (cSi S) (fgT S) (sp_pl (cN S) (cW S) (cK S) (cGi S) (cSt S) (sp_wo (cB S) (sp_sk u (-nI 1)) (cM S)).1 (sp_wo (cB S) (sp_sk u (-nI 1)) (cM S)).2)) (cWt S) (cNd S) = sWo S u (-nI 1) := by funext i; rw [sp_takes_cg w4]; rfl
  rw [ef] at e4
  simp only [zl_lit]
  rw [b1, e1]
  simp only [zz_b2, zz_lt, zg_IL, zg_IA, zg_AL, zg_AA, zg_LL, zg_LA, zg_AI, zg_LI, zg_II, Nat.reduceEqDiff, reduceIte]
  rw [show (nI 0).toNatClampNeg = 0 from rfl, a0, n1, f1]
  simp only [zz_b1, zg_IL, zg_IA, zg_AL, zg_AA, zg_LL, zg_LA, zg_AI, zg_LI, zg_II, Nat.reduceEqDiff, reduceIte]
  rw [w1, t1, e4]
  refine ⟨_, rfl, ⟨fun j a => by rw [zg_IL, zg_IA, zg_IA, zg_II, if_neg a], fun j a b => by rw [zg_AL, zg_AA, if_neg b, zg_AA, if_neg a, zg_AI], fun j a => by rw [zg_LL, if_neg a, zg_LA, zg_LA, zg_LI]⟩⟩
theorem sWo_lt {S : zz_M} (h : ok10 S) (u v : Int32) : sp_tf (sWo S u v) (cWt S) none (cT S) < 2 ^ 40 := sp_tf_lt _ (fun i hi => (cWt_le h hi).1)
theorem sOm_e (S : zz_M) (k : Nat) : sp_ag (cQc S) (cQb S) (sp_tf (sWo S (nI k) (-nI 1)) (cWt S) none (cT S)).testBit (cQ S) = sOm S k := by
  unfold sOm
  exact sp_ag_cg _ (fun j _ => by rw [sp_tf_b]; rfl)
theorem q9_omL (F : Nat) {S : zz_M} (h : ok10 S) (hF : 100 ≤ F) : ∀ (f k i : Nat) (C : zz_M), p9 C S → n9 C S → m9 C S → i + k = cM S → k < f →
    ∃ D, pX9_omitted_L8_5 F f (nI (sp_mk (sOm S) i)) (nI i) C = some (nI (a_omitted S), D) ∧ ko C D := by
  intro f
  have hm := cM_le h
  induction f with
  | zero => intro k i C _ _ _ _ h; omega
  | succ f ih =>
    intro k i C p n m hk hf
    have g5 : zz_gI C 5 = nI (cM S) := p.2.2.2.2.2.1.1
    rw [pX9_omitted_L8_5, g5]
    simp (disch := omega) only [zl_lit, zz_lt, nI_leI, nI_add]
    cases k with
    | zero =>
      have e : i = cM S := by omega
      subst e
      rw [if_pos (by omega)]; exact ⟨C, rfl, ko_rfl C⟩
    | succ k =>
      obtain ⟨D, f1, f2⟩ := q9_takenWo F h p n hF (nI i)
      have hlt := sWo_lt h (nI i) (-nI 1)
      rw [if_neg (by omega), f1]
      simp only [zz_b2]
      rw [q9_agrees F (by omega) (m9_ke (ke_ko f2) m) hF, sOm_e]
      simp only [zz_b1, zb0]
      rw [zl_ishl1 i (by omega)]
      obtain ⟨E, h1, h2⟩ := ih k (i + 1) D (p9_ko f2 p) (n9_ko f2 n) (m9_ke (ke_ko f2) m) (by omega) (by omega)
      refine ⟨E, ?_, ko_tr f2 h2⟩
      rw [sp_mk] at h1
      cases q : sOm S i
      · rw [q, if_neg (by decide)] at h1
        rw [if_pos rfl]; exact h1
      · rw [q, if_pos rfl] at h1
        rw [if_neg (by decide), fa_or]; exact h1
theorem q9_omitted (F : Nat) {C S : zz_M} (h : ok10 S) (r : r9 C S) (m : m9 C S) (hF : 100 ≤ F) : ∃ D, pX9_omitted F C = some (nI (a_omitted S), D) ∧ r9 D S ∧ ke C D := by
  obtain ⟨D, e1, e2, e3, e4, e5, e6⟩ := q9_set9 F h r hF
  have hm := cM_le h
  obtain ⟨E, f1, f2⟩ := q9_omL F h hF F (cM S) 0 D e2.1 e4 (m9_ke e3 m) (by omega) (by omega)
  rw [sp_mk] at f1
  unfold pX9_omitted
  rw [e1]
  simp only [zz_b1, zl_lit]
  exact ⟨E, f1, r9_ko e2 f2, ke_tr e3 (ke_ko f2)⟩
