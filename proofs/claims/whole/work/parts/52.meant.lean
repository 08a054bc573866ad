/-! which cell a thief may have meant -/
def upw (wt : Nat → Nat) (k c : Nat) : Nat → Nat := fun i => if i = k then c else wt i
def sTkM (S : zz_M) (k c : Nat) : Nat → Option Nat := sp_takes (cN S) (cK S) (cV S) (upw (cWt S) k c) (cNd S)
def sMn (S : zz_M) (k c : Nat) : Bool := sp_ag (cQc S) (cQb S) (fun d => sp_any (sTkM S k c) (upw (cWt S) k c) d (cT S)) (cQ S)
def fdO (p : Nat → Bool) : Option Nat → Nat → Option Nat
  | none, _ => none
  | some j, n => sp_fd p j n
def sMa (S : zz_M) (k : Nat) : Option Nat → Int32
  | none => nI (fa_cnt (sMn S k) (cN S))
  | some j => sp_i (sp_fd (sMn S k) j (cN S))
def a_meant (S : zz_M) (u v : Int32) : Int32 := zo (-nI 2) (fun k => if v = -nI 1 then sMa S k none else zo (-nI 2) (fun j => sMa S k (some j)) (zu v 36)) (zu u (cT S))
theorem sp_i_eq {n : Nat} {v : Option Nat} (hn : n < 2 ^ 31) (hv : ∀ j, v = some j → j < 2 ^ 31) : (nI n = sp_i v) ↔ v = some n := by
  cases v with
  | none => rw [sp_iN, zl_m1a hn]; simp
  | some b => rw [sp_iS, nI_eq hn (hv b rfl)]; simp [eq_comm]
theorem sm_TkM {S T : zz_M} (h : sm S T) (k c : Nat) : sTkM T k c = sTkM S k c := by unfold sTkM; rw [sm_N h, sm_K h, sm_V h, sm_Wt h, sm_Nd h]
theorem sm_Mn {S T : zz_M} (h : sm S T) (k c : Nat) : sMn T k c = sMn S k c := by unfold sMn; rw [sm_Qc h, sm_Qb h, sm_Q h, sm_TkM h, sm_Wt h, sm_T h]
theorem sm_Ma {S T : zz_M} (h : sm S T) (k : Nat) (v : Option Nat) : sMa T k v = sMa S k v := by
  have : sMn T k = sMn S k := funext (sm_Mn h k)
  cases v with
  | none => rw [sMa, sMa, this, sm_N h]
  | some j => rw [sMa, sMa, this, sm_N h]
theorem q10_takenM (F : Nat) {S T : zz_M} {w1 : Nat → Int32} {k c d : Nat} (h : ok10 S) (e2 : sm S T) (e3 : wk10 T (cM S) (cB S) (fgT S)) (hk : k < cT S) (hc : c < cN S) (hw : ∀ i, i ≠ k → w1 i = zz_gA T 4 i) (hwk : w1 k = nI c) (hd : d < 36) (hF : 100 ≤ F) : pX10_isTaken F (nI d) (zz_sA T 4 w1) = some (zb (sp_any (sTkM S k c) (upw (cWt S) k c) d (cT S))) := by
  have hv := wk_V e2 e3
  have hn := cN_le S
  obtain ⟨⟨-, g2, gk, -, -, g4, gT⟩, -⟩ := e3.1
  rw [sm_N e2] at g2 gk
  rw [sm_K e2] at gk
  rw [sm_T e2] at g4 gT
  rw [sm_Wt e2, sm_Nd e2] at gT
  have gT' : sp_T (cT S) w1 (zz_gA T 5) (upw (cWt S) k c) (cNd S) := ⟨gT.1, fun i hi => by
    have g := gT.2 i hi
    unfold upw
    by_cases q : i = k
    · rw [if_pos q, q, hwk]; rw [q] at g; exact ⟨rfl, by omega, g.2.2⟩
    · rw [if_neg q, hw i q]; exact g⟩
  have e := q10_isTaken F (S := zz_sA T 4 w1) hn gT' hv g2 rfl rfl rfl g4 (show d < 2 ^ 31 by omega) hF
  rw [e]
  have ef : sp_takes (cN S) (zz_gA (zz_sA T 4 w1) 2) (cV S) (upw (cWt S) k c) (cNd S) = sTkM S k c := by
    funext i; rw [show zz_gA (zz_sA T 4 w1) 2 = zz_gA T 2 from rfl, sp_takes_cg gk]; rfl
  rw [ef]
theorem q10_mnL (F : Nat) {S T : zz_M} {k : Nat} {v : Option Nat} (h : ok10 S) (hm : mk10 S) (e2 : sm S T) (e3 : wk10 T (cM S) (cB S) (fgT S)) (hk : k < cT S) (hv36 : ∀ j, v = some j → j < 36) (x4 : Int32) (hF : 100 ≤ F) : ∀ (f l c : Nat) (w : Nat → Int32), (∀ i, i ≠ k → w i = zz_gA T 4 i) → c + l = cN S → l < f →
    ∃ U, pX10_meantOf_L20_8 (nI k) (sp_i v) F x4 f (nI (fa_cnt (sMn S k) c)) (sp_i (fdO (sMn S k) v c)) (nI c) (zz_sA T 4 w) = some (sMa S k v, U) ∧ sm S U := by
  have hn := cN_le S
  have ht := cT_le h
  have g2 : zz_gI T 2 = nI (cN T) := e3.1.1.2.1
  rw [sm_N e2] at g2
  intro f
  induction f with
  | zero => intro l c w _ _ h; omega
  | succ f ih =>
    intro l c w hw hl hf
    have hcn := fa_cnt_le (sMn S k) c
    rw [pX10_meantOf_L20_8]
    simp only [zz_lt]
    rw [show zz_gI (zz_sA T 4 w) 2 = nI (cN S) from g2]
    simp (disch := omega) only [zl_lit, nI_leI, zl_in, nI_clamp]
    cases l with
    | zero =>
      have e : c = cN S := by omega
      subst e
      rw [if_pos (by omega), if_pos (show k < 9 by omega)]
      refine ⟨zz_sA (zz_sA T 4 w) 4 (upd (zz_gA (zz_sA T 4 w) 4) k x4), ?_, sm_sA (k := 4) (sm_sA (k := 4) e2 (by decide)) (by decide)⟩
      cases v with
      | none => rw [if_pos sp_iN]; rfl
      | some j => have := hv36 j rfl; rw [if_neg (by rw [sp_iS, zl_m1a (by omega)]; exact id)]; rfl
    | succ l =>
      rw [if_neg (by omega), if_pos (show k < 9 by omega)]
      rw [zs_AA, show zz_gA (zz_sA T 4 w) 4 = w from by rw [zg_AA, if_pos rfl]]
      have hs : sm S (zz_sA T 4 (upd w k (nI c))) := sm_sA e2 (by decide)
      have hw1 : ∀ i, i ≠ k → upd w k (nI c) i = zz_gA T 4 i := fun i hi => by rw [pk_un hi]; exact hw i hi
      have e5 := q10_isMissed F (sm_mk hs hm) (fun d hd => q10_takenM F h e2 e3 hk (show c < cN S by omega) hw1 pk_us hd hF) hF
      rw [sm_Qc hs, sm_Qb hs, sm_Q hs] at e5
      have eo : sp_ag (cQc S) (cQb S) (fun d => sp_any (sTkM S k c) (upw (cWt S) k c) d (cT S)) (cQ S) = sMn S k c := rfl
      rw [eo] at e5
      rw [e5]
      simp only [zz_b1, zb0]
      obtain ⟨U, h1, h2⟩ := ih l (c + 1) (upd w k (nI c)) hw1 (by omega) (by omega)
      refine ⟨U, ?_, h2⟩
      have hfd : ∀ j, sp_fd (sMn S k) j (c + 1) = if sMn S k c = true ∧ fa_cnt (sMn S k) c = j then some c else sp_fd (sMn S k) j c := fun j => by rw [sp_fd]
      rw [nI_add c 1]
      cases q : sMn S k c
      · rw [fa_cnt_no q] at h1
        rw [if_pos rfl, if_pos rfl, nI_add]
        cases v with
        | none => exact h1
        | some j =>
          rw [fdO, hfd, q, if_neg (by simp)] at h1
          exact h1
      · rw [fa_cnt_yes q] at h1
        rw [if_neg (by decide), if_neg (by decide), nI_add]
        cases v with
        | none =>
          rw [if_neg (by rw [sp_iN, zl_m1a (by omega)]; exact id)]
          exact h1
        | some j =>
          have hj := hv36 j rfl
          rw [fdO, hfd, q] at h1
          by_cases qj : fa_cnt (sMn S k) c = j
          · rw [if_pos ⟨rfl, qj⟩, sp_iS] at h1
            rw [if_pos (by rw [qj]; rfl)]
            exact h1
          · rw [if_neg (fun z => qj z.2)] at h1
            rw [if_neg (fun z => qj (by rw [sp_iS] at z; exact (nI_eq (by omega) (by omega)).mp z))]
            exact h1
theorem q10_meantOf (F : Nat) {S : zz_M} {k : Nat} {v : Option Nat} (h : ok10 S) (hm : mk10 S) (hk : k < cT S) (hv36 : ∀ j, v = some j → j < 36) (hF : 100 ≤ F) : ∃ U, pX10_meantOf F (nI k) (sp_i v) S = some (sMa S k v, U) ∧ sm S U := by
  obtain ⟨T, e1, e2, e3⟩ := q10_walksTold F h hF
  have hn := cN_le S
  have ht := cT_le h
  unfold pX10_meantOf
  rw [e1]
  simp (disch := omega) only [zz_b1, zz_lt, zl_lit, zl_in, nI_clamp]
  rw [if_pos (show k < 9 by omega)]
  obtain ⟨U, u1, u2⟩ := q10_mnL F h hm e2 e3 hk hv36 (zz_gA T 4 k) hF F (cN S) 0 (zz_gA T 4) (fun _ _ => rfl) (by omega) (by omega)
  rw [ss_A] at u1
  refine ⟨U, ?_, u2⟩
  rw [fa_cnt] at u1
  have : fdO (sMn S k) v 0 = none := by cases v <;> rfl
  rw [this, sp_iN] at u1
  exact u1
theorem q10_meant (F : Nat) {S : zz_M} (h : ok10 S) (hm : mk10 S) (hF : 100 ≤ F) (u v : Int32) : ∃ T, pX10_meant F u v S = some (a_meant S u v, T) ∧ sm S T := by
  unfold pX10_meant a_meant
  obtain ⟨T, e1, e2, -⟩ := q10_isThief F h hF u
  rw [e1]
  simp only [zl_lit, zz_b2, zz_lt]
  rw [q10_inO F v (by omega)]
  simp only [zz_b1, zb0]
  cases q : zu u (cT S) with
  | none => exact ⟨T, rfl, e2⟩
  | some k =>
    obtain ⟨h1, h2⟩ := zu_S q
    subst h2
    simp only [Option.isSome, zo_S]
    rw [if_neg (by decide)]
    by_cases qv : v = -nI 1
    · obtain ⟨U, u1, u2⟩ := q10_meantOf F (v := none) (sm_ok e2 h) (sm_mk e2 hm) (by rw [sm_T e2]; exact h1) (fun j z => by cases z) hF
      rw [sp_iN, sm_Ma e2] at u1
      rw [if_neg (by simp [qv]), if_pos qv, qv, u1]
      exact ⟨U, rfl, sm_tr e2 u2⟩
    · rw [if_neg qv]
      cases q2 : zu v 36 with
      | none => rw [if_pos (by simp [qv])]; exact ⟨T, rfl, e2⟩
      | some j =>
        obtain ⟨h3, h4⟩ := zu_S q2
        subst h4
        obtain ⟨U, u1, u2⟩ := q10_meantOf F (v := some j) (sm_ok e2 h) (sm_mk e2 hm) (by rw [sm_T e2]; exact h1) (fun i z => by cases z; exact h3) hF
        rw [sp_iS, sm_Ma e2] at u1
        rw [if_neg (by simp), u1]
        exact ⟨U, rfl, sm_tr e2 u2⟩
/-! the class -/
theorem mn_any {tk tk' : Nat → Option Nat} {wt wt' : Nat → Nat} {k c d : Nat} (h1 : ∀ i, i ≠ k → tk' i = tk i) (h2 : ∀ i, i ≠ k → wt' i = wt i) (h3 : wt' k = c) : ∀ m, sp_any tk' wt' d m = ((sp_tf tk wt (some k) m).testBit d || (decide (k < m) && (decide (c = d) && (tk' k).isSome)))
  | 0 => by rw [sp_any, sp_tf]; simp
  | i + 1 => by
    rw [sp_any, sp_tf, mn_any h1 h2 h3 i]
    by_cases q : i = k
    · subst q
      rw [if_pos rfl, h3]; simp
    · rw [if_neg (by simp; exact fun z => q z.symm), h1 i q, h2 i q]
      have hd : decide (k < i + 1) = decide (k < i) := by rw [decide_eq_decide]; omega
      rw [hd]
      cases q2 : (tk i).isSome
      · simp
      · rw [if_pos rfl, fb_bit_set]
        have : decide (d = wt i) = decide (wt i = d) := by rw [decide_eq_decide]; exact eq_comm
        rw [this]
        cases (sp_tf tk wt (some k) i).testBit d <;> cases decide (wt i = d) <;> simp
theorem q9_cmL (F : Nat) {C S : zz_M} {k : Nat} (h : ok10 S) (p : p9 C S) (n : n9 C S) (m : m9 C S) (hk : k < cT S) (hF : 100 ≤ F) : ∀ (f l c : Nat), c + l = cN S → l < f →
    pX9_cellsMeant_L23_4 (nI k) F C (lN (sp_tf (cTk S) (cWt S) (some k) (cT S))) f (lN (sp_mk (sMn S k) c)) (nI c) = some (lN (sp_mk (sMn S k) (cN S))) := by
  have hn := cN_le S
  have ht := cT_le h
  have hv := n.2.2.2
  have p' := p
  obtain ⟨-, -, -, -, ⟨w1, -, -, w4⟩, -, t1, t2⟩ := p'
  obtain ⟨-, -, t3, t4, t5⟩ := t2.2 k hk
  have hb : sp_tf (cTk S) (cWt S) (some k) (cT S) < 2 ^ 40 := sp_tf_lt _ (fun i hi => (cWt_le h hi).1)
  intro f
  induction f with
  | zero => intro l c _ h; omega
  | succ f ih =>
    intro l c hl hf
    rw [pX9_cellsMeant_L23_4, w1]
    simp (disch := omega) only [zl_lit, zl_litL, zz_lt, nI_leI, zl_in, nI_clamp, nI_add]
    cases l with
    | zero => rw [if_pos (by omega), show c = cN S by omega]
    | succ l =>
      rw [if_neg (by omega), q8_isShop F hn (by omega), sp_shop_cg w4, if_pos (show k < 8 by omega), t3, q2_endOfUnseen F hv (by omega) t5 hF]
      simp only [zz_b1, zb0]
      rw [zl_shl1 (show c < 64 by omega)]
      have hkey : ∀ M, M < 2 ^ 63 → (∀ d, M.testBit d = sp_any (sTkM S k c) (upw (cWt S) k c) d (cT S)) → pX1_agreesWith F (lN M) (zz_gI C 7) (zz_gA C 9) (zz_gA C 10) = some (zb (sMn S k c)) := fun M hM hd => by
        rw [q9_agrees F hM m hF]
        unfold sMn
        rw [sp_ag_cg (tk' := fun d => sp_any (sTkM S k c) (upw (cWt S) k c) d (cT S)) _ (fun j _ => hd (cQc S j))]
      have hany := fun d => mn_any (tk := cTk S) (tk' := sTkM S k c) (wt := cWt S) (wt' := upw (cWt S) k c) (k := k) (c := c) (d := d) (fun i hi => by unfold sTkM cTk sp_takes upw; rw [if_neg hi]) (fun i hi => by unfold upw; rw [if_neg hi]) (by unfold upw; rw [if_pos rfl]) (cT S)
      have hks : sTkM S k c k = if sp_shop (cN S) (cK S) c then sp_tk (fun t => (cV S t).testBit c) (cNd S k) else none := by
        unfold sTkM sp_takes upw; rw [if_pos rfl]
      have h1 := ih l (c + 1) (by omega) (by omega)
      rw [sp_mk] at h1
      have fin : ∀ x : Int64, (x = if sMn S k c = false then lN (sp_mk (sMn S k) c) else lN (sp_mk (sMn S k) c) ||| lN (2 ^ c)) → pX9_cellsMeant_L23_4 (nI k) F C (lN (sp_tf (cTk S) (cWt S) (some k) (cT S))) f x (nI (c + 1)) = some (lN (sp_mk (sMn S k) (cN S))) := fun x hx => by
        rw [hx]
        cases q : sMn S k c
        · rw [q, if_neg (by decide)] at h1
          rw [if_pos rfl]; exact h1
        · rw [q, if_pos rfl] at h1
          rw [if_neg (by decide), fb_orL]; exact h1
      have no : (sTkM S k c k).isSome = false → pX1_agreesWith F (lN (sp_tf (cTk S) (cWt S) (some k) (cT S))) (zz_gI C 7) (zz_gA C 9) (zz_gA C 10) = some (zb (sMn S k c)) := fun z =>
        hkey _ (by omega) (fun d => by rw [hany d, z, Bool.and_false, Bool.and_false, Bool.or_false])
      cases qs : sp_shop (cN S) (cK S) c
      · rw [qs] at hks
        rw [if_pos rfl, if_pos trivial, no (by rw [hks]; rfl)]
        simp only [zb0]
        exact fin _ rfl
      · rw [qs, if_pos rfl] at hks
        rw [if_neg (by decide)]
        cases qt : sp_tk (fun t => (cV S t).testBit c) (cNd S k) with
        | none =>
          rw [qt] at hks
          rw [if_pos sp_iN, if_pos trivial, no (by rw [hks]; rfl)]
          simp only [zb0]
          exact fin _ rfl
        | some x =>
          rw [qt] at hks
          have hx : x < 96 := by have := sp_end_lt 96 0 0 x qt; omega
          have yes : pX1_agreesWith F (lN (sp_tf (cTk S) (cWt S) (some k) (cT S) ||| 2 ^ c)) (zz_gI C 7) (zz_gA C 9) (zz_gA C 10) = some (zb (sMn S k c)) := by
            have h2 : sp_tf (cTk S) (cWt S) (some k) (cT S) ||| 2 ^ c < 2 ^ 40 := Nat.or_lt_two_pow hb (Nat.pow_lt_pow_right (by decide) (by omega))
            refine hkey _ (by omega) (fun d => ?_)
            rw [hany d, hks, fb_bit_set, decide_eq_true hk]
            have : decide (d = c) = decide (c = d) := by rw [decide_eq_decide]; exact eq_comm
            rw [this]; simp
          rw [if_neg (by rw [sp_iS, zl_m1a (by omega)]; exact id), if_neg (by decide), fb_orL, yes]
          simp only [zb0]
          exact fin _ rfl
theorem q9_cellsMeant (F : Nat) {C S : zz_M} {k : Nat} (h : ok10 S) (p : p9 C S) (n : n9 C S) (m : m9 C S) (hk : k < cT S) (hF : 100 ≤ F) : pX9_cellsMeant F (nI k) C = some (lN (sp_mk (sMn S k) (cN S))) := by
  have hn := cN_le S
  have ht := cT_le h
  have hv := n.2.2.2
  have p' := p
  obtain ⟨-, -, -, -, ⟨w1, -, -, w4⟩, -, t1, t2⟩ := p'
  have e4 := q7_takenFrom F (w := zz_gI C 4) (sh := zz_gL C 0 0) (pl := zz_gA C 17) (but := some k) (fun b e => by cases e; omega) (cN_le S) t2 hv hF (ks := zz_gA C 5)
  have ef : sp_takes (cN S) (zz_gA C 5) (cV S) (cWt S) (cNd S) = cTk S := by funext i; rw [sp_takes_cg w4]; rfl
  rw [ef, sp_iS] at e4
  unfold pX9_cellsMeant
  rw [w1, t1, e4]
  simp only [zz_b1, zl_lit, zl_litL]
  exact q9_cmL F h p n m hk hF F (cN S) 0 (by omega) (by omega)
theorem q9_rngP {α : Type} {u : Int32} {N : Nat} (hN : N < 2 ^ 31 - 1) (a b : α) : (if u < -nI 1 then a else if u < nI (N + 1) then b else a) = if (decide (u = -nI 1) || (zu u (N + 1)).isSome) = true then b else a := by
  rw [← q9_rngO hN]
  have : (u ≤ nI N) ↔ u < nI (N + 1) := by rw [fa_le, fa_lt, zl_T (by omega), zl_T (by omega)]; omega
  by_cases q1 : u < -nI 1
  · rw [if_pos q1, if_pos q1]
  · rw [if_neg q1, if_neg q1]
    by_cases q : u ≤ nI N
    · rw [if_pos q, if_pos (this.mp q)]
    · rw [if_neg q, if_neg (fun z => q (this.mpr z))]
theorem q9_meant (F : Nat) {C S : zz_M} (h : ok10 S) (r : r9 C S) (m : m9 C S) (hF : 100 ≤ F) (u v : Int32) : ∃ D, pX9_meant F u v C = some (a_meant S u v, D) ∧ r9 D S ∧ ke C D := by
  unfold pX9_meant a_meant
  rw [q9_isThief F r.1]
  simp only [zl_lit, zz_lt]
  rw [show nI 36 = nI (35 + 1) from rfl, q9_rngP (by omega)]
  cases q : zu u (cT S) with
  | none => exact ⟨C, rfl, r, ke_rfl C⟩
  | some k =>
    obtain ⟨h1, h2⟩ := zu_S q
    subst h2
    have hn := cN_le S
    obtain ⟨D, e1, e2, e3, e4, e5, e6⟩ := q9_set9 F h r hF
    have e7 := q9_cellsMeant F h e2.1 e4 (m9_ke e3 m) h1 hF
    have hlt : sp_mk (sMn S k) (cN S) < 2 ^ 36 := Nat.lt_of_lt_of_le (sp_mk_lt _ _) (Nat.pow_le_pow_right (by decide) hn)
    simp only [zz_b1, zb0, Option.isSome, zo_S]
    rw [if_neg (by decide), e1]
    simp only
    rw [e7]
    simp only
    by_cases qv : v = -nI 1
    · rw [if_pos (by simp [qv]), if_pos qv, if_pos qv, qJ_bitCountL F hlt, mk_cnt _ hn]
      exact ⟨D, rfl, e2, e3⟩
    · rw [if_neg qv, if_neg qv]
      cases q2 : zu v 36 with
      | none => rw [if_neg (by simp [qv, q2])]; exact ⟨C, rfl, r, ke_rfl C⟩
      | some j =>
        obtain ⟨h3, h4⟩ := zu_S q2
        subst h4
        rw [if_pos (by simp [q2]), q9_placeOfBit F (by omega) (by omega) hF, mk_fd36 _ hn]
        exact ⟨D, rfl, e2, e3⟩
