/-! a night: where the constable may be, where it goes, what it sees -/
def sp_for (kd : Nat → Int32) (gi c : Nat) : Bool := if kd c = nI 1 then false else if kd c = nI 3 then decide (gi ≤ 7) else if kd c = nI 4 then decide (gi ≤ 2) else true
def sp_foro (n : Nat) (kd : Nat → Int32) (gi : Nat) : Option Nat → Bool
  | none => false
  | some c => decide (c < n) && sp_for kd gi c
theorem sp_foroS (n : Nat) (kd : Nat → Int32) (gi c : Nat) : sp_foro n kd gi (some c) = (decide (c < n) && sp_for kd gi c) := rfl
theorem q8_isFor (F : Nat) {n w gi : Nat} {wi : Int32} {sh : Int64} {ks : Nat → Int32} (h : sp_W n w ks) (hg : gi ≤ 9) (o : Option Nat) (ho : ∀ c, o = some c → c < 2 ^ 31) : pX8_isFor F (nI gi) (sp_i o) (nI n) wi sh ks = some (zb (sp_foro n ks gi o)) := by
  have hn := h.1
  unfold pX8_isFor
  rw [q8_has F hn o ho]
  simp only [zz_b1, zz_lt, zb0']
  cases o with
  | none => rw [if_pos rfl]; rfl
  | some c =>
    have hc := ho c rfl
    by_cases q : c < n
    · obtain ⟨j, hj, e⟩ := h.2.2.2 c q
      rw [if_neg (by simp [q]), sp_iS, if_pos ((zl_in (by omega)).mpr (by omega)), nI_clamp (by omega)]
      rw [sp_foroS, decide_eq_true q, Bool.true_and]
      unfold sp_for
      rw [e]
      simp (disch := omega) only [zl_lit, nI_ltI, nI_eq, zl_T]
      rcases (show j = 0 ∨ j = 1 ∨ j = 2 ∨ j = 3 ∨ j = 4 by omega) with rfl | rfl | rfl | rfl | rfl
      · rfl
      · rfl
      · rfl
      · by_cases q2 : gi ≤ 7
        · simp [q2, show ¬ 7 < gi by omega]; rfl
        · simp [q2, show 7 < gi by omega]; rfl
      · by_cases q2 : gi ≤ 2
        · simp [q2, show ¬ 2 < gi by omega]; rfl
        · simp [q2, show 2 < gi by omega]; rfl
    · rw [if_pos (by simp [q])]
      rw [sp_foroS, decide_eq_false q, Bool.false_and]; rfl
def sp_go (n w : Nat) (kd : Nat → Int32) (gi c st : Nat) : Nat := match sp_nb n w c st with
  | none => c
  | some c' => if sp_for kd gi c' then c' else c
theorem sp_go_lt {n w gi c st : Nat} {kd : Nat → Int32} (h : sp_W n w kd) (hc : c < n) : sp_go n w kd gi c st < n := by
  unfold sp_go
  cases q : sp_nb n w c st with
  | none => exact hc
  | some c' =>
    have := sp_nb_lt h hc q
    simp only; split <;> omega
theorem sp_go_for {n w gi c st : Nat} {kd : Nat → Int32} (hf : sp_for kd gi c = true) : sp_for kd gi (sp_go n w kd gi c st) = true := by
  unfold sp_go
  cases q : sp_nb n w c st with
  | none => exact hf
  | some c' =>
    simp only; split
    · assumption
    · exact hf
/-- the ground as it is laid out -/
def sp_G (n w : Nat) (kd : Nat → Int32) (gi s : Nat) (nx : Nat → Int32) (vw : Nat → Int64) (hd : Nat → Int32) (k : Nat) : Prop := ∀ c, c < k → hd c = zb (sp_for kd gi c) ∧ vw c = lN (sp_view n w kd s c) ∧ ∀ st, st < 5 → nx (c * 5 + st) = nI (sp_go n w kd gi c st)
theorem q0_layL2 (F : Nat) {n w gi c : Nat} {sh : Int64} {ks : Nat → Int32} (h : sp_W n w ks) (hg : gi ≤ 9) (hc : c < n) (kL : Int32 → (Nat → Int32) → (Nat → Int64) → (Nat → Int32) → Option (Int32 × (Nat → Int32) × (Nat → Int64) × (Nat → Int32))) (f10 : Nat → Int32) (f14 : Nat → Int64) (z0 : Nat → Int32) :
    ∀ (f st : Nat) (z : Nat → Int32), st ≤ 5 → 6 ≤ f + st → (∀ j, j < c * 5 → z j = z0 j) → (∀ s', s' < st → z (c * 5 + s') = nI (sp_go n w ks gi c s')) → ∃ z' : Nat → Int32, pX0_lay_L56_16 (nI gi) F (nI n) (nI w) sh ks (nI c) kL f10 f14 f (nI st) z = kL (nI (c + 1)) z' f14 f10 ∧ (∀ j, j < c * 5 → z' j = z0 j) ∧ (∀ s', s' < 5 → z' (c * 5 + s') = nI (sp_go n w ks gi c s')) := by
  have hn := h.1
  intro f
  induction f with
  | zero => intro st z h1 h2; omega
  | succ f ih =>
    intro st z h1 h2 hz hs
    rw [pX0_lay_L56_16]
    simp only [zz_lt]
    simp (disch := omega) only [zl_lit, nI_leI, nI_add, pk_mul]
    by_cases q : 5 ≤ st
    · rw [if_pos q]
      exact ⟨z, rfl, hz, fun s' hs' => hs s' (by omega)⟩
    · rw [if_neg q]
      have key : ∃ o : Option Nat, pX8_neighbour F (nI c) (nI st) (nI n) (nI w) sh ks = some (sp_i o) ∧ (∀ c', o = some c' → c' < n) ∧ (if sp_foro n ks gi o = false then nI c else sp_i o) = nI (sp_go n w ks gi c st) := by
        by_cases q4 : st < 4
        · refine ⟨sp_nb n w c st, q8_neighbour F h hc q4, fun c' e => sp_nb_lt h hc e, ?_⟩
          unfold sp_go
          cases q5 : sp_nb n w c st with
          | none => rfl
          | some c' =>
            have := sp_nb_lt h hc q5
            rw [sp_foroS, decide_eq_true this, Bool.true_and]
            simp only
            cases sp_for ks gi c' <;> rfl
        · have e4 : st = 4 := by omega
          subst e4
          refine ⟨some c, q8_neighbour4 F h hc, fun c' e => by cases e; exact hc, ?_⟩
          have : sp_go n w ks gi c 4 = c := rfl
          rw [this, sp_iS]; split <;> rfl
      obtain ⟨o, e1, e2, e3⟩ := key
      rw [e1]
      simp only [zz_b1]
      rw [q8_isFor F h hg o (fun c' e => by have := e2 c' e; omega)]
      simp only [zb0]
      rw [e3, if_pos ((zl_in (by omega)).mpr (by omega)), nI_clamp (by omega)]
      refine ih (st + 1) _ (by omega) (by omega) (fun j hj => by rw [pk_un (by omega)]; exact hz j hj) (fun s' hs' => ?_)
      by_cases e : s' = st
      · subst e; rw [pk_us]
      · rw [pk_un (by omega)]; exact hs s' (by omega)
theorem q0_layL1 (F : Nat) {n w gi s : Nat} {sh : Int64} {ks : Nat → Int32} (h : sp_W n w ks) (hg : gi ≤ 9) (hs : s ≤ 9) (hF : 100 ≤ F) :
    ∀ (f c : Nat) (z3 : Nat → Int32) (z4 : Nat → Int64) (z5 : Nat → Int32), c ≤ n → n < f + c → sp_G n w ks gi s z3 z4 z5 c → ∃ (nx : Nat → Int32) (vw : Nat → Int64) (hd : Nat → Int32), pX0_lay_L16_5 (nI gi) (nI s) F (nI n) (nI w) sh ks (nI n) f (nI c) z3 z4 z5 = some (nI n, nx, vw, hd) ∧ sp_G n w ks gi s nx vw hd n := by
  have hn := h.1
  intro f
  induction f with
  | zero => intro c z3 z4 z5 h1 h2; omega
  | succ f ih =>
    intro c z3 z4 z5 h1 h2 hG
    rw [pX0_lay_L16_5]
    by_cases q : n ≤ c
    · rw [if_pos (nI_le q (by omega))]
      exact ⟨z3, z4, z5, rfl, by rw [show c = n by omega] at hG; exact hG⟩
    · have e0 := q8_isFor (wi := nI w) (sh := sh) F h hg (some c) (fun c' e => by cases e; omega)
      rw [sp_iS] at e0
      rw [if_neg (nI_ge (by omega) (by omega)), e0]
      simp only [zz_b1, zz_lt, sp_iS, zb_n]
      rw [if_pos ((zl_in (by omega)).mpr (by omega)), q8_viewFrom F h hs (by omega) (by omega)]
      simp only
      rw [if_pos ((zl_in (by omega)).mpr (by omega)), nI_clamp (by omega)]
      obtain ⟨z', e1, e2, e3⟩ := q0_layL2 F h hg (show c < n by omega) (fun b0 b1 b2 b3 => pX0_lay_L16_5 (nI gi) (nI s) F (nI n) (nI w) sh ks (nI n) f b0 b1 b2 b3) (upd z5 c (zb (sp_foro n ks gi (some c)))) (vp_updL z4 c (lN (sp_view n w ks s c))) z3 F 0 z3 (by omega) (by omega) (fun _ _ => rfl) (fun s' hs' => by omega)
      rw [show (0 : Int32) = nI 0 from rfl, e1]
      refine ih (c + 1) _ _ _ (by omega) (by omega) (fun c' hc' => ?_)
      by_cases e : c' = c
      · subst e
        refine ⟨?_, pk_uLs, e3⟩
        rw [pk_us, sp_foroS, decide_eq_true (by omega), Bool.true_and]
      · obtain ⟨g1, g2, g3⟩ := hG c' (by omega)
        exact ⟨by rw [pk_un e]; exact g1, by rw [pk_uLn e]; exact g2, fun st hst => by rw [e2 _ (by omega)]; exact g3 st hst⟩
theorem q0_lay (F : Nat) {n w gi s : Nat} {c0 : Int32} {nx0 hd0 : Nat → Int32} {vw0 : Nat → Int64} {sh : Int64} {ks : Nat → Int32} (h : sp_W n w ks) (hg : gi ≤ 9) (hs : s ≤ 9) (hF : 100 ≤ F) : ∃ (nx : Nat → Int32) (vw : Nat → Int64) (hd : Nat → Int32), pX0_lay F (nI gi) (nI s) c0 nx0 vw0 hd0 (nI n) (nI w) sh ks = some (nI n, nx, vw, hd) ∧ sp_G n w ks gi s nx vw hd n := by
  have hn := h.1
  unfold pX0_lay
  simp only [zz_lt]
  rw [if_neg (show ¬ (36 : Int32) < nI n from fun q => absurd ((nI_ltI (a := 36) (by omega) (by omega)).mp q) (by omega))]
  exact q0_layL1 F h hg hs hF F 0 _ _ _ (by omega) (by omega) (fun c hc => by omega)
/-! the walk -/
def sp_B (m : Nat) (sa : Nat → Int32) (bs : Nat → Nat) : Prop := m ≤ 24 ∧ ∀ i, i < m → sa i = nI (bs i) ∧ bs i ≤ 4
def sp_st (n : Nat) (kd : Nat → Int32) (gi st : Nat) : Option Nat := if decide (st < n) && sp_for kd gi st then some st else none
def sp_nx (n w : Nat) (kd : Nat → Int32) (gi m : Nat) (bs : Nat → Nat) (t : Nat) : Option Nat → Option Nat
  | none => none
  | some c => if m = 0 then some c else some (sp_go n w kd gi c (bs (t % m)))
def sp_pl (n w : Nat) (kd : Nat → Int32) (gi st m : Nat) (bs : Nat → Nat) : Nat → Option Nat
  | 0 => sp_st n kd gi st
  | t + 1 => sp_nx n w kd gi m bs t (sp_pl n w kd gi st m bs t)
theorem sp_pl_ok {n w gi st m : Nat} {kd : Nat → Int32} {bs : Nat → Nat} (h : sp_W n w kd) : ∀ (t c : Nat), sp_pl n w kd gi st m bs t = some c → c < n ∧ sp_for kd gi c = true
  | 0, c, e => by
    rw [sp_pl, sp_st] at e
    split at e
    · rename_i q; cases e; simpa using q
    · cases e
  | t + 1, c, e => by
    rw [sp_pl] at e
    cases q : sp_pl n w kd gi st m bs t with
    | none => rw [q] at e; cases e
    | some c' =>
      obtain ⟨h1, h2⟩ := sp_pl_ok h t c' q
      rw [q, sp_nx] at e
      split at e
      · cases e; exact ⟨h1, h2⟩
      · cases e; exact ⟨sp_go_lt h h1, sp_go_for h2⟩
def sp_hb (n : Nat) (b : Nat → Bool) : Option Nat → Bool
  | none => false
  | some c => decide (c < n) && b c
theorem sp_hbS (n : Nat) (b : Nat → Bool) (c : Nat) : sp_hb n b (some c) = (decide (c < n) && b c) := rfl
theorem q0_holds (F : Nat) {n : Nat} {nx hd : Nat → Int32} {vw : Nat → Int64} {b : Nat → Bool} (hn : n ≤ 36) (hh : ∀ c, c < n → hd c = zb (b c)) (o : Option Nat) (ho : ∀ c, o = some c → c < 2 ^ 31) : pX0_holds F (sp_i o) (nI n) nx vw hd = some (zb (sp_hb n b o)) := by
  unfold pX0_holds
  simp only [zz_lt]
  cases o with
  | none =>
    simp (disch := omega) only [zl_lit, sp_iN, zl_m1c, zl_m1d, zl_m1e]
    rfl
  | some c =>
    have hc := ho c rfl
    simp (disch := omega) only [zl_lit, sp_iS, nI_ltI, nI_leI]
    rw [if_neg (by omega)]
    by_cases q : c < n
    · rw [if_neg (by omega), if_pos ((zl_in (by omega)).mpr (by omega)), nI_clamp (by omega), hh c q]
      simp only [zb0]
      rw [sp_hbS, decide_eq_true q, Bool.true_and]
      cases b c
      · rfl
      · rfl
    · rw [if_pos (by omega), sp_hbS, decide_eq_false q, Bool.false_and]; rfl
theorem q0_stepFrom (F : Nat) {n c st : Nat} {nx hd : Nat → Int32} {vw : Nat → Int64} (hn : n ≤ 36) (hc : c < n) (hs : st ≤ 4) : pX0_stepFrom F (nI c) (nI st) (nI n) nx vw hd = some (nx (c * 5 + st)) := by
  unfold pX0_stepFrom
  simp only [zz_lt]
  simp (disch := omega) only [zl_lit, nI_ltI, nI_leI, pk_mul, nI_add, zl_in, nI_clamp]
  rw [if_neg (by omega), if_neg (by omega), if_neg (by omega), if_pos (by omega), if_pos (by omega)]
theorem q0_stepFromN (F : Nat) {n : Nat} {st : Int32} {nx hd : Nat → Int32} {vw : Nat → Int64} : pX0_stepFrom F (-nI 1) st (nI n) nx vw hd = some (-nI 1) := by
  unfold pX0_stepFrom
  simp only [zz_lt]
  rw [if_pos (by decide)]
/-- a night as the class keeps it -/
def sp_N (n w : Nat) (kd : Nat → Int32) (s : Nat) (P : Nat → Option Nat) (pl : Nat → Int32) (vw : Nat → Int64) (k : Nat) : Prop := ∀ t, t < k → pl t = sp_i (P t) ∧ vw t = lN (sp_see n w kd s (P t))
theorem nx_mod1 {t m : Nat} (hm : 0 < m) : (t + 1) % m = if m ≤ t % m + 1 then 0 else t % m + 1 := by
  have h1 := Nat.mod_lt t hm
  have e : t + 1 = m * (t / m) + (t % m + 1) := by have := Nat.div_add_mod t m; omega
  rw [e, Nat.mul_add_mod]
  generalize t % m = r at h1 ⊢
  by_cases q : m ≤ r + 1
  · rw [if_pos q, show r + 1 = m by omega, Nat.mod_self]
  · rw [if_neg q, Nat.mod_eq_of_lt (by omega)]
theorem q2_walkL (F : Nat) {n w gi s st m : Nat} {kd sa nx hd : Nat → Int32} {gv : Nat → Int64} {bs : Nat → Nat} (h : sp_W n w kd) (hB : sp_B m sa bs) (hG : sp_G n w kd gi s nx gv hd n) :
    ∀ (f t : Nat) (z8 : Nat → Int32) (z9 : Nat → Int64), t ≤ 96 → 96 < f + t → sp_N n w kd s (sp_pl n w kd gi st m bs) z8 z9 t → ∃ (pl : Nat → Int32) (vw : Nat → Int64), pX2_walk_L21_9 F (nI n) nx gv hd (nI m) sa f (sp_i (sp_pl n w kd gi st m bs t)) (nI (if m = 0 then 0 else t % m)) (nI t) z8 z9 = some (pl, vw) ∧ sp_N n w kd s (sp_pl n w kd gi st m bs) pl vw 96 := by
  have hn := h.1
  obtain ⟨hm, hB⟩ := hB
  intro f
  induction f with
  | zero => intro t z8 z9 h1 h2; omega
  | succ f ih =>
    intro t z8 z9 h1 h2 hN
    rw [pX2_walk_L21_9]
    by_cases q : 96 ≤ t
    · have e : t = 96 := by omega
      subst e
      rw [if_pos (show (96 : Int32) ≤ nI 96 from by decide)]
      exact ⟨z8, z9, rfl, hN⟩
    · rw [if_neg (show ¬ (96 : Int32) ≤ nI t from nI_ge (b := 96) (by omega) (by omega))]
      have hok := fun c => sp_pl_ok (gi := gi) (st := st) (m := m) (bs := bs) h t c
      have hmt : m ≠ 0 → t % m < m := fun e => Nat.mod_lt _ (by omega)
      have hin : zz_in (nI t) 96 := (zl_in (by omega)).mpr (by omega)
      have hext : sp_N n w kd s (sp_pl n w kd gi st m bs) (upd z8 t (sp_i (sp_pl n w kd gi st m bs t))) (vp_updL z9 t (lN (sp_see n w kd s (sp_pl n w kd gi st m bs t)))) (t + 1) := by
        intro t' ht'
        by_cases e : t' = t
        · subst e; exact ⟨pk_us, pk_uLs⟩
        · rw [pk_un e, pk_uLn e]; exact hN t' (by omega)
      have hih := ih (t + 1) _ _ (by omega) (by omega) hext
      rw [if_pos hin, q0_holds F hn (fun c hc => (hG c hc).1) _ (fun c e => by have := (hok c e).1; omega)]
      simp only [zz_lt, zz_b1]
      simp only [if_pos hin, zb0']
      rw [nI_clamp (show t < 2 ^ 31 by omega)]
      rw [sp_pl] at hih
      -- the step
      have hnx : (if nI m ≤ nI (if m = 0 then 0 else t % m) + 1 then (0 : Int32) else nI (if m = 0 then 0 else t % m) + 1) = nI (if m = 0 then 0 else (t + 1) % m) := by
        rw [nI_1]
        by_cases m0 : m = 0
        · subst m0; rw [if_pos rfl, if_pos rfl, if_pos (by decide)]; rfl
        · rw [if_neg m0, if_neg m0, nx_mod1 (by omega)]
          have := hmt m0
          generalize t % m = r at this ⊢
          by_cases q2 : m ≤ r + 1
          · rw [if_pos (nI_le q2 (by omega)), if_pos q2]; rfl
          · rw [if_neg (nI_ge (by omega) (by omega)), if_neg q2]
      rw [hnx, nI_1 t]
      cases q1 : sp_pl n w kd gi st m bs t with
      | none =>
        rw [q1] at hih
        rw [if_pos (show sp_hb n (sp_for kd gi) none = false from rfl)]
        by_cases m0 : m = 0
        · subst m0
          rw [if_pos (show nI 0 ≤ nI (if (0 : Nat) = 0 then 0 else t % 0) from by rw [if_pos rfl]; decide)]
          exact hih
        · have := hmt m0
          rw [if_neg m0] at hih ⊢
          rw [if_neg m0, if_neg (nI_ge (by omega) (by omega)), if_pos ((zl_in (by omega)).mpr (by omega)), sp_iN, q0_stepFromN F]
          exact hih
      | some c =>
        obtain ⟨hc, hfor⟩ := hok c q1
        rw [q1] at hih
        rw [if_neg (by rw [sp_hbS]; simp [hc, hfor]), sp_iS, if_pos ((zl_in (by omega)).mpr (by omega)), nI_clamp (by omega), (hG c hc).2.1]
        by_cases m0 : m = 0
        · subst m0
          rw [if_pos (show nI 0 ≤ nI (if (0 : Nat) = 0 then 0 else t % 0) from by rw [if_pos rfl]; decide)]
          exact hih
        · have hr := hmt m0
          obtain ⟨b1, b2⟩ := hB (t % m) hr
          rw [sp_nx, if_neg m0] at hih
          rw [if_neg m0] at hih ⊢
          rw [if_neg m0, if_neg (nI_ge (by omega) (by omega)), if_pos ((zl_in (by omega)).mpr (by omega)), nI_clamp (by omega), b1, q0_stepFrom F hn hc b2, (hG c hc).2.2 _ (by omega)]
          exact hih
theorem q2_walk (F : Nat) {n w gi s st m : Nat} {kd sa nx hd pl0 : Nat → Int32} {gv vw0 : Nat → Int64} {bs : Nat → Nat} (h : sp_W n w kd) (hB : sp_B m sa bs) (hG : sp_G n w kd gi s nx gv hd n) (hst : st ≤ 35) (hF : 100 ≤ F) : ∃ (pl : Nat → Int32) (vw : Nat → Int64), pX2_walk F (nI st) pl0 vw0 (nI n) nx gv hd (nI m) sa = some (pl, vw) ∧ sp_N n w kd s (sp_pl n w kd gi st m bs) pl vw 96 := by
  have hn := h.1
  unfold pX2_walk
  have e0 := q0_holds (nx := nx) (vw := gv) F hn (fun c hc => (hG c hc).1) (some st) (fun c e => by cases e; omega)
  rw [sp_iS] at e0
  rw [e0]
  simp only [zz_b1, zz_lt, zb0', sp_hbS]
  have e1 : (if (decide (st < n) && sp_for kd gi st) = false then (-1 : Int32) else nI st) = sp_i (sp_pl n w kd gi st m bs 0) := by
    rw [sp_pl, sp_st]
    cases decide (st < n) && sp_for kd gi st <;> rfl
  rw [e1]
  have e2 := q2_walkL F h hB hG (st := st) F 0 pl0 vw0 (by omega) (by omega) (fun t ht => by omega)
  have e3 : (if m = 0 then 0 else 0 % m) = 0 := by split <;> simp
  rw [e3] at e2
  exact e2
