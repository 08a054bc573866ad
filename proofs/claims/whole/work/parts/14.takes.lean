/-! who takes: a run of numbers of steps at which a cell isn't seen -/
def sp_end (sn : Nat → Bool) (need : Nat) : Nat → Nat → Nat → Option Nat
  | 0, _, _ => none
  | k + 1, t, r => if need ≤ (if sn t then 0 else r + 1) then some t else sp_end sn need k (t + 1) (if sn t then 0 else r + 1)
def sp_tk (sn : Nat → Bool) (need : Nat) : Option Nat := sp_end sn need 96 0 0
theorem sp_end_lt {sn : Nat → Bool} {need : Nat} : ∀ (k t r x : Nat), sp_end sn need k t r = some x → x < t + k
  | 0, _, _, _, h => by cases h
  | k + 1, t, r, x, h => by
    rw [sp_end] at h
    generalize (if sn t then 0 else r + 1) = r' at h
    split at h
    · cases h; omega
    · have := sp_end_lt k (t + 1) _ x h; omega
def sp_V (vw : Nat → Int64) (vm : Nat → Nat) : Prop := ∀ t, t < 96 → vw t = lN (vm t)
theorem q2_seen {vw : Nat → Int64} {vm : Nat → Nat} (hv : sp_V vw vm) {t c : Nat} (ht : t < 96) (hc : c < 63) : (lg_cmp (vw t &&& lN (2 ^ c)) (lN 0) = nI 0) ↔ (vm t).testBit c = false := by
  rw [show nI 0 = 0 from rfl, lg_cmp_eq, hv t ht, show lN 0 = 0 from rfl, fb_bitL hc]
theorem q2_eouL {vw : Nat → Int64} {vm : Nat → Nat} (hv : sp_V vw vm) {c need : Nat} (hc : c < 63) (hn : need ≤ 9) : ∀ (f k t r : Nat), t + k = 96 → k < f → r ≤ t → pX2_endOfUnseen_L10_3 (nI need) vw (lN (2 ^ c)) f (nI r) (nI t) = some (sp_i (sp_end (fun t => (vm t).testBit c) need k t r)) := by
  intro f
  induction f with
  | zero => intro k t r _ h; omega
  | succ f ih =>
    intro k t r hk hf hr
    rw [pX2_endOfUnseen_L10_3]
    cases k with
    | zero =>
      simp (disch := omega) only [zl_lit, nI_leI]
      rw [if_pos (by omega), sp_end]; rfl
    | succ k =>
      simp only [zz_lt]
      simp (disch := omega) only [zl_lit, zl_litL, nI_leI, zl_in, nI_clamp, nI_add]
      rw [if_neg (by omega), if_pos (by omega), sp_end]
      have e : (if lg_cmp (vw t &&& lN (2 ^ c)) (lN 0) = nI 0 then nI (r + 1) else nI 0) = nI (if (vm t).testBit c then 0 else r + 1) := by
        cases q : (vm t).testBit c
        · rw [if_pos ((q2_seen hv (by omega) hc).mpr q)]; rfl
        · rw [if_neg (by rw [q2_seen hv (by omega) hc, q]; decide)]; rfl
      rw [e]
      generalize hr' : (if (vm t).testBit c then 0 else r + 1) = r'
      have hr2 : r' ≤ t + 1 := by rw [← hr']; split <;> omega
      simp (disch := omega) only [nI_ltI]
      by_cases q : r' < need
      · rw [if_pos q, if_neg (by omega)]
        exact ih k (t + 1) r' (by omega) (by omega) hr2
      · rw [if_neg q, if_pos (by omega)]; rfl
theorem q2_endOfUnseen (F : Nat) {vw : Nat → Int64} {pl : Nat → Int32} {vm : Nat → Nat} (hv : sp_V vw vm) {c need : Nat} (hc : c < 63) (hn : need ≤ 9) (hF : 100 ≤ F) : pX2_endOfUnseen F (nI c) (nI need) pl vw = some (sp_i (sp_tk (fun t => (vm t).testBit c) need)) := by
  unfold pX2_endOfUnseen
  simp only [zz_lt]
  rw [show (1 : Int64) = lN 1 from rfl, zl_shl1 (by omega)]
  exact q2_eouL hv hc hn F 96 0 0 rfl (by omega) (by omega)
theorem q2_msL {vw : Nat → Int64} {vm : Nat → Nat} (hv : sp_V vw vm) {c : Nat} (hc : c < 63) : ∀ (f k t : Nat), t + k = 96 → k < f → pX2_momentsSeen_L10_3 vw (lN (2 ^ c)) f (nI (fa_cnt (fun t => (vm t).testBit c) t)) (nI t) = some (nI (fa_cnt (fun t => (vm t).testBit c) 96)) := by
  intro f
  induction f with
  | zero => intro k t _ h; omega
  | succ f ih =>
    intro k t hk hf
    rw [pX2_momentsSeen_L10_3]
    simp only [zz_lt]
    simp (disch := omega) only [zl_lit, zl_litL, nI_leI, zl_in, nI_clamp, nI_add]
    by_cases q : 96 ≤ t
    · rw [if_pos q, show t = 96 by omega]
    · rw [if_neg q, if_pos (by omega)]
      have h1 := ih (k - 1) (t + 1) (by omega) (by omega)
      rw [fa_cnt] at h1
      cases q2 : (vm t).testBit c
      · rw [if_pos ((q2_seen hv (by omega) hc).mpr q2)]
        rw [q2] at h1; exact h1
      · rw [if_neg (by rw [q2_seen hv (by omega) hc, q2]; decide)]
        rw [q2] at h1; exact h1
theorem q2_momentsSeen (F : Nat) {vw : Nat → Int64} {pl : Nat → Int32} {vm : Nat → Nat} (hv : sp_V vw vm) {c : Nat} (hc : c < 63) (hF : 100 ≤ F) : pX2_momentsSeen F (nI c) pl vw = some (nI (fa_cnt (fun t => (vm t).testBit c) 96)) := by
  unfold pX2_momentsSeen
  simp only [zz_lt]
  rw [show (1 : Int64) = lN 1 from rfl, zl_shl1 (by omega)]
  exact q2_msL hv hc F 96 0 rfl (by omega)
/-- the longest run: its greatest so far, the run now -/
def sp_run (sn : Nat → Bool) : Nat → Nat
  | 0 => 0
  | t + 1 => if sn t then 0 else sp_run sn t + 1
def sp_lng (sn : Nat → Bool) : Nat → Nat
  | 0 => 0
  | t + 1 => if sp_lng sn t < sp_run sn (t + 1) then sp_run sn (t + 1) else sp_lng sn t
theorem sp_run_le (sn : Nat → Bool) : ∀ t, sp_run sn t ≤ t
  | 0 => Nat.le_refl 0
  | t + 1 => by have := sp_run_le sn t; rw [sp_run]; split <;> omega
theorem sp_lng_le (sn : Nat → Bool) : ∀ t, sp_lng sn t ≤ t
  | 0 => Nat.le_refl 0
  | t + 1 => by have := sp_lng_le sn t; have := sp_run_le sn (t + 1); rw [sp_lng]; split <;> omega
theorem q2_luL {vw : Nat → Int64} {vm : Nat → Nat} (hv : sp_V vw vm) {c : Nat} (hc : c < 63) : ∀ (f k t : Nat), t + k = 96 → k < f → pX2_longestUnseen_L13_4 vw (lN (2 ^ c)) f (nI (sp_lng (fun t => (vm t).testBit c) t)) (nI (sp_run (fun t => (vm t).testBit c) t)) (nI t) = some (nI (sp_lng (fun t => (vm t).testBit c) 96)) := by
  intro f
  induction f with
  | zero => intro k t _ h; omega
  | succ f ih =>
    intro k t hk hf
    rw [pX2_longestUnseen_L13_4]
    simp only [zz_lt]
    have l1 := sp_run_le (fun t => (vm t).testBit c) t
    have l2 := sp_lng_le (fun t => (vm t).testBit c) t
    simp (disch := omega) only [zl_lit, zl_litL, nI_leI, zl_in, nI_clamp, nI_add]
    by_cases q : 96 ≤ t
    · rw [if_pos q, show t = 96 by omega]
    · rw [if_neg q, if_pos (by omega)]
      have e : (if lg_cmp (vw t &&& lN (2 ^ c)) (lN 0) = nI 0 then nI (sp_run (fun t => (vm t).testBit c) t + 1) else nI 0) = nI (sp_run (fun t => (vm t).testBit c) (t + 1)) := by
        rw [sp_run]
        cases q2 : (vm t).testBit c
        · rw [if_pos ((q2_seen hv (by omega) hc).mpr q2)]; rfl
        · rw [if_neg (by rw [q2_seen hv (by omega) hc, q2]; decide)]; rfl
      rw [e]
      have l3 := sp_run_le (fun t => (vm t).testBit c) (t + 1)
      have h1 := ih (k - 1) (t + 1) (by omega) (by omega)
      rw [sp_lng] at h1
      simp (disch := omega) only [nI_ltI]
      rw [← apply_ite nI]
      exact h1
theorem q2_longestUnseen (F : Nat) {vw : Nat → Int64} {pl : Nat → Int32} {vm : Nat → Nat} (hv : sp_V vw vm) {c : Nat} (hc : c < 63) (hF : 100 ≤ F) : pX2_longestUnseen F (nI c) pl vw = some (nI (sp_lng (fun t => (vm t).testBit c) 96)) := by
  unfold pX2_longestUnseen
  simp only [zz_lt]
  rw [show (1 : Int64) = lN 1 from rfl, zl_shl1 (by omega)]
  exact q2_luL hv hc F 96 0 rfl (by omega)
