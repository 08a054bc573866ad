/-! numbers: literals as nI, lN; indices; -1 -/
theorem zl_lit (n : Nat) : (@OfNat.ofNat Int32 n _) = nI (@OfNat.ofNat Nat n _) := Eq.trans rfl rfl
theorem zl_litL (n : Nat) : (@OfNat.ofNat Int64 n _) = lN (@OfNat.ofNat Nat n _) := Eq.trans rfl rfl
theorem zl_in {k N : Nat} (hk : k < 2 ^ 31) : zz_in (nI k) N ↔ k < N := by
  show ¬ (nI k < 0 ∨ N ≤ (nI k).toNatClampNeg) ↔ k < N
  rw [nI_clamp hk]
  constructor
  · intro h; exact Nat.not_le.mp (fun q => h (Or.inr q))
  · intro h q
    rcases q with q | q
    · exact nI_pos hk q
    · omega
theorem zl_T {k : Nat} (hk : k < 2 ^ 31) : (nI k).toInt = (k : Int) := nI_toInt hk
theorem zl_m1T : (-nI 1).toInt = -1 := by decide
theorem zl_m1a {k : Nat} (hk : k < 2 ^ 31) : (nI k = -nI 1) ↔ False := by
  rw [fa_eq, zl_T hk, zl_m1T]; constructor <;> intro h <;> first | omega | exact h.elim
theorem zl_m1b {k : Nat} (hk : k < 2 ^ 31) : (-nI 1 = nI k) ↔ False := by
  rw [fa_eq, zl_T hk, zl_m1T]; constructor <;> intro h <;> first | omega | exact h.elim
theorem zl_m1c {k : Nat} (hk : k < 2 ^ 31) : (nI k < -nI 1) ↔ False := by
  rw [fa_lt, zl_T hk, zl_m1T]; constructor <;> intro h <;> first | omega | exact h.elim
theorem zl_m1d {k : Nat} (hk : k < 2 ^ 31) : (nI k ≤ -nI 1) ↔ False := by
  rw [fa_le, zl_T hk, zl_m1T]; constructor <;> intro h <;> first | omega | exact h.elim
theorem zl_m1e {k : Nat} (hk : k < 2 ^ 31) : (-nI 1 < nI k) ↔ True := by
  rw [fa_lt, zl_T hk, zl_m1T]; constructor <;> intro h <;> first | omega | trivial
theorem zl_m1f {k : Nat} (hk : k < 2 ^ 31) : (-nI 1 ≤ nI k) ↔ True := by
  rw [fa_le, zl_T hk, zl_m1T]; constructor <;> intro h <;> first | omega | trivial
theorem zl_rem {a d : Nat} (ha : a < 2 ^ 31) (h0 : 0 < d) (hd : d < 2 ^ 31) : nI a - nI a / nI d * nI d = nI (a % d) := pk_rem ha h0 hd
/-! truth values -/
def zb (b : Bool) : Int32 := bif b then 1 else 0
theorem zb0 (b : Bool) : (zb b = nI 0) ↔ b = false := by cases b <;> decide
theorem zb0' (b : Bool) : (zb b = 0) ↔ b = false := by cases b <;> decide
theorem zb1 (b : Bool) : zb b &&& 1 = zb b := by cases b <;> decide
theorem zb1' (b : Bool) : zb b &&& nI 1 = zb b := by cases b <;> decide
theorem zb_n (b : Bool) : vp_nar .boolean (zb b) = zb b := by cases b <;> decide
theorem zb_t : nI 1 = zb true := rfl
theorem zb_f : nI 0 = zb false := rfl
theorem zb_ite {c : Prop} [Decidable c] : (if c then nI 1 else nI 0) = zb (decide c) := by
  by_cases h : c <;> simp [h, zb, nI] <;> rfl
/-! cells and places: a number or none -/
def sp_i : Option Nat → Int32
  | none => -nI 1
  | some c => nI c
theorem sp_iN : sp_i none = -nI 1 := Eq.trans rfl rfl
theorem sp_iS (c : Nat) : sp_i (some c) = nI c := Eq.trans rfl rfl
/-! memory -/
theorem zg_II (S : zz_M) (j k : Nat) (v : Int32) : zz_gI (zz_sI S k v) j = if j = k then v else zz_gI S j := by
  show (bif Nat.beq j k then v else zz_gI S j) = _
  by_cases h : j = k
  · subst h; simp
  · rw [if_neg h]; have : Nat.beq j k = false := by rw [← Bool.not_eq_true]; exact fun e => h (Nat.eq_of_beq_eq_true e)
    rw [this]; rfl
theorem zg_AA (S : zz_M) (j k : Nat) (f : Nat → Int32) : zz_gA (zz_sA S k f) j = if j = k then f else zz_gA S j := by
  show (bif Nat.beq j k then f else zz_gA S j) = _
  by_cases h : j = k
  · subst h; simp
  · rw [if_neg h]; have : Nat.beq j k = false := by rw [← Bool.not_eq_true]; exact fun e => h (Nat.eq_of_beq_eq_true e)
    rw [this]; rfl
theorem zg_LL (S : zz_M) (j k : Nat) (f : Nat → Int64) : zz_gL (zz_sL S k f) j = if j = k then f else zz_gL S j := by
  show (bif Nat.beq j k then f else zz_gL S j) = _
  by_cases h : j = k
  · subst h; simp
  · rw [if_neg h]; have : Nat.beq j k = false := by rw [← Bool.not_eq_true]; exact fun e => h (Nat.eq_of_beq_eq_true e)
    rw [this]; rfl
theorem zg_IA (S : zz_M) (j k : Nat) (f : Nat → Int32) : zz_gI (zz_sA S k f) j = zz_gI S j := rfl
theorem zg_IL (S : zz_M) (j k : Nat) (f : Nat → Int64) : zz_gI (zz_sL S k f) j = zz_gI S j := rfl
theorem zg_AI (S : zz_M) (j k : Nat) (v : Int32) : zz_gA (zz_sI S k v) j = zz_gA S j := rfl
theorem zg_AL (S : zz_M) (j k : Nat) (f : Nat → Int64) : zz_gA (zz_sL S k f) j = zz_gA S j := rfl
theorem zg_LI (S : zz_M) (j k : Nat) (v : Int32) : zz_gL (zz_sI S k v) j = zz_gL S j := rfl
theorem zg_LA (S : zz_M) (j k : Nat) (f : Nat → Int32) : zz_gL (zz_sA S k f) j = zz_gL S j := rfl
