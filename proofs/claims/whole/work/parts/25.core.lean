/-! the reference's own state: what lasts, and what is worked out of it -/
def tL (S : zz_M) (k : Nat) : Nat := Int32.toNatClampNeg (zz_gA S 0 k)
def tB (S : zz_M) (k : Nat) : Nat → Int32 := fun j => if j < 41 then zz_gA S 1 (41 * k + j) else 0
theorem tB_in {S : zz_M} {k j : Nat} (h : j < 41) : zz_gA S 1 (41 * k + j) = tB S k j := (if_pos h).symm
def cN (S : zz_M) : Nat := sp_wn (tB S 0) (tL S 0)
def cW (S : zz_M) : Nat := sp_ww (tB S 0) (tL S 0)
def cK (S : zz_M) : Nat → Int32 := sp_wk (tB S 0) (tL S 0)
def cM (S : zz_M) : Nat := sp_bm (tB S 1) (tL S 1)
def cB (S : zz_M) : Nat → Nat := sp_bs (tB S 1)
def cT (S : zz_M) : Nat := sp_tm (tB S 2) (tL S 2)
def cWt (S : zz_M) : Nat → Nat := sp_wt (tB S 2)
def cNd (S : zz_M) : Nat → Nat := sp_nd (tB S 2)
def cF (S : zz_M) (k : Nat) : Option Nat := if k = 0 then (sp_ward (tB S 0) (tL S 0)).1 else if k = 1 then sp_bfl (tB S 1) (tL S 1) else sp_tfl (tB S 2) (tL S 2)
def cSt (S : zz_M) : Nat := Int32.toNatClampNeg (zz_gI S 5)
def cGi (S : zz_M) : Nat := Int32.toNatClampNeg (zz_gI S 6)
def cSi (S : zz_M) : Nat := Int32.toNatClampNeg (zz_gI S 7)
def cFo (S : zz_M) : Nat := Int32.toNatClampNeg (zz_gI S 8)
def cLim (k : Nat) : Nat := if k = 0 then 41 else if k = 1 then 24 else 31
/-- texts and settings as they may be -/
def ok10 (S : zz_M) : Prop := (∀ k, k < 3 → zz_gA S 0 k = nI (tL S k) ∧ tL S k ≤ cLim k) ∧ (∀ k j, k < 3 → j < tL S k → 0 ≤ (tB S k j).toInt ∧ (tB S k j).toInt ≤ 255) ∧ (zz_gI S 5 = nI (cSt S) ∧ cSt S ≤ 35) ∧ (zz_gI S 6 = nI (cGi S) ∧ cGi S ≤ 9) ∧ (zz_gI S 7 = nI (cSi S) ∧ cSi S ≤ 9) ∧ (zz_gI S 8 = nI (cFo S) ∧ cFo S ≤ 1)
/-- the same in all that lasts -/
def sm (S T : zz_M) : Prop := (∀ j, j ≠ 2 → j ≠ 3 → j ≠ 4 → j ≠ 5 → j ≠ 6 → j ≠ 7 → j ≠ 8 → j ≠ 9 → j ≠ 10 → j ≠ 11 → zz_gA T j = zz_gA S j) ∧ (∀ j, j ≠ 0 → j ≠ 1 → j ≠ 2 → j ≠ 3 → j ≠ 4 → j ≠ 9 → j ≠ 10 → j ≠ 11 → zz_gI T j = zz_gI S j)
theorem sm_rfl (S : zz_M) : sm S S := ⟨fun _ _ _ _ _ _ _ _ _ _ _ => rfl, fun _ _ _ _ _ _ _ _ _ => rfl⟩
theorem sm_tr {S T U : zz_M} (h : sm S T) (k : sm T U) : sm S U :=
  ⟨fun j a b c d e f g h1 i j1 => (k.1 j a b c d e f g h1 i j1).trans (h.1 j a b c d e f g h1 i j1), fun j a b c d e f g h1 => (k.2 j a b c d e f g h1).trans (h.2 j a b c d e f g h1)⟩
theorem sm_A0 {S T : zz_M} (h : sm S T) : zz_gA T 0 = zz_gA S 0 := h.1 0 (by decide) (by decide) (by decide) (by decide) (by decide) (by decide) (by decide) (by decide) (by decide) (by decide)
theorem sm_A1 {S T : zz_M} (h : sm S T) : zz_gA T 1 = zz_gA S 1 := h.1 1 (by decide) (by decide) (by decide) (by decide) (by decide) (by decide) (by decide) (by decide) (by decide) (by decide)
theorem sm_I5 {S T : zz_M} (h : sm S T) : zz_gI T 5 = zz_gI S 5 := h.2 5 (by decide) (by decide) (by decide) (by decide) (by decide) (by decide) (by decide) (by decide)
theorem sm_I6 {S T : zz_M} (h : sm S T) : zz_gI T 6 = zz_gI S 6 := h.2 6 (by decide) (by decide) (by decide) (by decide) (by decide) (by decide) (by decide) (by decide)
theorem sm_I7 {S T : zz_M} (h : sm S T) : zz_gI T 7 = zz_gI S 7 := h.2 7 (by decide) (by decide) (by decide) (by decide) (by decide) (by decide) (by decide) (by decide)
theorem sm_I8 {S T : zz_M} (h : sm S T) : zz_gI T 8 = zz_gI S 8 := h.2 8 (by decide) (by decide) (by decide) (by decide) (by decide) (by decide) (by decide) (by decide)
theorem sm_tL {S T : zz_M} (h : sm S T) : tL T = tL S := by funext k; unfold tL; rw [sm_A0 h]
theorem sm_tB {S T : zz_M} (h : sm S T) : tB T = tB S := by funext k j; unfold tB; rw [sm_A1 h]
theorem sm_N {S T : zz_M} (h : sm S T) : cN T = cN S := by unfold cN; rw [sm_tL h, sm_tB h]
theorem sm_W {S T : zz_M} (h : sm S T) : cW T = cW S := by unfold cW; rw [sm_tL h, sm_tB h]
theorem sm_K {S T : zz_M} (h : sm S T) : cK T = cK S := by unfold cK; rw [sm_tL h, sm_tB h]
theorem sm_M {S T : zz_M} (h : sm S T) : cM T = cM S := by unfold cM; rw [sm_tL h, sm_tB h]
theorem sm_B {S T : zz_M} (h : sm S T) : cB T = cB S := by unfold cB; rw [sm_tB h]
theorem sm_T {S T : zz_M} (h : sm S T) : cT T = cT S := by unfold cT; rw [sm_tL h, sm_tB h]
theorem sm_Wt {S T : zz_M} (h : sm S T) : cWt T = cWt S := by unfold cWt; rw [sm_tB h]
theorem sm_Nd {S T : zz_M} (h : sm S T) : cNd T = cNd S := by unfold cNd; rw [sm_tB h]
theorem sm_F {S T : zz_M} (h : sm S T) : cF T = cF S := by funext k; unfold cF; rw [sm_tL h, sm_tB h]
theorem sm_St {S T : zz_M} (h : sm S T) : cSt T = cSt S := by unfold cSt; rw [sm_I5 h]
theorem sm_Gi {S T : zz_M} (h : sm S T) : cGi T = cGi S := by unfold cGi; rw [sm_I6 h]
theorem sm_Si {S T : zz_M} (h : sm S T) : cSi T = cSi S := by unfold cSi; rw [sm_I7 h]
theorem sm_Fo {S T : zz_M} (h : sm S T) : cFo T = cFo S := by unfold cFo; rw [sm_I8 h]
theorem sm_ok {S T : zz_M} (h : sm S T) (k : ok10 S) : ok10 T := by
  unfold ok10 at k ⊢
  rw [sm_tL h, sm_tB h, sm_St h, sm_Gi h, sm_Si h, sm_Fo h, sm_A0 h, sm_I5 h, sm_I6 h, sm_I7 h, sm_I8 h]
  exact k
theorem sm_sI {S T : zz_M} {k : Nat} {x : Int32} (h : sm S T) (hk : k ≤ 4 ∨ 9 ≤ k ∧ k ≤ 11) : sm S (zz_sI T k x) :=
  ⟨h.1, fun j a b c d e f g i => by rw [zg_II, if_neg (by omega)]; exact h.2 j a b c d e f g i⟩
theorem sm_sA {S T : zz_M} {k : Nat} {x : Nat → Int32} (h : sm S T) (hk : 2 ≤ k ∧ k ≤ 11) : sm S (zz_sA T k x) :=
  ⟨fun j a b c d e f g i l m => by rw [zg_AA, if_neg (by omega)]; exact h.1 j a b c d e f g i l m, h.2⟩
/-- what stands in the state once the texts are read -/
def rd10 (T : zz_M) : Prop := (∃ w, sp_W (cN T) w (zz_gA T 2) ∧ zz_gI T 0 = nI w ∧ (0 < cN T → w = cW T)) ∧ zz_gI T 2 = nI (cN T) ∧ (∀ j, j < cN T → zz_gA T 2 j = cK T j) ∧ zz_gI T 3 = nI (cM T) ∧ sp_B (cM T) (zz_gA T 3) (cB T) ∧ zz_gI T 4 = nI (cT T) ∧ sp_T (cT T) (zz_gA T 4) (zz_gA T 5) (cWt T) (cNd T)
