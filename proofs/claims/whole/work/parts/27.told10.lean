theorem rd_sm {T U : zz_M} (h : sm T U) (i0 : zz_gI U 0 = zz_gI T 0) (i2 : zz_gI U 2 = zz_gI T 2) (i3 : zz_gI U 3 = zz_gI T 3) (i4 : zz_gI U 4 = zz_gI T 4) (a2 : zz_gA U 2 = zz_gA T 2) (a3 : zz_gA U 3 = zz_gA T 3) (a4 : zz_gA U 4 = zz_gA T 4) (a5 : zz_gA U 5 = zz_gA T 5) (k : rd10 T) : rd10 U := by
  unfold rd10 at k ⊢
  rw [sm_N h, sm_W h, sm_K h, sm_M h, sm_B h, sm_T h, sm_Wt h, sm_Nd h, i0, i2, i3, i4, a2, a3, a4, a5]
  exact k
theorem q10_atL2 {S : zz_M} {fo : Nat} (g8 : zz_gI S 8 = nI fo) (hfo : fo ≤ 1) : ∀ (f k t : Nat) (z : Nat → Int32), t + k = 96 → k < f → (∀ j, j < t → z j = zb (decide (fo = 1))) →
    ∃ z', pX10_asTold_L42_8 f (nI t) (zz_sA S 7 z) = some (zz_sA S 7 z') ∧ ∀ j, j < 96 → z' j = zb (decide (fo = 1)) := by
  intro f
  induction f with
  | zero => intro k t z _ h; omega
  | succ f ih =>
    intro k t z hk hf hz
    rw [pX10_asTold_L42_8]
    simp only [zz_lt]
    rw [show zz_gI (zz_sA S 7 z) 8 = nI fo from g8]
    simp (disch := omega) only [zl_lit, nI_leI, nI_eq, nI_add, zl_in, nI_clamp]
    cases k with
    | zero => rw [if_pos (by omega)]; exact ⟨z, rfl, fun j hj => hz j (by omega)⟩
    | succ k =>
      rw [if_neg (by omega), if_pos (by omega), zs_AA]
      have e : vp_nar .boolean (if fo = 1 then nI 1 else nI 0) = zb (decide (fo = 1)) := by
        rcases (show fo = 0 ∨ fo = 1 by omega) with rfl | rfl <;> rfl
      rw [e]
      refine ih k (t + 1) _ (by omega) (by omega) (fun j hj => ?_)
      show upd (zz_gA (zz_sA S 7 z) 7) t _ j = _
      rw [show zz_gA (zz_sA S 7 z) 7 = z from by rw [zg_AA, if_pos rfl]]
      by_cases q : j = t
      · subst q; rw [pk_us]
      · rw [pk_un q]; exact hz j (by omega)
theorem q10_atL1 (F : Nat) {S : zz_M} {fo m : Nat} {bs : Nat → Nat} (g8 : zz_gI S 8 = nI fo) (hfo : fo ≤ 1) (g3 : zz_gI S 3 = nI m) (hB : sp_B m (zz_gA S 3) bs) (hF : 100 ≤ F) : ∀ (f k i : Nat) (z : Nat → Int32), i + k = m → k < f → (∀ j, j < i → z j = nI (bs j)) →
    ∃ z' z2, pX10_asTold_L14_5 F f (nI i) (zz_sA S 6 z) = some (zz_sA (zz_sA S 6 z') 7 z2) ∧ sp_B m z' bs ∧ ∀ j, j < 96 → z2 j = zb (decide (fo = 1)) := by
  intro f
  have hm := hB.1
  induction f with
  | zero => intro k i z _ h; omega
  | succ f ih =>
    intro k i z hk hf hz
    rw [pX10_asTold_L14_5]
    simp only [zz_lt]
    rw [show zz_gI (zz_sA S 6 z) 3 = nI m from g3]
    simp (disch := omega) only [zl_lit, nI_leI, nI_eq, nI_add, zl_in, nI_clamp]
    cases k with
    | zero =>
      rw [if_pos (by omega)]
      obtain ⟨z2, e1, e2⟩ := q10_atL2 (S := zz_sA S 6 z) g8 hfo F 96 0 (zz_gA S 7) (by omega) (by omega) (fun j hj => by omega)
      have e3 : zz_sA (zz_sA S 6 z) 7 (zz_gA S 7) = zz_sA S 6 z := by
        have : zz_gA S 7 = zz_gA (zz_sA S 6 z) 7 := rfl
        rw [this]; unfold zz_sA zz_gA; rw [zs_upS]
      rw [e3] at e1
      exact ⟨z, z2, e1, ⟨hm, fun j hj => ⟨hz j (by omega), (hB.2 j hj).2⟩⟩, e2⟩
    | succ k =>
      rw [if_neg (by omega), if_pos (by omega), if_pos (by omega), zs_AA]
      refine ih k (i + 1) _ (by omega) (by omega) (fun j hj => ?_)
      rw [show zz_gA (zz_sA S 6 z) 6 = z from by rw [zg_AA, if_pos rfl], show zz_gA (zz_sA S 6 z) 3 = zz_gA S 3 from rfl]
      by_cases q : j = i
      · subst q; rw [pk_us]; exact (hB.2 j (by omega)).1
      · rw [pk_un q]; exact hz j (by omega)
/-- the beat and the fog that a walk goes by -/
def go10 (T : zz_M) (m : Nat) (bs : Nat → Nat) (fg : Nat → Bool) : Prop := rd10 T ∧ zz_gI T 9 = nI m ∧ sp_B m (zz_gA T 6) bs ∧ ∀ t, t < 96 → zz_gA T 7 t = zb (fg t)
theorem q10_asTold (F : Nat) {S : zz_M} (h : ok10 S) (hF : 100 ≤ F) : ∃ T, pX10_asTold F S = some T ∧ sm S T ∧ go10 T (cM S) (cB S) (fun _ => decide (cFo S = 1)) := by
  obtain ⟨T, e1, e2, e3⟩ := q10_reads F h hF
  unfold pX10_asTold
  rw [e1]
  simp only [zz_b1, zz_lt]
  have hT := sm_ok e2 h
  have e3' := e3
  obtain ⟨-, -, -, g3, gB, -⟩ := e3'
  obtain ⟨-, -, -, -, -, g8⟩ := hT
  rw [sm_Fo e2] at g8
  rw [sm_M e2, sm_B e2] at gB
  rw [sm_M e2] at g3
  rw [g3]
  have hm := gB.1
  obtain ⟨z', z2, r1, r2, r3⟩ := q10_atL1 F (S := zz_sI T 9 (nI (cM S))) g8.1 g8.2 g3 gB hF F (cM S) 0 (zz_gA T 6) (by omega) (by omega) (fun j hj => by omega)
  have e4 : zz_sA (zz_sI T 9 (nI (cM S))) 6 (zz_gA T 6) = zz_sI T 9 (nI (cM S)) := by
    have : zz_gA T 6 = zz_gA (zz_sI T 9 (nI (cM S))) 6 := rfl
    rw [this]; unfold zz_sA zz_gA; rw [zs_upS]
  rw [e4] at r1
  have s1 : sm T (zz_sA (zz_sA (zz_sI T 9 (nI (cM S))) 6 z') 7 z2) := sm_sA (sm_sA (sm_sI (sm_rfl T) (by decide)) (by decide)) (by decide)
  exact ⟨_, r1, sm_tr e2 s1, rd_sm s1 rfl rfl rfl rfl rfl rfl rfl rfl e3, rfl, r2, r3⟩
/-- a night walked: where the constable is, what it sees -/
def wk10 (T : zz_M) (m : Nat) (bs : Nat → Nat) (fg : Nat → Bool) : Prop := go10 T m bs fg ∧ (∀ t, t ≤ 96 → zz_gA T 8 t = sp_i (sp_pl (cN T) (cW T) (cK T) (cGi T) (cSt T) m bs t)) ∧ sp_LH (zz_gA T 9) (zz_gA T 10) (sp_vm (cN T) (cW T) (cK T) (cSi T) fg (sp_pl (cN T) (cW T) (cK T) (cGi T) (cSt T) m bs))
