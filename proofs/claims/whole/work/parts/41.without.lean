/-! a beat with one or two of its steps left out -/
def sp_sk (u v : Int32) (i : Nat) : Bool := decide (nI i = u) || decide (nI i = v)
def sp_wo (bs : Nat → Nat) (sk : Nat → Bool) : Nat → Nat × (Nat → Nat)
  | 0 => (0, fun _ => 0)
  | i + 1 => if sk i then sp_wo bs sk i else ((sp_wo bs sk i).1 + 1, sp_pt (sp_wo bs sk i).2 (sp_wo bs sk i).1 (bs i))
theorem sp_wo_le (bs : Nat → Nat) (sk : Nat → Bool) : ∀ i, (sp_wo bs sk i).1 ≤ i
  | 0 => Nat.le_refl 0
  | i + 1 => by
    have := sp_wo_le bs sk i
    rw [sp_wo]; split
    · omega
    · simp only; omega
theorem sp_wo_B {bs : Nat → Nat} {sk : Nat → Bool} (h : ∀ i, bs i ≤ 4) : ∀ i j, (sp_wo bs sk i).2 j ≤ 4
  | 0, j => by rw [sp_wo]; simp
  | i + 1, j => by
    rw [sp_wo]; split
    · exact sp_wo_B h i j
    · show sp_pt _ _ _ j ≤ 4
      unfold sp_pt; split
      · exact h i
      · exact sp_wo_B h i j
theorem q4_taL (F : Nat) {m : Nat} {sa : Nat → Int32} {bs : Nat → Nat} (u v : Int32) (hB : sp_B m sa bs) : ∀ (f k i : Nat) (z : Nat → Int32), i + k = m → k < f → (∀ j, j < (sp_wo bs (sp_sk u v) i).1 → z j = nI ((sp_wo bs (sp_sk u v) i).2 j)) →
    ∃ z', pX4_takeAllBut_L8_4 u v F (nI m) sa f (nI i) (nI (sp_wo bs (sp_sk u v) i).1) z = some (nI (sp_wo bs (sp_sk u v) m).1, z') ∧ ∀ j, j < (sp_wo bs (sp_sk u v) m).1 → z' j = nI ((sp_wo bs (sp_sk u v) m).2 j) := by
  intro f
  have hm := hB.1
  induction f with
  | zero => intro k i z _ h; omega
  | succ f ih =>
    intro k i z hk hf hz
    have hw := sp_wo_le bs (sp_sk u v) i
    rw [pX4_takeAllBut_L8_4]
    simp (disch := omega) only [zl_lit, zz_lt, nI_leI, nI_add, zl_in, nI_clamp]
    cases k with
    | zero =>
      have e : i = m := by omega
      subst e
      rw [if_pos (by omega)]; exact ⟨z, rfl, hz⟩
    | succ k =>
      rw [if_neg (by omega)]
      simp only [if_pos (show i < 24 by omega)]
      rw [(hB.2 i (by omega)).1]
      by_cases q : sp_sk u v i = true
      · have h1 := ih k (i + 1) z (by omega) (by omega) (by rw [sp_wo, if_pos q]; exact hz)
        rw [sp_wo, if_pos q] at h1
        unfold sp_sk at q
        by_cases qu : nI i = u
        · rw [if_pos qu]; exact h1
        · rw [if_neg qu, if_pos (by simpa [qu] using q)]; exact h1
      · have h1 := ih k (i + 1) (upd z (sp_wo bs (sp_sk u v) i).1 (nI (bs i))) (by omega) (by omega) (fun j hj => by
          rw [sp_wo, if_neg q] at hj ⊢
          simp only at hj ⊢
          unfold sp_pt
          by_cases e : j = (sp_wo bs (sp_sk u v) i).1
          · rw [if_pos e, e, pk_us]
          · rw [if_neg e, pk_un e]; exact hz j (by omega))
        rw [sp_wo, if_neg q] at h1
        have q' := q
        unfold sp_sk at q'
        rw [if_neg (fun e => q' (by simp [e])), if_neg (fun e => q' (by simp [e]))]
        have ea : pX4_add F (nI (bs i)) (nI (sp_wo bs (sp_sk u v) i).1) z = some (nI ((sp_wo bs (sp_sk u v) i).1 + 1), upd z (sp_wo bs (sp_sk u v) i).1 (nI (bs i))) := by
          unfold pX4_add
          simp (disch := omega) only [zl_lit, zz_lt, nI_leI, nI_ltI, nI_add, zl_in, nI_clamp]
          rw [if_neg (by omega), if_pos (by omega)]
        rw [ea]
        exact h1
theorem q4_takeAllBut (F : Nat) {m : Nat} {c0 : Int32} {s0 sa : Nat → Int32} {bs : Nat → Nat} (u v : Int32) (hB : sp_B m sa bs) (hb : ∀ i, bs i ≤ 4) (hF : 100 ≤ F) : ∃ z', pX4_takeAllBut F u v c0 s0 (nI m) sa = some (nI (sp_wo bs (sp_sk u v) m).1, z') ∧ sp_B (sp_wo bs (sp_sk u v) m).1 z' (sp_wo bs (sp_sk u v) m).2 := by
  have hm := hB.1
  obtain ⟨z', e1, e2⟩ := q4_taL F u v hB F m 0 s0 (by omega) (by omega) (fun j hj => absurd hj (by rw [sp_wo]; simp))
  refine ⟨z', e1, ?_, fun i hi => ⟨e2 i hi, sp_wo_B hb m i⟩⟩
  have := sp_wo_le bs (sp_sk u v) m
  omega
