/-! the walk of the reference, told by its canonical ward -/
theorem sp_pl_w {n w w' gi st m : Nat} {kd : Nat → Int32} {bs : Nat → Nat} (h : 0 < n → w = w') (t : Nat) : sp_pl n w kd gi st m bs t = sp_pl n w' kd gi st m bs t := by
  rcases Nat.eq_zero_or_pos n with e | e
  · subst e; rw [sp_pl_0, sp_pl_0]
  · rw [h e]
theorem sp_vm_w {n w w' gi st m si : Nat} {kd : Nat → Int32} {bs : Nat → Nat} {fg : Nat → Bool} (h : 0 < n → w = w') (t : Nat) : sp_vm n w kd si fg (sp_pl n w kd gi st m bs) t = sp_vm n w' kd si fg (sp_pl n w' kd gi st m bs) t := by
  rcases Nat.eq_zero_or_pos n with e | e
  · subst e; unfold sp_vm; rw [sp_pl_0, sp_pl_0]; rfl
  · rw [h e]
theorem sp_ray_lt {n w d : Nat} {kd : Nat → Int32} (h : sp_W n w kd) : ∀ (k : Nat) (o : Option Nat), (∀ c, o = some c → c < n) → sp_ray n w kd d k o < 2 ^ 36
  | 0, _, _ => by rw [sp_ray]; decide
  | k + 1, none, _ => by rw [sp_ray]; decide
  | k + 1, some c, ho => by
    rw [sp_ray]
    have hn := h.1
    have hc := ho c rfl
    split
    · decide
    · exact Nat.or_lt_two_pow (Nat.pow_lt_pow_right (by decide) (by omega)) (sp_ray_lt h k _ (fun c' q => sp_nb_lt h hc q))
theorem sp_vd_lt {n w s c : Nat} {kd : Nat → Int32} (h : sp_W n w kd) (hc : c < n) : ∀ d, sp_vd n w kd s c d < 2 ^ 36
  | 0 => by have hn := h.1; rw [sp_vd]; exact Nat.pow_lt_pow_right (by decide) (by omega)
  | d + 1 => by rw [sp_vd]; exact Nat.or_lt_two_pow (sp_vd_lt h hc d) (sp_ray_lt h s _ (fun c' q => sp_nb_lt h hc q))
theorem sp_see_lt {n w s : Nat} {kd : Nat → Int32} (h : sp_W n w kd) (o : Option Nat) (ho : ∀ c, o = some c → c < n) : sp_see n w kd s o < 2 ^ 36 := by
  cases o with
  | none => rw [sp_see]; decide
  | some c => exact sp_vd_lt h (ho c rfl) 4
theorem cK_W (S : zz_M) : sp_W (cN S) (cW S) (cK S) := sp_ward_W _ _
theorem sm_wS (S : zz_M) (pl lo hi : Nat → Int32) (a b : Int32) : sm S (wS S pl lo hi a b) := by
  refine ⟨fun j _ _ _ _ _ _ h8 h9 h10 _ => ?_, fun j _ _ _ _ _ _ h10 h11 => wS_I _ _ _ _ _ _ h10 h11⟩
  exact wS_A _ _ _ _ _ _ h8 h9 h10
theorem q10_walked (F : Nat) {S : zz_M} {m : Nat} {bs : Nat → Nat} {fg : Nat → Bool} (h : ok10 S) (g : go10 S m bs fg) (hF : 100 ≤ F) : ∃ T, pX10_walks F S = some T ∧ sm S T ∧ wk10 T m bs fg := by
  have g' := g
  obtain ⟨hr, g9, gB, gf⟩ := g'
  have hr' := hr
  obtain ⟨⟨w, hW, g0, hw⟩, g2, gk, -⟩ := hr'
  obtain ⟨-, -, ⟨s1, s2⟩, ⟨s3, s4⟩, ⟨s5, s6⟩, -⟩ := h
  obtain ⟨pl, lo, hi, a, b, e1, e2, e3⟩ := q10_walks F hW gB s4 s6 s2 ⟨g0, g2, rfl, s1, s3, s5, g9, rfl, gf⟩ hF
  have hs := sm_wS S pl lo hi a b
  have ep : ∀ t, sp_pl (cN S) w (zz_gA S 2) (cGi S) (cSt S) m bs t = sp_pl (cN S) (cW S) (cK S) (cGi S) (cSt S) m bs t := fun t => by
    rw [sp_pl_cg hW gk, sp_pl_w hw]
  have ev : ∀ t, sp_vm (cN S) w (zz_gA S 2) (cSi S) fg (sp_pl (cN S) w (zz_gA S 2) (cGi S) (cSt S) m bs) t = sp_vm (cN S) (cW S) (cK S) (cSi S) fg (sp_pl (cN S) (cW S) (cK S) (cGi S) (cSt S) m bs) t := fun t => by
    rw [sp_vm_cg hW gk, sp_vm_w hw]
  have hg : go10 (wS S pl lo hi a b) m bs fg := ⟨rd_sm hs rfl rfl rfl rfl rfl rfl rfl rfl hr, g9, gB, gf⟩
  refine ⟨_, e1, hs, hg, ?_, ?_⟩
  · rw [sm_N hs, sm_W hs, sm_K hs, sm_Gi hs, sm_St hs, wS_A8]
    intro t ht
    rcases Nat.lt_or_ge t 96 with q | q
    · rw [(e2 t q).1, ep]
    · rw [show t = 96 by omega, e3, ep]
  · rw [sm_N hs, sm_W hs, sm_K hs, sm_Gi hs, sm_St hs, sm_Si hs, wS_A9, wS_A10]
    intro t ht
    obtain ⟨-, x1, x2⟩ := e2 t ht
    rw [ev] at x1 x2
    refine ⟨x1, x2, sp_see_lt (cK_W S) _ (fun c q => (sp_pl_ok (cK_W S) t c q).1)⟩
theorem q10_walksTold (F : Nat) {S : zz_M} (h : ok10 S) (hF : 100 ≤ F) : ∃ T, pX10_walksTold F S = some T ∧ sm S T ∧ wk10 T (cM S) (cB S) (fun _ => decide (cFo S = 1)) := by
  obtain ⟨T, e1, e2, e3⟩ := q10_asTold F h hF
  obtain ⟨U, f1, f2, f3⟩ := q10_walked F (sm_ok e2 h) e3 hF
  unfold pX10_walksTold
  rw [e1]
  simp only [zz_b1]
  rw [f1]
  exact ⟨U, rfl, sm_tr e2 f2, f3⟩
