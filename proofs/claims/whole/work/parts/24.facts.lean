/-! what the ward's reading yields -/
theorem sp_wd_I {b : Nat → Int32} : ∀ (k i r c n w : Nat) (kn : Nat → Nat) (r' c' n' w' : Nat) (kn' : Nat → Nat), sp_wI r c n w kn ∧ (r = 6 → c = 0) → sp_wd b k i r c n w kn = .inr (r', c', n', w', kn') → sp_wI r' c' n' w' kn' ∧ (r' = 6 → c' = 0)
  | 0, i, r, c, n, w, kn, r', c', n', w', kn', h, e => by
    rw [sp_wd] at e; cases e; exact h
  | k + 1, i, r, c, n, w, kn, r', c', n', w', kn', h, e => by
    rw [sp_wd_s] at e
    by_cases q6 : r = 6
    · rw [if_pos q6] at e; cases e
    · rw [if_neg q6] at e
      cases qk : sp_kind (b i) with
      | some j =>
        rw [qk] at e
        simp only at e
        by_cases qc : c < (if r = 0 then 6 else w)
        · rw [if_pos qc] at e
          exact sp_wd_I k _ _ _ _ _ _ _ _ _ _ _ ⟨sp_wI_add h.1 q6 qc (sp_kind_le qk), fun z => absurd z q6⟩ e
        · rw [if_neg qc] at e; cases e
      | none =>
        rw [qk] at e
        simp only at e
        by_cases qc : b i = nI 59 ∧ 0 < c ∧ (r = 0 ∨ c = w)
        · rw [if_pos qc] at e
          exact sp_wd_I k _ _ _ _ _ _ _ _ _ _ _ ⟨sp_wI_row h.1 q6 qc.2.1 qc.2.2, fun _ => rfl⟩ e
        · rw [if_neg qc] at e; cases e
def sp_wn (b : Nat → Int32) (L : Nat) : Nat := (sp_ward b L).2.1
def sp_ww (b : Nat → Int32) (L : Nat) : Nat := (sp_ward b L).2.2.1
def sp_wk (b : Nat → Int32) (L : Nat) : Nat → Int32 := fun j => nI ((sp_ward b L).2.2.2 j)
theorem sp_ward_W (b : Nat → Int32) (L : Nat) : sp_W (sp_wn b L) (sp_ww b L) (sp_wk b L) := by
  unfold sp_wn sp_ww sp_wk sp_ward
  cases q : sp_wd b L 0 0 0 0 0 (fun _ => 0) with
  | inl x => exact ⟨by simp [sp_wend], by simp [sp_wend], fun h => absurd h (by simp [sp_wend]), fun i hi => absurd hi (by simp [sp_wend])⟩
  | inr z =>
    obtain ⟨r, c, n, w, kn⟩ := z
    have hI := sp_wd_I L 0 0 0 0 0 (fun _ => 0) r c n w kn ⟨⟨by omega, fun _ => ⟨by omega, rfl⟩, fun h => absurd h (by decide), fun j hj => by omega⟩, fun _ => rfl⟩ q
    rw [sp_wend]
    by_cases q1 : 0 < L ∧ (c = 0 ∨ (0 < r ∧ c < w))
    · rw [if_pos q1]
      exact ⟨by simp, by simp, fun h => absurd h (by simp), fun i hi => absurd hi (by simp)⟩
    · rw [if_neg q1]
      by_cases q2 : L = 0
      · subst q2
        rw [sp_wd] at q; cases q
        exact ⟨by simp, by simp, fun h => absurd h (by simp), fun i hi => absurd hi (by simp)⟩
      · obtain ⟨⟨h1, h2, h3, h4⟩, h6⟩ := hI
        have hc : ¬ c = 0 := fun e => q1 ⟨by omega, Or.inl e⟩
        rcases Nat.eq_zero_or_pos r with e | e
        · have h5 := h2 e
          refine ⟨by simp only; omega, by simp only; omega, fun _ => ⟨by simp only; omega, ?_⟩, fun i hi => ⟨_, h4 i hi, rfl⟩⟩
          simp only; rw [h5.2]; exact Nat.mod_self c
        · obtain ⟨a1, a2, a3, a4⟩ := h3 e
          have hw : c = w := by
            have : ¬ c < w := fun z => q1 ⟨by omega, Or.inr ⟨e, z⟩⟩
            omega
          have hr : ¬ r = 6 := fun z => hc (h6 z)
          subst hw
          have hb : r * c ≤ 5 * 6 := Nat.mul_le_mul (by omega) a2
          refine ⟨by simp only; omega, a2, fun _ => ⟨a1, ?_⟩, fun i hi => ⟨_, h4 i hi, rfl⟩⟩
          simp only; rw [a4, show r * c + c = (r + 1) * c by rw [Nat.succ_mul]]; exact Nat.mul_mod_left _ _
theorem sp_ward_n {b : Nat → Int32} {L x : Nat} (h : (sp_ward b L).1 = some x) : sp_wn b L = 0 ∧ sp_ww b L = 0 := by
  unfold sp_wn sp_ww
  unfold sp_ward at h ⊢
  cases q : sp_wd b L 0 0 0 0 0 (fun _ => 0) with
  | inl x => exact ⟨rfl, rfl⟩
  | inr z =>
    obtain ⟨r, c, n, w, kn⟩ := z
    rw [q, sp_wend] at h
    rw [sp_wend]
    split
    · exact ⟨rfl, rfl⟩
    · rename_i q1; rw [if_neg q1] at h; cases h
theorem sp_W_cg {n w : Nat} {kd kd' : Nat → Int32} (h : sp_W n w kd) (e : ∀ j, j < n → kd j = kd' j) : sp_W n w kd' := by
  obtain ⟨h1, h2, h3, h4⟩ := h
  exact ⟨h1, h2, h3, fun i hi => by rw [← e i hi]; exact h4 i hi⟩
theorem sp_W0 {w : Nat} {kd : Nat → Int32} (hw : w ≤ 6) : sp_W 0 w kd := ⟨by omega, hw, fun h => absurd h (by decide), fun i hi => absurd hi (by omega)⟩
/-! only cells of the ward are read -/
theorem sp_ray_cg {n w d : Nat} {kd kd' : Nat → Int32} (h : sp_W n w kd) (e : ∀ j, j < n → kd j = kd' j) : ∀ (k : Nat) (o : Option Nat), (∀ c, o = some c → c < n) → sp_ray n w kd d k o = sp_ray n w kd' d k o
  | 0, _, _ => rfl
  | k + 1, none, _ => rfl
  | k + 1, some c, ho => by
    rw [sp_ray, sp_ray, e c (ho c rfl)]
    rw [sp_ray_cg h e k _ (fun c' q => sp_nb_lt h (ho c rfl) q)]
theorem sp_vd_cg {n w s c : Nat} {kd kd' : Nat → Int32} (h : sp_W n w kd) (e : ∀ j, j < n → kd j = kd' j) (hc : c < n) : ∀ d, sp_vd n w kd s c d = sp_vd n w kd' s c d
  | 0 => rfl
  | d + 1 => by rw [sp_vd, sp_vd, sp_vd_cg h e hc d, sp_ray_cg h e s _ (fun c' q => sp_nb_lt h hc q)]
theorem sp_see_cg {n w s : Nat} {kd kd' : Nat → Int32} (h : sp_W n w kd) (e : ∀ j, j < n → kd j = kd' j) (o : Option Nat) (ho : ∀ c, o = some c → c < n) : sp_see n w kd s o = sp_see n w kd' s o := by
  cases o with
  | none => rfl
  | some c => exact sp_vd_cg h e (ho c rfl) 4
theorem sp_for_cg {gi c : Nat} {kd kd' : Nat → Int32} (e : kd c = kd' c) : sp_for kd gi c = sp_for kd' gi c := by
  unfold sp_for; rw [e]
theorem sp_st_cg {n gi st : Nat} {kd kd' : Nat → Int32} (e : ∀ j, j < n → kd j = kd' j) : sp_st n kd gi st = sp_st n kd' gi st := by
  unfold sp_st
  by_cases q : st < n
  · rw [sp_for_cg (e st q)]
  · rw [decide_eq_false q]; rfl
theorem sp_go_cg {n w gi c st : Nat} {kd kd' : Nat → Int32} (h : sp_W n w kd) (e : ∀ j, j < n → kd j = kd' j) (hc : c < n) : sp_go n w kd gi c st = sp_go n w kd' gi c st := by
  unfold sp_go
  cases q : sp_nb n w c st with
  | none => rfl
  | some c' => simp only; rw [sp_for_cg (e c' (sp_nb_lt h hc q))]
theorem sp_pl_cg {n w gi st m : Nat} {kd kd' : Nat → Int32} {bs : Nat → Nat} (h : sp_W n w kd) (e : ∀ j, j < n → kd j = kd' j) : ∀ t, sp_pl n w kd gi st m bs t = sp_pl n w kd' gi st m bs t
  | 0 => sp_st_cg e
  | t + 1 => by
    rw [sp_pl, sp_pl, ← sp_pl_cg h e t]
    cases q : sp_pl n w kd gi st m bs t with
    | none => rfl
    | some c => rw [sp_nx, sp_nx, sp_go_cg h e (sp_pl_ok h t c q).1]
theorem sp_vm_cg {n w gi st m si : Nat} {kd kd' : Nat → Int32} {bs : Nat → Nat} {fg : Nat → Bool} (h : sp_W n w kd) (e : ∀ j, j < n → kd j = kd' j) (t : Nat) : sp_vm n w kd si fg (sp_pl n w kd gi st m bs) t = sp_vm n w kd' si fg (sp_pl n w kd' gi st m bs) t := by
  unfold sp_vm
  rw [sp_see_cg h e _ (fun c q => (sp_pl_ok h t c q).1), sp_pl_cg h e]
theorem sp_shop_cg {n c : Nat} {kd kd' : Nat → Int32} (e : ∀ j, j < n → kd j = kd' j) : sp_shop n kd c = sp_shop n kd' c := by
  unfold sp_shop
  by_cases q : c < n
  · rw [e c q]
  · rw [decide_eq_false q]; rfl
theorem sp_takes_cg {n i : Nat} {kd kd' : Nat → Int32} {vm wt nd : Nat → Nat} (e : ∀ j, j < n → kd j = kd' j) : sp_takes n kd vm wt nd i = sp_takes n kd' vm wt nd i := by
  unfold sp_takes; rw [sp_shop_cg e]
/-! a ward without cells: nothing walks -/
theorem sp_pl_0 {w gi st m : Nat} {kd : Nat → Int32} {bs : Nat → Nat} : ∀ t, sp_pl 0 w kd gi st m bs t = none
  | 0 => by rw [sp_pl, sp_st]; simp
  | t + 1 => by rw [sp_pl, sp_pl_0 t]; rfl
