/-! fog by chance: the sum over all fogs, and the runs kept one moment after the other -/
def sp_nt (need : Nat) (b : Bool) : Option Nat → Option Nat
  | none => none
  | some r => if b then some 0 else if need ≤ r + 1 then none else some (r + 1)
def sp_stt (need : Nat) (sn : Nat → Bool) : Nat → Option Nat
  | 0 => some 0
  | t + 1 => sp_nt need (sn t) (sp_stt need sn t)
theorem stt_cg {need : Nat} {sn sn' : Nat → Bool} : ∀ t, (∀ i, i < t → sn i = sn' i) → sp_stt need sn t = sp_stt need sn' t
  | 0, _ => rfl
  | t + 1, h => by rw [sp_stt, sp_stt, stt_cg t (fun i hi => h i (by omega)), h t (by omega)]
theorem stt_lt {need : Nat} {sn : Nat → Bool} (h1 : 1 ≤ need) : ∀ t r, sp_stt need sn t = some r → r < need
  | 0, r, h => by rw [sp_stt] at h; cases h; omega
  | t + 1, r, h => by
    rw [sp_stt] at h
    cases q : sp_stt need sn t with
    | none => rw [q, sp_nt] at h; cases h
    | some x =>
      rw [q, sp_nt] at h
      split at h
      · cases h; omega
      · split at h
        · cases h
        · cases h; omega
theorem stt_n {need : Nat} {sn : Nat → Bool} {t : Nat} (h : sp_stt need sn t = none) : ∀ k, sp_stt need sn (t + k) = none
  | 0 => h
  | k + 1 => by rw [show t + (k + 1) = t + k + 1 from rfl, sp_stt, stt_n h k]; rfl
theorem stt_end {need : Nat} {sn : Nat → Bool} (h1 : 1 ≤ need) : ∀ (k t r : Nat), sp_stt need sn t = some r → (sp_end sn need k t r).isSome = decide (sp_stt need sn (t + k) = none)
  | 0, t, r, h => by rw [sp_end, Nat.add_zero, h]; rfl
  | k + 1, t, r, h => by
    rw [sp_end]
    cases q : sn t
    · simp only [Bool.false_eq_true, if_false]
      have e : sp_stt need sn (t + 1) = if need ≤ r + 1 then none else some (r + 1) := by rw [sp_stt, h, q, sp_nt]; rfl
      by_cases q2 : need ≤ r + 1
      · rw [if_pos q2]
        rw [if_pos q2] at e
        have := stt_n e k
        rw [show t + 1 + k = t + (k + 1) by omega] at this
        rw [this]; rfl
      · rw [if_neg q2]
        rw [if_neg q2] at e
        rw [stt_end h1 k (t + 1) (r + 1) e, show t + 1 + k = t + (k + 1) by omega]
    · simp only [if_true]
      have e : sp_stt need sn (t + 1) = some 0 := by rw [sp_stt, h, q, sp_nt]; rfl
      rw [if_neg (by omega), stt_end h1 k (t + 1) 0 e, show t + 1 + k = t + (k + 1) by omega]
theorem stt_tk {need : Nat} {sn : Nat → Bool} (h1 : 1 ≤ need) : (sp_tk sn need).isSome = decide (sp_stt need sn 96 = none) := by
  unfold sp_tk; rw [stt_end h1 96 0 0 rfl]
/-! weighted sums over the sets of foggy moments -/
def wE (c : Nat) : Nat → (Nat → Nat) → Nat
  | 0, f => f 0
  | t + 1, f => (16 - c) * wE c t f + c * wE c t (fun s => f (s + 2 ^ t))
theorem wE_cg {c : Nat} : ∀ (t : Nat) {f g : Nat → Nat}, (∀ s, s < 2 ^ t → f s = g s) → wE c t f = wE c t g
  | 0, f, g, h => h 0 (by decide)
  | t + 1, f, g, h => by
    have hp : 2 ^ (t + 1) = 2 ^ t + 2 ^ t := by rw [Nat.pow_succ]; omega
    rw [wE, wE, wE_cg t (fun s hs => h s (by omega)), wE_cg t (f := fun s => f (s + 2 ^ t)) (g := fun s => g (s + 2 ^ t)) (fun s hs => h _ (by omega))]
theorem wE_add {c : Nat} : ∀ (t : Nat) (f g : Nat → Nat), wE c t (fun s => f s + g s) = wE c t f + wE c t g
  | 0, _, _ => rfl
  | t + 1, f, g => by
    rw [wE, wE, wE, wE_add t f g, wE_add t (fun s => f (s + 2 ^ t)) (fun s => g (s + 2 ^ t)), Nat.mul_add, Nat.mul_add]; omega
theorem wE_0 {c : Nat} : ∀ (t : Nat), wE c t (fun _ => 0) = 0
  | 0 => rfl
  | t + 1 => by rw [wE, wE_0 t]; simp
theorem wE_le {c : Nat} (hc : c ≤ 16) : ∀ (t : Nat) (f : Nat → Nat), (∀ s, f s ≤ 1) → wE c t f ≤ 16 ^ t
  | 0, f, h => by rw [wE]; exact h 0
  | t + 1, f, h => by
    have h1 := wE_le hc t f h
    have h2 := wE_le hc t (fun s => f (s + 2 ^ t)) (fun s => h _)
    rw [wE, Nat.pow_succ]
    have e : (16 - c) * 16 ^ t + c * 16 ^ t = 16 ^ t * 16 := by rw [← Nat.add_mul, Nat.sub_add_cancel hc, Nat.mul_comm]
    rw [← e]
    exact Nat.add_le_add (Nat.mul_le_mul_left _ h1) (Nat.mul_le_mul_left _ h2)
def sp_wg (c : Nat) (s : Nat) : Nat → Nat
  | 0 => 1
  | t + 1 => sp_wg c s t * (if s.testBit t then c else 16 - c)
theorem sp_wg_cg {c s s' : Nat} : ∀ t, (∀ i, i < t → s.testBit i = s'.testBit i) → sp_wg c s t = sp_wg c s' t
  | 0, _ => rfl
  | t + 1, h => by rw [sp_wg, sp_wg, sp_wg_cg t (fun i hi => h i (by omega)), h t (by omega)]
theorem sm_app (f : Nat → Nat) (m : Nat) : ∀ n, fb_sm f (m + n) = fb_sm f m + fb_sm (fun j => f (m + j)) n
  | 0 => rfl
  | n + 1 => by rw [show m + (n + 1) = m + n + 1 from rfl, fb_sm_succ, fb_sm_succ, sm_app f m n]; omega
theorem sm_cgr {f g : Nat → Nat} : ∀ n, (∀ i, i < n → f i = g i) → fb_sm f n = fb_sm g n
  | 0, _ => rfl
  | n + 1, h => by rw [fb_sm_succ, fb_sm_succ, sm_cgr n (fun i hi => h i (by omega)), h n (by omega)]
theorem sm_mulk (k : Nat) (f : Nat → Nat) : ∀ n, fb_sm (fun i => k * f i) n = k * fb_sm f n
  | 0 => rfl
  | n + 1 => by rw [fb_sm_succ, fb_sm_succ, sm_mulk k f n, Nat.mul_add]
theorem bit_no {s t : Nat} (h : s < 2 ^ t) : s.testBit t = false := Nat.testBit_lt_two_pow h
theorem bit_hi {s t : Nat} (h : s < 2 ^ t) : (s + 2 ^ t).testBit t = true := by
  rw [Nat.add_comm, Nat.testBit_two_pow_add_eq, bit_no h]; rfl
theorem bit_lo {s t i : Nat} (h : i < t) : (s + 2 ^ t).testBit i = s.testBit i := by
  rw [Nat.add_comm, Nat.testBit_two_pow_add_gt h]
theorem wE_sum (c : Nat) : ∀ (t : Nat) (f : Nat → Nat), fb_sm (fun s => sp_wg c s t * f s) (2 ^ t) = wE c t f
  | 0, f => by rw [wE]; show 0 + 1 * f 0 = f 0; omega
  | t + 1, f => by
    rw [show 2 ^ (t + 1) = 2 ^ t + 2 ^ t by rw [Nat.pow_succ]; omega, sm_app, wE, ← wE_sum c t f, ← wE_sum c t (fun s => f (s + 2 ^ t)), ← sm_mulk, ← sm_mulk]
    congr 1
    · apply sm_cgr
      intro s hs
      rw [sp_wg, bit_no hs, if_neg (by decide), Nat.mul_comm (sp_wg c s t), Nat.mul_assoc]
    · apply sm_cgr
      intro s hs
      rw [Nat.add_comm (2 ^ t) s, sp_wg, bit_hi hs, if_pos rfl, sp_wg_cg t (fun i hi => bit_lo hi), Nat.mul_comm (sp_wg c s t), Nat.mul_assoc]
/-! one more moment -/
def ib (p : Prop) [Decidable p] : Nat := if p then 1 else 0
theorem nt_none {need : Nat} {b : Bool} {x : Option Nat} (h1 : 1 ≤ need) (hx : ∀ r, x = some r → r < need) : ib (sp_nt need b x = none) = ib (x = none) + (if b then 0 else ib (x = some (need - 1))) := by
  unfold ib
  cases x with
  | none => cases b <;> simp [sp_nt]
  | some r =>
    have hr := hx r rfl
    cases b
    · by_cases q : need ≤ r + 1
      · have e : r = need - 1 := by omega
        subst e
        simp [sp_nt, q]
      · have e : ¬ r = need - 1 := by omega
        simp [sp_nt, q, e]
    · simp [sp_nt]
theorem nt_zero {need : Nat} {b : Bool} {x : Option Nat} : ib (sp_nt need b x = some 0) = if b then ib (¬ x = none) else 0 := by
  unfold ib
  cases x with
  | none => cases b <;> simp [sp_nt]
  | some r =>
    cases b
    · by_cases q : need ≤ r + 1 <;> simp [sp_nt, q]
    · simp [sp_nt]
theorem nt_succ {need r : Nat} {b : Bool} {x : Option Nat} (h : r + 1 < need) : ib (sp_nt need b x = some (r + 1)) = if b then 0 else ib (x = some r) := by
  unfold ib
  cases x with
  | none => cases b <;> simp [sp_nt]
  | some y =>
    cases b
    · by_cases q : need ≤ y + 1
      · have e : ¬ y = r := by omega
        simp [sp_nt, q, e]
      · simp [sp_nt, q]
    · simp [sp_nt]
theorem ib_sum {need : Nat} {x : Option Nat} (hx : ∀ r, x = some r → r < need) : fb_sm (fun r => ib (x = some r)) need = ib (¬ x = none) := by
  have key : ∀ n, fb_sm (fun r => ib (x = some r)) n = ib (∃ r, x = some r ∧ r < n) := fun n => by
    induction n with
    | zero => unfold ib; simp [fb_sm]
    | succ n ih =>
      rw [fb_sm_succ, ih]
      unfold ib
      cases x with
      | none => simp
      | some y =>
        by_cases q : y = n
        · subst q; simp
        · by_cases q2 : y < n
          · simp [q2, q, show y < n + 1 by omega]
          · simp [q2, q, show ¬ y < n + 1 by omega]
  rw [key]
  unfold ib
  cases x with
  | none => simp
  | some y => simp [hx y rfl]
theorem wE_swap {c t : Nat} (x : Nat → Option Nat) : ∀ n, fb_sm (fun r => wE c t (fun s => ib (x s = some r))) n = wE c t (fun s => fb_sm (fun r => ib (x s = some r)) n)
  | 0 => by rw [show fb_sm (fun r => wE c t (fun s => ib (x s = some r))) 0 = 0 from rfl]; exact (wE_0 t).symm
  | n + 1 => by
    rw [fb_sm_succ, wE_swap x n, ← wE_add]
    rfl
/-- what the class keeps: of how many fogs so far each run is the run now; none: taken -/
theorem wE_step {c t need : Nat} {x : Nat → Option Nat} (b : Bool) (h1 : 1 ≤ need) (hx : ∀ s r, x s = some r → r < need) :
    wE c t (fun s => ib (sp_nt need b (x s) = none)) = wE c t (fun s => ib (x s = none)) + (if b then 0 else wE c t (fun s => ib (x s = some (need - 1)))) ∧
    wE c t (fun s => ib (sp_nt need b (x s) = some 0)) = (if b then fb_sm (fun r => wE c t (fun s => ib (x s = some r))) need else 0) ∧
    ∀ r, r + 1 < need → wE c t (fun s => ib (sp_nt need b (x s) = some (r + 1))) = if b then 0 else wE c t (fun s => ib (x s = some r)) := by
  refine ⟨?_, ?_, fun r hr => ?_⟩
  · rw [wE_cg t (g := fun s => ib (x s = none) + (if b then 0 else ib (x s = some (need - 1)))) (fun s _ => nt_none h1 (hx s)), wE_add]
    cases b
    · simp
    · simp only [if_true]; rw [wE_0]
  · rw [wE_cg t (g := fun s => if b then ib (¬ x s = none) else 0) (fun s _ => nt_zero)]
    cases b
    · simp only [Bool.false_eq_true, if_false]; exact wE_0 t
    · simp only [if_true]
      rw [wE_swap, wE_cg t (fun s _ => (ib_sum (hx s)).symm)]
  · rw [wE_cg t (g := fun s => if b then 0 else ib (x s = some r)) (fun s _ => nt_succ hr)]
    cases b
    · simp
    · simp only [if_true]; rw [wE_0]
/-! the fog of a set; the run behind t moments -/
def fgS (L : Nat) (s t : Nat) : Bool := decide (t < L) && s.testBit t
def snS (L : Nat) (sc sf : Nat → Bool) (s t : Nat) : Bool := if fgS L s t then sf t else sc t
def wA (c L need : Nat) (sc sf : Nat → Bool) (t : Nat) (o : Option Nat) : Nat := wE c (if t < L then t else L) (fun s => ib (sp_stt need (snS L sc sf s) t = o))
def nb (b : Bool) : Nat := if b then 0 else 1
theorem wA_step {c L need t : Nat} {sc sf : Nat → Bool} (hc : c ≤ 16) (h1 : 1 ≤ need) : ∃ u a : Nat, u ≤ a ∧ u = (if t < L then nb (sc t) * (16 - c) + nb (sf t) * c else nb (sc t)) ∧ a = (if t < L then 16 else 1) ∧
    wA c L need sc sf (t + 1) none = wA c L need sc sf t none * a + wA c L need sc sf t (some (need - 1)) * u ∧
    wA c L need sc sf (t + 1) (some 0) = fb_sm (fun r => wA c L need sc sf t (some r)) need * (a - u) ∧
    ∀ r, r + 1 < need → wA c L need sc sf (t + 1) (some (r + 1)) = wA c L need sc sf t (some r) * u := by
  refine ⟨_, _, ?_, rfl, rfl, ?_⟩
  · unfold nb
    split
    · cases sc t <;> cases sf t <;> simp <;> omega
    · cases sc t <;> simp
  · have hx : ∀ s r, sp_stt need (snS L sc sf s) t = some r → r < need := fun s r h => stt_lt h1 t r h
    unfold wA
    by_cases q : t < L
    · have e1 : (if t + 1 < L then t + 1 else L) = t + 1 := by split <;> omega
      rw [e1, if_pos q, if_pos q, if_pos q]
      -- the moment is foggy or not
      have z0 : ∀ o, wE c t (fun s => ib (sp_stt need (snS L sc sf s) (t + 1) = o)) = wE c t (fun s => ib (sp_nt need (sc t) (sp_stt need (snS L sc sf s) t) = o)) := fun o => wE_cg t (fun s hs => by
        have : snS L sc sf s t = sc t := by unfold snS fgS; rw [bit_no hs, Bool.and_false]; rfl
        rw [sp_stt, this])
      have z1 : ∀ o, wE c t (fun s => ib (sp_stt need (snS L sc sf (s + 2 ^ t)) (t + 1) = o)) = wE c t (fun s => ib (sp_nt need (sf t) (sp_stt need (snS L sc sf s) t) = o)) := fun o => wE_cg t (fun s hs => by
        have e2 : snS L sc sf (s + 2 ^ t) t = sf t := by unfold snS fgS; rw [bit_hi hs, decide_eq_true q]; rfl
        have e3 : sp_stt need (snS L sc sf (s + 2 ^ t)) t = sp_stt need (snS L sc sf s) t := stt_cg t (fun i hi => by unfold snS fgS; rw [bit_lo hi])
        rw [sp_stt, e2, e3])
      have y0 := wE_step (c := c) (t := t) (sc t) h1 hx
      have y1 := wE_step (c := c) (t := t) (sf t) h1 hx
      have exp : ∀ o, wE c (t + 1) (fun s => ib (sp_stt need (snS L sc sf s) (t + 1) = o)) = (16 - c) * wE c t (fun s => ib (sp_nt need (sc t) (sp_stt need (snS L sc sf s) t) = o)) + c * wE c t (fun s => ib (sp_nt need (sf t) (sp_stt need (snS L sc sf s) t) = o)) := fun o => by
        rw [wE, z0, z1]
      have h16 : 16 - c + c = 16 := by omega
      refine ⟨?_, ?_, fun r hr => ?_⟩
      · rw [exp, y0.1, y1.1]
        generalize wE c t (fun s => ib (sp_stt need (snS L sc sf s) t = none)) = X
        generalize wE c t (fun s => ib (sp_stt need (snS L sc sf s) t = some (need - 1))) = Y
        have e4 : X * 16 = (16 - c) * X + c * X := by rw [← Nat.add_mul, h16, Nat.mul_comm]
        rw [e4, Nat.mul_add, Nat.mul_add, Nat.mul_add]
        unfold nb
        cases sc t <;> cases sf t <;> simp [Nat.mul_comm Y] <;> omega
      · rw [exp, y0.2.1, y1.2.1]
        generalize fb_sm (fun r => wE c t (fun s => ib (sp_stt need (snS L sc sf s) t = some r))) need = X
        have e4 : X * 16 = (16 - c) * X + c * X := by rw [← Nat.add_mul, h16, Nat.mul_comm]
        unfold nb
        cases sc t <;> cases sf t <;> simp
        · rw [h16]; simp
        · rw [show 16 - (16 - c) = c by omega, Nat.mul_comm]
        · rw [Nat.mul_comm]
        · exact e4.symm
      · rw [exp, y0.2.2 r hr, y1.2.2 r hr]
        generalize wE c t (fun s => ib (sp_stt need (snS L sc sf s) t = some r)) = Y
        rw [Nat.mul_add]
        unfold nb
        cases sc t <;> cases sf t <;> simp [Nat.mul_comm Y]
    · have e1 : (if t + 1 < L then t + 1 else L) = L := by split <;> omega
      rw [e1, if_neg q, if_neg q, if_neg q]
      have hs : ∀ s, snS L sc sf s t = sc t := fun s => by unfold snS fgS; rw [decide_eq_false q]; rfl
      have exp : ∀ o, wE c L (fun s => ib (sp_stt need (snS L sc sf s) (t + 1) = o)) = wE c L (fun s => ib (sp_nt need (sc t) (sp_stt need (snS L sc sf s) t) = o)) := fun o => wE_cg L (fun s _ => by rw [sp_stt, hs])
      have y0 := wE_step (c := c) (t := L) (sc t) h1 hx
      unfold nb
      refine ⟨?_, ?_, fun r hr => ?_⟩
      · rw [exp, y0.1]; cases sc t <;> simp
      · rw [exp, y0.2.1]; cases sc t <;> simp
      · rw [exp, y0.2.2 r hr]; cases sc t <;> simp
theorem wA_0 {c L need : Nat} {sc sf : Nat → Bool} (o : Option Nat) (hL : 0 < L) : wA c L need sc sf 0 o = ib (some 0 = o) := by
  unfold wA; rw [if_pos hL]; rfl
theorem wA_le {c L need t : Nat} {sc sf : Nat → Bool} (hc : c ≤ 16) (ht : L ≤ t) (o : Option Nat) : wA c L need sc sf t o ≤ 16 ^ L := by
  unfold wA; rw [if_neg (by omega)]
  exact wE_le hc L _ (fun s => by unfold ib; split <;> omega)
theorem wA_sum {c L need : Nat} {sc sf : Nat → Bool} (h1 : 1 ≤ need) (hL : L ≤ 96) : fb_sm (fun s => sp_wg c s L * (if (sp_tk (snS L sc sf s) need).isSome then 1 else 0)) (2 ^ L) = wA c L need sc sf 96 none := by
  unfold wA
  rw [if_neg (by omega), ← wE_sum]
  apply sm_cgr
  intro s _
  rw [stt_tk h1]
  unfold ib
  simp
