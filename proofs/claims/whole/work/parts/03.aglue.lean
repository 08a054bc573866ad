/-! my own glue: pure pieces that the printed walks speak in -/
def zz_lt {α β : Type} (a : α) (f : α → β) : β := f a
theorem zz_lts {α β : Type} {a : α} {f : α → Option β} {r : β} (h : zz_lt a f = some r) : ∃ v, v = a ∧ f v = some r := ⟨a, rfl, h⟩
theorem zz_gd {β : Type} {c : Prop} [Decidable c] {x : Option β} {r : β} (h : (if c then x else none) = some r) : c ∧ x = some r := by
  by_cases hc : c
  · rw [if_pos hc] at h; exact ⟨hc, h⟩
  · rw [if_neg hc] at h; cases h
theorem zz_ps {β : Type} {c : Prop} [Decidable c] {x y : Option β} {r : β} (h : (if c then x else y) = some r) (hc : c) : x = some r := by rwa [if_pos hc] at h
theorem zz_ng {β : Type} {c : Prop} [Decidable c] {x y : Option β} {r : β} (h : (if c then x else y) = some r) (hc : ¬ c) : y = some r := by rwa [if_neg hc] at h
def zz_b1 {α β : Type} (o : Option α) (f : α → Option β) : Option β := match o with
  | none => none
  | some a => f a
theorem zz_b1s {α β : Type} {o : Option α} {f : α → Option β} {r : β} (h : zz_b1 o f = some r) : ∃ a, o = some a ∧ f a = some r := by
  cases o with
  | none => cases h
  | some a => exact ⟨a, rfl, h⟩
def zz_b2 {α β γ : Type} (o : Option (α × β)) (f : α → β → Option γ) : Option γ := match o with
  | none => none
  | some a => f a.1 a.2
theorem zz_b2s {α β γ : Type} {o : Option (α × β)} {f : α → β → Option γ} {r : γ} (h : zz_b2 o f = some r) : ∃ a b, o = some (a, b) ∧ f a b = some r := by
  cases o with
  | none => cases h
  | some a => exact ⟨a.1, a.2, rfl, h⟩
def zz_b3 {α β γ δ : Type} (o : Option (α × β × γ)) (f : α → β → γ → Option δ) : Option δ := match o with
  | none => none
  | some a => f a.1 a.2.1 a.2.2
theorem zz_b3s {α β γ δ : Type} {o : Option (α × β × γ)} {f : α → β → γ → Option δ} {r : δ} (h : zz_b3 o f = some r) : ∃ a b c, o = some (a, b, c) ∧ f a b c = some r := by
  cases o with
  | none => cases h
  | some a => exact ⟨a.1, a.2.1, a.2.2, rfl, h⟩
def zz_b4 {α β γ δ ε : Type} (o : Option (α × β × γ × δ)) (f : α → β → γ → δ → Option ε) : Option ε := match o with
  | none => none
  | some a => f a.1 a.2.1 a.2.2.1 a.2.2.2
theorem zz_b4s {α β γ δ ε : Type} {o : Option (α × β × γ × δ)} {f : α → β → γ → δ → Option ε} {r : ε} (h : zz_b4 o f = some r) : ∃ a b c d, o = some (a, b, c, d) ∧ f a b c d = some r := by
  cases o with
  | none => cases h
  | some a => exact ⟨a.1, a.2.1, a.2.2.1, a.2.2.2, rfl, h⟩
def zz_b5 {α β γ δ ε ζ : Type} (o : Option (α × β × γ × δ × ε)) (f : α → β → γ → δ → ε → Option ζ) : Option ζ := match o with
  | none => none
  | some a => f a.1 a.2.1 a.2.2.1 a.2.2.2.1 a.2.2.2.2
theorem zz_b5s {α β γ δ ε ζ : Type} {o : Option (α × β × γ × δ × ε)} {f : α → β → γ → δ → ε → Option ζ} {r : ζ} (h : zz_b5 o f = some r) : ∃ a b c d e, o = some (a, b, c, d, e) ∧ f a b c d e = some r := by
  cases o with
  | none => cases h
  | some a => exact ⟨a.1, a.2.1, a.2.2.1, a.2.2.2.1, a.2.2.2.2, rfl, h⟩
theorem zz_e1 {α : Type} {a b : α} (h : some a = some b) : a = b := Option.some.inj h
theorem zz_e2 {α β : Type} {a c : α} {b d : β} (h : some (a, b) = some (c, d)) : a = c ∧ b = d := by cases h; exact ⟨rfl, rfl⟩
theorem zz_e3 {α β γ : Type} {a c : α} {b d : β} {x y : γ} (h : some (a, b, x) = some (c, d, y)) : a = c ∧ b = d ∧ x = y := by cases h; exact ⟨rfl, rfl, rfl⟩
theorem zz_e4 {α β γ δ : Type} {a c : α} {b d : β} {x y : γ} {u v : δ} (h : some (a, b, x, u) = some (c, d, y, v)) : a = c ∧ b = d ∧ x = y ∧ u = v := by cases h; exact ⟨rfl, rfl, rfl, rfl⟩
theorem zz_e5 {α β γ δ ε : Type} {a c : α} {b d : β} {x y : γ} {u v : δ} {m n : ε} (h : some (a, b, x, u, m) = some (c, d, y, v, n)) : a = c ∧ b = d ∧ x = y ∧ u = v ∧ m = n := by cases h; exact ⟨rfl, rfl, rfl, rfl, rfl⟩
abbrev zz_in (i : Int32) (n : Nat) : Prop := ¬ (i < 0 ∨ n ≤ i.toNatClampNeg)
def zz_ushr (x y : Int32) : Int32 := (x.toUInt32 >>> (y.toUInt32 &&& Int32.toUInt32 31)).toInt32
def zz_lushr (x : Int64) (y : Int32) : Int64 := (x.toUInt64 >>> (y.toInt64.toUInt64 &&& Int64.toUInt64 63)).toInt64
def zz_lshl (x : Int64) (y : Int32) : Int64 := x <<< (y.toInt64 &&& 63)
theorem zz_nb {v : Int32} (h : v &&& 1 = v) : narrow .boolean (.int v) = .int v := by
  show Value.int (v &&& 1) = .int v
  rw [h]
/-! the state of an object with much in it: ints by number, int arrays by number, long arrays by number -/
def zz_up {α : Type} (f : Nat → α) (k : Nat) (v : α) : Nat → α := fun j => bif Nat.beq j k then v else f j
abbrev zz_M : Type := (Nat → Int32) × (Nat → Nat → Int32) × (Nat → Nat → Int64)
def zz_sI (S : zz_M) (k : Nat) (v : Int32) : zz_M := (zz_up S.1 k v, S.2.1, S.2.2)
def zz_sA (S : zz_M) (k : Nat) (f : Nat → Int32) : zz_M := (S.1, zz_up S.2.1 k f, S.2.2)
def zz_sL (S : zz_M) (k : Nat) (f : Nat → Int64) : zz_M := (S.1, S.2.1, zz_up S.2.2 k f)
def zz_gI (S : zz_M) (k : Nat) : Int32 := S.1 k
def zz_gA (S : zz_M) (k : Nat) : Nat → Int32 := S.2.1 k
def zz_gL (S : zz_M) (k : Nat) : Nat → Int64 := S.2.2 k
/-! the tables of the class -/
def zz_T0 : Nat → Int32 := fun j => if j = 0 then 41 else if j = 1 then 24 else 31
def zz_T1 : Nat → Int32 := fun j => if j = 0 then 35 else if j = 3 then 1 else 9
def zz_T2 : Nat → Int32 := fun j => if j = 0 then 0 else if j = 1 then 7 else if j = 2 then 50 else 95
