def R_law : String := "CatBeatLaw"
def lw_P (b : Addr) (xs : List Int32) (args : Array Value) (s : State) : Prop := args = #[.ref b] ∧ s.IntsAt b xs ∧ xs.length ≤ 384 ∧ (Jvm.Cond.and given_1 narrow_1).before args s = true
def lw_Q (_ : Array Value) (s : State) (o : Outcome) (t : State) : Prop := o = .returned (some (.int 1)) ∧ Framed s o t [] 600000 7302250
def lw_Z (below : List Frame) (a : Array Value) (s : State) : State → Prop := fun t => ∃ o, t.status = .running ∧ Ended t below o ∧ lw_Q a s o t
/-- the law's own end, with 1 on the stack, nothing written that was there before, its room as the claim has it -/
theorem lw_ret {p : Program} {l : Launch} {e : Env} {s : State} {m : MethodId} {below : List Frame} {meth : Method} {c : Code} {b : Nat} (hx : p.tables.exec = Jvm.exec) (hb : c.code = code) (hr : meth.sig.returnType = ret) (hlocks : meth.locks = false) {pc : Nat} {H : Heap} {ls : Array Slot} (hdg : decode code pc = .ok (.ireturn, 1)) : W p l e room_1 s m #[Value.ref b] below meth c H [] 600000 7302250 (lw_Z below #[Value.ref b] s) (F0 m pc ls [.int 1]) := by
  intro T hT X
  obtain ⟨fs, hret, hrun, hended, hW, hframe⟩ := X.leave (v := some (.int 1)) (hlocks := hlocks) (fun h => by rw [hr] at h; cases h)
  have hmeth' : T.vm.method? m = some meth := X.method'
  refine ⟨T.setFrames fs, ?_, .returned (some (.int 1)), hrun, hended, rfl, ⟨_, rfl⟩, hW, hframe⟩
  jvm_step X.here [X.here.top, hx, hb, hdg, hmeth', hr, ret, narrow_b1]
  (try refine ⟨rfl, ?_⟩); (try refine ⟨rfl, ?_⟩)
  first | (intro acts; rw [hret _ acts rfl rfl rfl]) | rw [hret _ _ rfl rfl rfl]
  exact Steps.refl _
/-- what holds at the law's entry: the machine, the code, the tables' words (any of lw_tbl by 'hts w (by decide +kernel)'), the script of L ints xs at the cell b, what the Statement gives of the start (any of its parts by flat_of_before) -/
def lw_At (p : Program) (s : State) (m : MethodId) (meth : Method) (c : Code) (b L : Nat) (xs : Nat → Int32) : Prop :=
  p.tables.exec = Jvm.exec ∧ c.code = code ∧ meth.sig.returnType = ret ∧ c.maxLocals = 4 ∧ s.vm.findClass R_law = some m.cls ∧ (∀ w ∈ lw_tbl, w.before #[Value.ref b] s = true) ∧ va_X b L xs s s.heap ∧ b < s.heap.size ∧ meth.locks = false ∧ (Jvm.Cond.and given_1 narrow_1).before #[Value.ref b] s = true
/-! the law: what holds all along its loop -/
def lwt9 (k : Nat → ClassId) : List (ClassId × FieldType) := [((k 1), .object "CatBeat$Text"), ((k 3), .int), ((k 5), .int), ((k 7), .int), ((k 8), .int), ((k 9), .int), ((k 11), .int), ((k 13), .int), ((k 15), .int), ((k 16), .int), ((k 18), .int), ((k 19), .int), ((k 20), .object "CatBeat$Sheet"), ((k 22), .int), ((k 24), .int), ((k 26), .int), ((k 28), .int), ((k 30), .int), ((k 31), .long), ((k 32), .boolean), ((k 34), .int), ((k 35), .long), ((k 37), .int), ((k 39), .int), ((k 40), .long), ((k 41), .boolean), ((k 43), .int), ((k 44), .long), ((k 46), .long), ((k 47), .int)]
def lwt10 (k : Nat → ClassId) : List (ClassId × FieldType) := [((k 1), .int), ((k 2), .int), ((k 3), .int), ((k 4), .int), ((k 5), .int), ((k 6), .int), ((k 7), .int), ((k 8), .boolean), ((k 9), .int), ((k 10), .int), ((k 11), .int), ((k 12), .int), ((k 13), .int), ((k 14), .int), ((k 15), .int), ((k 16), .boolean), ((k 17), .int), ((k 18), .int), ((k 19), .int), ((k 20), .int)]
abbrev lwA (s : State) : Nat → Prop := fun a => s.heap.size ≤ a
def lw_cx (p : Program) (l : Launch) (e : Env) (s : State) (m : MethodId) (below : List Frame) (meth : Method) (c : Code) (b L : Nat) (xs : Nat → Int32) (D : va_G) (tb : Nat → Nat) (q : Nat → Nat) (k : Nat → ClassId) (q2 : Nat → Nat) (k2 : Nat → ClassId) (F i : Nat) : Prop := CallFix p m c cL_law 4 s #[Value.ref b] wsL_law RL ∧ va_K D vwCl (lwt9 k ++ lwt10 k2) s ∧ zz_EX tb (lwA s) s s.heap ∧ va_X b L xs s s.heap ∧ b < s.heap.size ∧ 2000 ≤ F ∧ vp_in (nI i) L ∧ vp_in (nI i + 1) L ∧ vp_in (nI i + 2) L ∧ vp_in (nI i + 3) L ∧ vp_in (nI i + 4) L ∧ vp_in (nI i + 5) L
/-- the machine at a place of the loop, with the class beside the reference -/
def lw_go (p : Program) (l : Launch) (e : Env) (s : State) (m : MethodId) (below : List Frame) (meth : Method) (c : Code) (b L : Nat) (xs : Nat → Int32) (D : va_G) (tb : Nat → Nat) (q : Nat → Nat) (k : Nat → ClassId) (q2 : Nat → Nat) (k2 : Nat → ClassId) (F i : Nat) (pc : Nat) : Prop := ∀ (C S : zz_M), R9 C S → ok10 S → ∀ (H : Heap) (locs : List Loc), va_P D vwCl (zw_9 q k C ++ zw_10 q2 k2 S) H → va_D (lwA s) (zw_9 q k C ++ zw_10 q2 k2 S) → va_S (lwA s) s.heap H locs → ∀ ls : Array Slot, lv_has ls 4 [(0, .ref b), (1, .ref (q 0)), (2, .ref (q2 0)), (3, .int (nI i))] → W p l e room_1 s m #[Value.ref b] below meth c H locs 69 2482 (lw_Z below #[Value.ref b] s) (F0 m pc ls [])
theorem rg_get {α : Type} : ∀ (X Y pre : List α), (List.range' pre.length X.length).map (fun i => (pre ++ (X ++ Y))[i]?) = X.map some
  | [], Y, pre => rfl
  | x :: X, Y, pre => by
    have ih := rg_get X Y (pre ++ [x])
    have e : pre ++ [x] ++ (X ++ Y) = pre ++ (x :: X ++ Y) := by simp
    rw [e, List.length_append] at ih
    rw [List.length_cons, List.range'_succ, List.map_cons, List.map_cons]
    refine congr (congrArg List.cons ?_) ih
    simp
theorem rg_fm {α : Type} : ∀ (X Y pre : List α), (List.range' pre.length X.length).filterMap (fun i => (pre ++ (X ++ Y))[i]?) = X
  | [], Y, pre => rfl
  | x :: X, Y, pre => by
    have ih := rg_fm X Y (pre ++ [x])
    have e : pre ++ [x] ++ (X ++ Y) = pre ++ (x :: X ++ Y) := by simp
    rw [e, List.length_append] at ih
    have e2 : (pre ++ (x :: X ++ Y))[pre.length]? = some x := by simp
    rw [List.length_cons, List.range'_succ, List.filterMap_cons_some e2]
    exact congrArg (List.cons x) ih
theorem rp_app : ∀ (X2 X Y pre : va_W), X2.length = X.length → zz_rp (pre ++ (X ++ Y)) (List.range' pre.length X.length) X2 = pre ++ (X2 ++ Y)
  | [], [], Y, pre, _ => rfl
  | [], _ :: _, _, _, h => by cases h
  | _ :: _, [], _, _, h => by cases h
  | x2 :: X2, x :: X, Y, pre, h => by
    have ih := rp_app X2 X Y (pre ++ [x2]) (Nat.succ.inj h)
    have e : pre ++ [x2] ++ (X ++ Y) = pre ++ (x2 :: X ++ Y) := by simp
    have e3 : pre ++ [x2] ++ (X2 ++ Y) = pre ++ (x2 :: X2 ++ Y) := by simp
    rw [e, e3, List.length_append] at ih
    rw [List.length_cons, List.range'_succ]
    have e2 : (pre ++ (x :: X ++ Y)).set pre.length x2 = pre ++ (x2 :: X ++ Y) := by rw [List.set_append, if_neg (Nat.lt_irrefl _), Nat.sub_self]; rfl
    show zz_rp ((pre ++ (x :: X ++ Y)).set pre.length x2) (List.range' (pre.length + 1) X.length) X2 = _
    rw [e2]
    exact ih
theorem rg9 (q : Nat → Nat) (k : Nat → ClassId) (C : zz_M) (Y : va_W) : (List.range' 0 (zw_9 q k C).length).map (fun i => (zw_9 q k C ++ Y)[i]?) = (zw_9 q k C).map some := rg_get (zw_9 q k C) Y []
theorem rg10 (q q2 : Nat → Nat) (k k2 : Nat → ClassId) (C S : zz_M) : (List.range' (zw_9 q k C).length (zw_10 q2 k2 S).length).map (fun i => (zw_9 q k C ++ zw_10 q2 k2 S)[i]?) = (zw_10 q2 k2 S).map some := by
  have := rg_get (zw_10 q2 k2 S) [] (zw_9 q k C)
  rw [List.append_nil] at this
  exact this
section LC
variable {p : Program} {l : Launch} {e : Env} {R : Room} {s : State} {m : MethodId} {args : Array Value} {below : List Frame} {meth : Method} {c : Code} {H : Heap} {locs : List Loc} {cells slots : Nat} {Q : State → Prop}
variable {D : va_G} {tb : Nat → Nat} {as : List Value} {A : Nat → Prop} {pc : Nat} {ls : Array Slot} {rest st0 : List Value} {a : Array Value} {q q2 : Nat → Nat} {k k2 : Nat → ClassId} {C S C2 S2 : zz_M}
theorem la_p9 (hK : va_K D vwCl (lwt9 k ++ lwt10 k2) s) (hP : va_P D vwCl (zw_9 q k C ++ zw_10 q2 k2 S) H) (hD : va_D A (zw_9 q k C ++ zw_10 q2 k2 S)) (hS : va_S A s.heap H locs) (hA : ∀ q, s.heap.size ≤ q → A q) (hE : zz_EX tb A s s.heap) : PreV s H RX9 (q 0) (va_Pc (.ref (q 0) :: as) (zz_Pre D tb (lwt9 k) (zw_9 q k C) H.size)) as := zz_preV hK hP hD hS hA hE (List.range' 0 (zw_9 q k C).length) (List.range' 0 (lwt9 k).length) (rg9 q k C _) (show va_nd (List.range' 0 48) = true by decide) (rg_fm (lwt9 k) (lwt10 k2) []) 0 (ci := 9) rfl rfl rfl
theorem la_p10 (hK : va_K D vwCl (lwt9 k ++ lwt10 k2) s) (hP : va_P D vwCl (zw_9 q k C ++ zw_10 q2 k2 S) H) (hD : va_D A (zw_9 q k C ++ zw_10 q2 k2 S)) (hS : va_S A s.heap H locs) (hA : ∀ q, s.heap.size ≤ q → A q) (hE : zz_EX tb A s s.heap) : PreV s H RX10 (q2 0) (va_Pc (.ref (q2 0) :: as) (zz_Pre D tb (lwt10 k2) (zw_10 q2 k2 S) H.size)) as := zz_preV hK hP hD hS hA hE (List.range' (zw_9 q k C).length (zw_10 q2 k2 S).length) (List.range' (lwt9 k).length (lwt10 k2).length) (rg10 q q2 k k2 C S) (show va_nd (List.range' 48 21) = true by decide) (by have := rg_fm (lwt10 k2) [] (lwt9 k); rw [List.append_nil] at this; exact this) 48 (ci := 10) rfl rfl rfl
theorem lw_c9i {r : Int32} (hr : va_Run p l e R s m args below meth c H locs cells slots 0 0 (F0 m pc ls st0) rest (va_Qi (fun r0 (_ : Unit) => r0 = r) (zz_B D (zw_9 q k C) (zw_9 q k C2) H.size) (va_A (zw_9 q k C) H.size) a) (va_A (zw_9 q k C) H.size)) (hP : va_P D vwCl (zw_9 q k C ++ zw_10 q2 k2 S) H) (hD : va_D A (zw_9 q k C ++ zw_10 q2 k2 S)) (hS : va_S A s.heap H locs) (hA : ∀ q, s.heap.size ≤ q → A q) (kk : ∀ (H1 : Heap) (locs1 : List Loc), va_P D vwCl (zw_9 q k C2 ++ zw_10 q2 k2 S) H1 → va_D A (zw_9 q k C2 ++ zw_10 q2 k2 S) → va_S A s.heap H1 locs1 → W p l e R s m args below meth c H1 locs1 cells slots Q (F0 m (pc + 3) ls (.int r :: rest))) : W p l e R s m args below meth c H locs cells slots Q (F0 m pc ls st0) := by
  have e := rp_app (zw_9 q k C2) (zw_9 q k C) (zw_10 q2 k2 S) [] rfl
  simp only [List.nil_append, List.append_nil, List.length_nil] at e
  refine zz_ji hr hP hD hS hA (List.range' 0 (zw_9 q k C).length) (rg9 q k C _) rfl (fun H1 locs1 h1 h2 h3 => kk H1 locs1 ?_ ?_ h3)
  · rw [e] at h1; exact h1
  · rw [e] at h2; exact h2
theorem lw_c10i {r : Int32} (hr : va_Run p l e R s m args below meth c H locs cells slots 0 0 (F0 m pc ls st0) rest (va_Qi (fun r0 (_ : Unit) => r0 = r) (zz_B D (zw_10 q2 k2 S) (zw_10 q2 k2 S2) H.size) (va_A (zw_10 q2 k2 S) H.size) a) (va_A (zw_10 q2 k2 S) H.size)) (hP : va_P D vwCl (zw_9 q k C ++ zw_10 q2 k2 S) H) (hD : va_D A (zw_9 q k C ++ zw_10 q2 k2 S)) (hS : va_S A s.heap H locs) (hA : ∀ q, s.heap.size ≤ q → A q) (kk : ∀ (H1 : Heap) (locs1 : List Loc), va_P D vwCl (zw_9 q k C ++ zw_10 q2 k2 S2) H1 → va_D A (zw_9 q k C ++ zw_10 q2 k2 S2) → va_S A s.heap H1 locs1 → W p l e R s m args below meth c H1 locs1 cells slots Q (F0 m (pc + 3) ls (.int r :: rest))) : W p l e R s m args below meth c H locs cells slots Q (F0 m pc ls st0) := by
  have e := rp_app (zw_10 q2 k2 S2) (zw_10 q2 k2 S) [] (zw_9 q k C) rfl
  simp only [List.nil_append, List.append_nil, List.length_nil] at e
  refine zz_ji hr hP hD hS hA (List.range' (zw_9 q k C).length (zw_10 q2 k2 S).length) (rg10 q q2 k k2 C S) rfl (fun H1 locs1 h1 h2 h3 => kk H1 locs1 ?_ ?_ h3)
  · rw [e] at h1; exact h1
  · rw [e] at h2; exact h2
theorem lw_c9l {r : Int64} (hr : va_Run p l e R s m args below meth c H locs cells slots 0 0 (F0 m pc ls st0) rest (va_Ql (fun r0 (_ : Unit) => r0 = r) (zz_B D (zw_9 q k C) (zw_9 q k C2) H.size) (va_A (zw_9 q k C) H.size) a) (va_A (zw_9 q k C) H.size)) (hP : va_P D vwCl (zw_9 q k C ++ zw_10 q2 k2 S) H) (hD : va_D A (zw_9 q k C ++ zw_10 q2 k2 S)) (hS : va_S A s.heap H locs) (hA : ∀ q, s.heap.size ≤ q → A q) (kk : ∀ (H1 : Heap) (locs1 : List Loc), va_P D vwCl (zw_9 q k C2 ++ zw_10 q2 k2 S) H1 → va_D A (zw_9 q k C2 ++ zw_10 q2 k2 S) → va_S A s.heap H1 locs1 → W p l e R s m args below meth c H1 locs1 cells slots Q (F0 m (pc + 3) ls (.long r :: rest))) : W p l e R s m args below meth c H locs cells slots Q (F0 m pc ls st0) := by
  have e := rp_app (zw_9 q k C2) (zw_9 q k C) (zw_10 q2 k2 S) [] rfl
  simp only [List.nil_append, List.append_nil, List.length_nil] at e
  refine zz_jl hr hP hD hS hA (List.range' 0 (zw_9 q k C).length) (rg9 q k C _) rfl (fun H1 locs1 h1 h2 h3 => kk H1 locs1 ?_ ?_ h3)
  · rw [e] at h1; exact h1
  · rw [e] at h2; exact h2
theorem lw_c10l {r : Int64} (hr : va_Run p l e R s m args below meth c H locs cells slots 0 0 (F0 m pc ls st0) rest (va_Ql (fun r0 (_ : Unit) => r0 = r) (zz_B D (zw_10 q2 k2 S) (zw_10 q2 k2 S2) H.size) (va_A (zw_10 q2 k2 S) H.size) a) (va_A (zw_10 q2 k2 S) H.size)) (hP : va_P D vwCl (zw_9 q k C ++ zw_10 q2 k2 S) H) (hD : va_D A (zw_9 q k C ++ zw_10 q2 k2 S)) (hS : va_S A s.heap H locs) (hA : ∀ q, s.heap.size ≤ q → A q) (kk : ∀ (H1 : Heap) (locs1 : List Loc), va_P D vwCl (zw_9 q k C ++ zw_10 q2 k2 S2) H1 → va_D A (zw_9 q k C ++ zw_10 q2 k2 S2) → va_S A s.heap H1 locs1 → W p l e R s m args below meth c H1 locs1 cells slots Q (F0 m (pc + 3) ls (.long r :: rest))) : W p l e R s m args below meth c H locs cells slots Q (F0 m pc ls st0) := by
  have e := rp_app (zw_10 q2 k2 S2) (zw_10 q2 k2 S) [] (zw_9 q k C) rfl
  simp only [List.nil_append, List.append_nil, List.length_nil] at e
  refine zz_jl hr hP hD hS hA (List.range' (zw_9 q k C).length (zw_10 q2 k2 S).length) (rg10 q q2 k k2 C S) rfl (fun H1 locs1 h1 h2 h3 => kk H1 locs1 ?_ ?_ h3)
  · rw [e] at h1; exact h1
  · rw [e] at h2; exact h2
end LC
