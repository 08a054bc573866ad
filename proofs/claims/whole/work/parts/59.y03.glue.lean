def zz_ZT (n : String) (N : Nat) (f : Nat → Int32) (t : Nat) (A : Nat → Prop) (U : State) (H : Heap) : Prop := va_Z "CatBeat" n "[I" (.ref t) A U H ∧ va_T .int t N (fun j => .int (f j)) A U H
def zz_EX (tb : Nat → Nat) (A : Nat → Prop) (U : State) (H : Heap) : Prop :=
  va_Nw (.methodLinkNest "CatBeat$Missed" 22 yX9_isEither "CatBeat") U ∧ zz_ZT "TEXT_LIMITS" 3 zz_T0 (tb 0) A U H ∧ zz_ZT "MOST_OF_SETTING" 4 zz_T1 (tb 1) A U H ∧ zz_ZT "DIGESTED_MOMENTS" 4 zz_T2 (tb 2) A U H
theorem zz_ZT.to {n : String} {N : Nat} {f : Nat → Int32} {t : Nat} {A B : Nat → Prop} {s U : State} {H : Heap} {locs : List Loc} (h : zz_ZT n N f t A s s.heap) (hS : va_S A s.heap H locs) (hU : U.heap = H) (hvm : s.vm.Alike U.vm) (hB : ∀ q, B q → A q) : zz_ZT n N f t B U U.heap := by
  rw [hU]
  exact ⟨((h.1.kept hS.2.1).narrow hB).moved hvm, ((h.2.kept hS.2.1).narrow hB).moved hvm⟩
theorem zz_EX.to {tb : Nat → Nat} {A B : Nat → Prop} {s U : State} {H : Heap} {locs : List Loc} (h : zz_EX tb A s s.heap) (hS : va_S A s.heap H locs) (hU : U.heap = H) (hW : s.WarmedH U.vm) (hB : ∀ q, B q → A q) : zz_EX tb B U U.heap :=
  ⟨va_Nw.warmM hW h.1, h.2.1.to hS hU hW.alike hB, h.2.2.1.to hS hU hW.alike hB, h.2.2.2.to hS hU hW.alike hB⟩
theorem zz_ZT.cg {n : String} {N : Nat} {f : Nat → Int32} {t : Nat} {A : Nat → Prop} {U V : State} (hv : U.vm.Alike V.vm) (hh : V.heap = U.heap) (h : zz_ZT n N f t A U U.heap) : zz_ZT n N f t A V V.heap := by
  rw [hh]
  exact ⟨h.1.moved hv, h.2.moved hv⟩
/-! a method's contract: its world before and behind, its answer -/
def zz_Pre (D : va_G) (tb : Nat → Nat) (tys : List (ClassId × FieldType)) (ws : va_W) (sz : Nat) (U : State) : Prop := U.heap.size = sz ∧ va_P D vwCl ws U.heap ∧ va_K D vwCl tys U ∧ va_D (fun _ => True) ws ∧ zz_EX tb (va_A ws sz) U U.heap
abbrev zz_B (D : va_G) (ws ws' : va_W) (sz : Nat) : Unit → State → Prop := fun _ t => va_P D vwCl ws' t.heap ∧ va_D (va_A ws sz) ws'
def zz_Mi (l : Launch) (y : MethodName) (wm : List Cond) (rm : Room) (D : va_G) (tb : Nat → Nat) (tys : List (ClassId × FieldType)) (as : List Value) (ws ws' : va_W) (r : Int32) : Prop := ∀ sz : Nat, Met l y wm rm (va_Pc as (zz_Pre D tb tys ws sz)) (va_Qi (fun r0 (_ : Unit) => r0 = r) (zz_B D ws ws' sz) (va_A ws sz)) 0 0 (va_A ws sz)
def zz_Ml (l : Launch) (y : MethodName) (wm : List Cond) (rm : Room) (D : va_G) (tb : Nat → Nat) (tys : List (ClassId × FieldType)) (as : List Value) (ws ws' : va_W) (r : Int64) : Prop := ∀ sz : Nat, Met l y wm rm (va_Pc as (zz_Pre D tb tys ws sz)) (va_Ql (fun r0 (_ : Unit) => r0 = r) (zz_B D ws ws' sz) (va_A ws sz)) 0 0 (va_A ws sz)
def zz_Mv (l : Launch) (y : MethodName) (wm : List Cond) (rm : Room) (D : va_G) (tb : Nat → Nat) (tys : List (ClassId × FieldType)) (as : List Value) (ws ws' : va_W) : Prop := ∀ sz : Nat, Met l y wm rm (va_Pc as (zz_Pre D tb tys ws sz)) (va_Qv (fun (_ : Unit) => True) (zz_B D ws ws' sz) (va_A ws sz)) 0 0 (va_A ws sz)
section ZW
variable {l : Launch} {y : MethodName} {wm ws0 : List Cond} {rm : Room} {D : va_G} {tb : Nat → Nat} {tys : List (ClassId × FieldType)} {as : List Value} {ws ws' : va_W} {cc : ByteArray} {maxL : Nat}
theorem zz_ofi {r : Int32} (hy : plainName y.cls = true) (hw : wm = Cond.code y cc maxL (some .int) :: ws0) (hfit : (lg_sl as).length ≤ maxL)
    (body : ∀ (p : Program) (e : Env) (s : State) (m : MethodId) (args : Array Value) (below : List Frame) (meth : Method) (c : Code) (A : Nat → Prop) (Q : State → Prop), CallFix p m c cc maxL s args wm y.cls → va_K D vwCl tys s → (∀ q, s.heap.size ≤ q → A q) → zz_EX tb A s s.heap →
      (∀ (H : Heap) (locs : List Loc) (pc : Nat) (ls : Array Slot), decode cc pc = .ok (.ireturn, 1) → va_P D vwCl ws' H → va_D A ws' → va_S A s.heap H locs → W p l e rm s m args below meth c H locs 0 0 Q (F0 m pc ls [.int r])) →
      ∀ (H : Heap) (locs : List Loc), va_P D vwCl ws H → va_D A ws → va_S A s.heap H locs → ∀ ls : Array Slot, lv_has ls maxL (lv_args 0 as) → W p l e rm s m args below meth c H locs 0 0 Q (F0 m 0 ls [])) : zz_Mi l y wm rm D tb tys as ws ws' r := by
  intro sz
  refine Met.ofW (cc := cc) (maxL := maxL) (ret := some .int) hy hw ?_
  intro p e s m args below meth c s₁ B hml hv
  obtain ⟨rfl, hsz, hP, hK, hD0, hE⟩ := hv
  subst hsz
  rw [lg_entry_eq]
  exact body p e s m _ below meth c (va_A ws s.heap.size) _ ⟨B.exec, B.bytes, hml, findClass_of_methodNamed B.named, atoms_spec B.pre⟩ hK (fun q h => Or.inr h) hE (fun H locs pc ls hd h1 h2 h3 => W.iret (v := r) B.exec B.bytes B.returns (fun t ht _ => ⟨⟨r, (), rfl, rfl, by rw [ht]; exact h1, h2⟩, h3.F ht⟩) h3.2.2 hd B.notSynchronized) s.heap [] hP hD0.self va_S.rf _ (lv_entry as hfit)
theorem zz_ofz {r : Int32} (hy : plainName y.cls = true) (hw : wm = Cond.code y cc maxL (some .boolean) :: ws0) (hfit : (lg_sl as).length ≤ maxL)
    (body : ∀ (p : Program) (e : Env) (s : State) (m : MethodId) (args : Array Value) (below : List Frame) (meth : Method) (c : Code) (A : Nat → Prop) (Q : State → Prop), CallFix p m c cc maxL s args wm y.cls → va_K D vwCl tys s → (∀ q, s.heap.size ≤ q → A q) → zz_EX tb A s s.heap →
      (∀ (H : Heap) (locs : List Loc) (pc : Nat) (ls : Array Slot), narrow .boolean (.int r) = .int r → decode cc pc = .ok (.ireturn, 1) → va_P D vwCl ws' H → va_D A ws' → va_S A s.heap H locs → W p l e rm s m args below meth c H locs 0 0 Q (F0 m pc ls [.int r])) →
      ∀ (H : Heap) (locs : List Loc), va_P D vwCl ws H → va_D A ws → va_S A s.heap H locs → ∀ ls : Array Slot, lv_has ls maxL (lv_args 0 as) → W p l e rm s m args below meth c H locs 0 0 Q (F0 m 0 ls [])) : zz_Mi l y wm rm D tb tys as ws ws' r := by
  intro sz
  refine Met.ofW (cc := cc) (maxL := maxL) (ret := some .boolean) hy hw ?_
  intro p e s m args below meth c s₁ B hml hv
  obtain ⟨rfl, hsz, hP, hK, hD0, hE⟩ := hv
  subst hsz
  rw [lg_entry_eq]
  exact body p e s m _ below meth c (va_A ws s.heap.size) _ ⟨B.exec, B.bytes, hml, findClass_of_methodNamed B.named, atoms_spec B.pre⟩ hK (fun q h => Or.inr h) hE (fun H locs pc ls hn hd h1 h2 h3 => W.zret (v := r) B.exec B.bytes B.returns hn (fun t ht _ => ⟨⟨r, (), rfl, rfl, by rw [ht]; exact h1, h2⟩, h3.F ht⟩) h3.2.2 hd B.notSynchronized) s.heap [] hP hD0.self va_S.rf _ (lv_entry as hfit)
theorem zz_ofl {r : Int64} (hy : plainName y.cls = true) (hw : wm = Cond.code y cc maxL (some .long) :: ws0) (hfit : (lg_sl as).length ≤ maxL)
    (body : ∀ (p : Program) (e : Env) (s : State) (m : MethodId) (args : Array Value) (below : List Frame) (meth : Method) (c : Code) (A : Nat → Prop) (Q : State → Prop), CallFix p m c cc maxL s args wm y.cls → va_K D vwCl tys s → (∀ q, s.heap.size ≤ q → A q) → zz_EX tb A s s.heap →
      (∀ (H : Heap) (locs : List Loc) (pc : Nat) (ls : Array Slot), decode cc pc = .ok (.lreturn, 1) → va_P D vwCl ws' H → va_D A ws' → va_S A s.heap H locs → W p l e rm s m args below meth c H locs 0 0 Q (F0 m pc ls [.long r])) →
      ∀ (H : Heap) (locs : List Loc), va_P D vwCl ws H → va_D A ws → va_S A s.heap H locs → ∀ ls : Array Slot, lv_has ls maxL (lv_args 0 as) → W p l e rm s m args below meth c H locs 0 0 Q (F0 m 0 ls [])) : zz_Ml l y wm rm D tb tys as ws ws' r := by
  intro sz
  refine Met.ofW (cc := cc) (maxL := maxL) (ret := some .long) hy hw ?_
  intro p e s m args below meth c s₁ B hml hv
  obtain ⟨rfl, hsz, hP, hK, hD0, hE⟩ := hv
  subst hsz
  rw [lg_entry_eq]
  exact body p e s m _ below meth c (va_A ws s.heap.size) _ ⟨B.exec, B.bytes, hml, findClass_of_methodNamed B.named, atoms_spec B.pre⟩ hK (fun q h => Or.inr h) hE (fun H locs pc ls hd h1 h2 h3 => W.lret (v := r) B.exec B.bytes B.returns (fun t ht _ => ⟨⟨r, (), rfl, rfl, by rw [ht]; exact h1, h2⟩, h3.F ht⟩) h3.2.2 hd B.notSynchronized) s.heap [] hP hD0.self va_S.rf _ (lv_entry as hfit)
theorem zz_ofv (hy : plainName y.cls = true) (hw : wm = Cond.code y cc maxL none :: ws0) (hfit : (lg_sl as).length ≤ maxL)
    (body : ∀ (p : Program) (e : Env) (s : State) (m : MethodId) (args : Array Value) (below : List Frame) (meth : Method) (c : Code) (A : Nat → Prop) (Q : State → Prop), CallFix p m c cc maxL s args wm y.cls → va_K D vwCl tys s → (∀ q, s.heap.size ≤ q → A q) → zz_EX tb A s s.heap →
      (∀ (H : Heap) (locs : List Loc) (pc : Nat) (ls : Array Slot), decode cc pc = .ok (.return_, 1) → va_P D vwCl ws' H → va_D A ws' → va_S A s.heap H locs → W p l e rm s m args below meth c H locs 0 0 Q (F0 m pc ls [])) →
      ∀ (H : Heap) (locs : List Loc), va_P D vwCl ws H → va_D A ws → va_S A s.heap H locs → ∀ ls : Array Slot, lv_has ls maxL (lv_args 0 as) → W p l e rm s m args below meth c H locs 0 0 Q (F0 m 0 ls [])) : zz_Mv l y wm rm D tb tys as ws ws' := by
  intro sz
  refine Met.ofW (cc := cc) (maxL := maxL) (ret := none) hy hw ?_
  intro p e s m args below meth c s₁ B hml hv
  obtain ⟨rfl, hsz, hP, hK, hD0, hE⟩ := hv
  subst hsz
  rw [lg_entry_eq]
  exact body p e s m _ below meth c (va_A ws s.heap.size) _ ⟨B.exec, B.bytes, hml, findClass_of_methodNamed B.named, atoms_spec B.pre⟩ hK (fun q h => Or.inr h) hE (fun H locs pc ls hd h1 h2 h3 => W.vret B.exec B.bytes B.returns (fun t ht _ => ⟨⟨(), rfl, trivial, by rw [ht]; exact h1, h2⟩, h3.F ht⟩) h3.2.2 hd B.notSynchronized) s.heap [] hP hD0.self va_S.rf _ (lv_entry as hfit)
end ZW
/-! the frame: some cells of a world are replaced, at their own addresses -/
def zz_rp : va_W → List Nat → va_W → va_W
  | ws, i :: is, x :: xs => zz_rp (ws.set i x) is xs
  | ws, [], _ => ws
  | ws, _ :: _, [] => ws
theorem zz_rp_key : ∀ (is : List Nat) (xs ws : va_W) (k : Nat) (x : Nat × va_E), (zz_rp ws is xs)[k]? = some x → (∃ j : Nat, is[j]? = some k ∧ xs[j]? = some x) ∨ ((k ∉ is ∨ is.length ≠ xs.length) ∧ ws[k]? = some x)
  | [], xs, ws, k, x, h => Or.inr ⟨Or.inl List.not_mem_nil, by simpa [zz_rp] using h⟩
  | i :: is, [], ws, k, x, h => Or.inr ⟨Or.inr (by simp), by simpa [zz_rp] using h⟩
  | i :: is, x0 :: xs, ws, k, x, h => by
    rcases zz_rp_key is xs (ws.set i x0) k x (by simpa [zz_rp] using h) with ⟨j, h1, h2⟩ | ⟨h1, h2⟩
    · exact Or.inl ⟨j + 1, by simpa using h1, by simpa using h2⟩
    · by_cases hk : k = i
      · subst hk
        have hl : k < ws.length := by
          have := (List.getElem?_eq_some_iff.mp h2).1
          simpa using this
        rw [List.getElem?_set_self hl] at h2
        exact Or.inl ⟨0, rfl, by simpa using h2⟩
      · rw [List.getElem?_set_ne (Ne.symm hk)] at h2
        refine Or.inr ⟨?_, h2⟩
        rcases h1 with h1 | h1
        · exact Or.inl (by simp [hk, h1])
        · exact Or.inr (by simpa using h1)
theorem zz_pick {ws wc : va_W} {isC : List Nat} (hC : isC.map (fun i => ws[i]?) = wc.map some) {k : Nat} {q : Nat × va_E} (hk : wc[k]? = some q) : ∃ i, isC[k]? = some i ∧ ws[i]? = some q := by
  have h1 : (isC.map (fun i => ws[i]?))[k]? = some (some q) := by rw [hC, List.getElem?_map, hk]; rfl
  rw [List.getElem?_map] at h1
  cases hi : isC[k]? with
  | none => rw [hi] at h1; cases h1
  | some i => rw [hi] at h1; exact ⟨i, rfl, Option.some.inj h1⟩
theorem zz_rpj {A : Nat → Prop} {D : va_G} {cl : List vw_C} {ws wc w1 : va_W} {H H1 : Heap} (hP : va_P D cl ws H) (hD : va_D A ws) (isC : List Nat) (hC : isC.map (fun i => ws[i]?) = wc.map some) (had : w1.map Prod.fst = wc.map Prod.fst)
    (hk : ∀ q : Nat, q < H.size → ¬ va_A wc H.size q → H1[q]? = H[q]?) (hP1 : va_P D cl w1 H1) : va_P D cl (zz_rp ws isC w1) H1 ∧ va_D A (zz_rp ws isC w1) := by
  have hlen : isC.length = w1.length := by
    have e1 := congrArg List.length hC
    have e2 := congrArg List.length had
    simp only [List.length_map] at e1 e2
    omega
  have adr : ∀ (j : Nat) (x : Nat × va_E), w1[j]? = some x → ∃ y : Nat × va_E, wc[j]? = some y ∧ y.1 = x.1 := by
    intro j x hj
    have h1 : (w1.map Prod.fst)[j]? = some x.1 := by rw [List.getElem?_map, hj]; rfl
    rw [had, List.getElem?_map] at h1
    cases hy : wc[j]? with
    | none => rw [hy] at h1; cases h1
    | some y => rw [hy] at h1; exact ⟨y, rfl, Option.some.inj h1⟩
  have key : ∀ (k : Nat) (x : Nat × va_E), (zz_rp ws isC w1)[k]? = some x → ∃ y : Nat × va_E, ws[k]? = some y ∧ y.1 = x.1 := by
    intro k x hx
    rcases zz_rp_key isC w1 ws k x hx with ⟨j, h1, h2⟩ | ⟨-, h2⟩
    · obtain ⟨y, h3, h4⟩ := adr j x h2
      obtain ⟨i, h5, h6⟩ := zz_pick hC h3
      rw [h1] at h5
      cases h5
      exact ⟨y, h6, h4⟩
    · exact ⟨x, h2, rfl⟩
  refine ⟨fun k x hx => ?_, ?_, ?_⟩
  · rcases zz_rp_key isC w1 ws k x hx with ⟨j, h1, h2⟩ | ⟨h1, h2⟩
    · exact hP1 j x h2
    · rcases h1 with h1 | h1
      · refine (hP k x h2).kept (hk x.1 (hP k x h2).lt fun h => ?_)
        rcases h with ⟨k2, e, h⟩ | h
        · obtain ⟨j, h3, h4⟩ := zz_pick hC h
          have hij := hD.1 k j x (x.1, e) h2 h4 rfl
          subst hij
          exact h1 (List.mem_of_getElem? h3)
        · exact absurd (hP k x h2).lt (Nat.not_lt.mpr h)
      · exact absurd hlen h1
  · intro i j x y hi hj hxy
    obtain ⟨x0, h1, h2⟩ := key i x hi
    obtain ⟨y0, h3, h4⟩ := key j y hj
    exact hD.1 i j x0 y0 h1 h3 (h2.trans (hxy.trans h4.symm))
  · intro k x hx
    obtain ⟨x0, h1, h2⟩ := key k x hx
    rw [← h2]
    exact hD.2 k x0 h1
section ZC
variable {p : Program} {l : Launch} {e : Env} {R : Room} {s : State} {m : MethodId} {args : Array Value} {below : List Frame} {meth : Method} {c : Code} {H : Heap} {locs : List Loc} {cells slots : Nat} {Q : State → Prop}
variable {D : va_G} {tb : Nat → Nat} {tys tysc : List (ClassId × FieldType)} {as : List Value} {ws wc w1 : va_W} {A : Nat → Prop} {pc : Nat} {ls : Array Slot} {rest st0 : List Value} {a : Array Value}
theorem zz_blind (as : List Value) (sz : Nat) : FrameBlind (va_Pc as (zz_Pre D tb tys ws sz)) := by
  intro a U g mk h
  obtain ⟨h0, h1, h2, h3, h4, h5, h6, h7, h8⟩ := h
  exact ⟨h0, h1, h2, va_K.moved (u := U) (U := U.calling g mk a) (Vm.Alike.refl U.vm) h3, h4, va_Nw.same rfl rfl h5, h6.cg (V := U.calling g mk a) (Vm.Alike.refl U.vm) rfl, h7.cg (V := U.calling g mk a) (Vm.Alike.refl U.vm) rfl, h8.cg (V := U.calling g mk a) (Vm.Alike.refl U.vm) rfl⟩
theorem zz_pre {as : List Value} (hK : va_K D vwCl tys s) (hP : va_P D vwCl ws H) (hD : va_D A ws) (hS : va_S A s.heap H locs) (hA : ∀ q, s.heap.size ≤ q → A q) (hE : zz_EX tb A s s.heap) (isC isK : List Nat) (hC : isC.map (fun i => ws[i]?) = wc.map some) (hn : va_nd isC = true) (hKs : isK.filterMap (fun i => tys[i]?) = tysc) (U : State) (hU : U.heap = H) (hW : s.WarmedH U.vm) : va_Pc as (zz_Pre D tb tysc wc H.size) as.toArray U := by
  refine ⟨rfl, by rw [hU], ?_, va_K.moved hW.alike (hK.sub isK hKs), (hD.sub isC hn hC).weaken (fun _ _ _ _ => trivial), hE.to hS hU hW (va_free hD hS hA isC hC)⟩
  rw [hU]
  intro k x hx
  obtain ⟨i, -, h2⟩ := zz_pick hC hx
  exact hP i x h2
theorem zz_preS {as : List Value} (hK : va_K D vwCl tys s) (hP : va_P D vwCl ws H) (hD : va_D A ws) (hS : va_S A s.heap H locs) (hA : ∀ q, s.heap.size ≤ q → A q) (hE : zz_EX tb A s s.heap) (isC isK : List Nat) (hC : isC.map (fun i => ws[i]?) = wc.map some) (hn : va_nd isC = true) (hKs : isK.filterMap (fun i => tys[i]?) = tysc) : PreS s H (va_Pc as (zz_Pre D tb tysc wc H.size)) as :=
  ⟨zz_blind as H.size, fun U hU hW => zz_pre hK hP hD hS hA hE isC isK hC hn hKs U hU hW⟩
theorem zz_preV {b : Nat} {C : String} {as : List Value} (hK : va_K D vwCl tys s) (hP : va_P D vwCl ws H) (hD : va_D A ws) (hS : va_S A s.heap H locs) (hA : ∀ q, s.heap.size ≤ q → A q) (hE : zz_EX tb A s s.heap) (isC isK : List Nat) (hC : isC.map (fun i => ws[i]?) = wc.map some) (hn : va_nd isC = true) (hKs : isK.filterMap (fun i => tys[i]?) = tysc) (q0 : Nat) {ci : Nat} {q : vw_C} {fs : List Value} (hcl : vwCl[ci]? = some q) (hC1 : q.1 = C) (he : ws[q0]? = some (b, .inr (ci, fs))) : PreV s H C b (va_Pc (.ref b :: as) (zz_Pre D tb tysc wc H.size)) as := by
  subst hC1
  exact ⟨zz_blind _ H.size, va_recv hK hP hcl he, fun U hU hW => zz_pre hK hP hD hS hA hE isC isK hC hn hKs U hU hW⟩
/-- behind a call: with its own cells put back -/
theorem zz_ji {r : Int32} {wc' : va_W} (hr : va_Run p l e R s m args below meth c H locs cells slots 0 0 (F0 m pc ls st0) rest (va_Qi (fun r0 (_ : Unit) => r0 = r) (zz_B D wc wc' H.size) (va_A wc H.size) a) (va_A wc H.size)) (hP : va_P D vwCl ws H) (hD : va_D A ws) (hS : va_S A s.heap H locs) (hA : ∀ q, s.heap.size ≤ q → A q) (isC : List Nat) (hC : isC.map (fun i => ws[i]?) = wc.map some) (had : wc'.map Prod.fst = wc.map Prod.fst)
    (kk : ∀ (H1 : Heap) (locs1 : List Loc), va_P D vwCl (zz_rp ws isC wc') H1 → va_D A (zz_rp ws isC wc') → va_S A s.heap H1 locs1 → W p l e R s m args below meth c H1 locs1 cells slots Q (F0 m (pc + 3) ls (.int r :: rest))) : W p l e R s m args below meth c H locs cells slots Q (F0 m pc ls st0) := by
  have hFc := va_free hD hS hA isC hC
  refine va_calli hr hS (fun q _ h => hFc q h) hFc (fun r0 u t H1 locs1 ht hvm hw hB hz hk hS1 => ?_)
  subst hw
  obtain ⟨hP1, -⟩ := hB
  rw [ht] at hP1
  obtain ⟨g1, g2⟩ := zz_rpj hP hD isC hC had hk hP1
  exact kk H1 locs1 g1 g2 hS1
theorem zz_jl {r : Int64} {wc' : va_W} (hr : va_Run p l e R s m args below meth c H locs cells slots 0 0 (F0 m pc ls st0) rest (va_Ql (fun r0 (_ : Unit) => r0 = r) (zz_B D wc wc' H.size) (va_A wc H.size) a) (va_A wc H.size)) (hP : va_P D vwCl ws H) (hD : va_D A ws) (hS : va_S A s.heap H locs) (hA : ∀ q, s.heap.size ≤ q → A q) (isC : List Nat) (hC : isC.map (fun i => ws[i]?) = wc.map some) (had : wc'.map Prod.fst = wc.map Prod.fst)
    (kk : ∀ (H1 : Heap) (locs1 : List Loc), va_P D vwCl (zz_rp ws isC wc') H1 → va_D A (zz_rp ws isC wc') → va_S A s.heap H1 locs1 → W p l e R s m args below meth c H1 locs1 cells slots Q (F0 m (pc + 3) ls (.long r :: rest))) : W p l e R s m args below meth c H locs cells slots Q (F0 m pc ls st0) := by
  have hFc := va_free hD hS hA isC hC
  refine va_calll hr hS (fun q _ h => hFc q h) hFc (fun r0 u t H1 locs1 ht hvm hw hB hz hk hS1 => ?_)
  subst hw
  obtain ⟨hP1, -⟩ := hB
  rw [ht] at hP1
  obtain ⟨g1, g2⟩ := zz_rpj hP hD isC hC had hk hP1
  exact kk H1 locs1 g1 g2 hS1
theorem zz_jv {wc' : va_W} (hr : va_Run p l e R s m args below meth c H locs cells slots 0 0 (F0 m pc ls st0) rest (va_Qv (fun (_ : Unit) => True) (zz_B D wc wc' H.size) (va_A wc H.size) a) (va_A wc H.size)) (hP : va_P D vwCl ws H) (hD : va_D A ws) (hS : va_S A s.heap H locs) (hA : ∀ q, s.heap.size ≤ q → A q) (isC : List Nat) (hC : isC.map (fun i => ws[i]?) = wc.map some) (had : wc'.map Prod.fst = wc.map Prod.fst)
    (kk : ∀ (H1 : Heap) (locs1 : List Loc), va_P D vwCl (zz_rp ws isC wc') H1 → va_D A (zz_rp ws isC wc') → va_S A s.heap H1 locs1 → W p l e R s m args below meth c H1 locs1 cells slots Q (F0 m (pc + 3) ls rest)) : W p l e R s m args below meth c H locs cells slots Q (F0 m pc ls st0) := by
  have hFc := va_free hD hS hA isC hC
  refine va_callv hr hS (fun q _ h => hFc q h) hFc (fun u t H1 locs1 ht hvm hw hB hz hk hS1 => ?_)
  obtain ⟨hP1, -⟩ := hB
  rw [ht] at hP1
  obtain ⟨g1, g2⟩ := zz_rpj hP hD isC hC had hk hP1
  exact kk H1 locs1 g1 g2 hS1
/-- the same where the callee's world is the whole world -/
theorem zz_pre0 {as : List Value} (hK : va_K D vwCl tys s) (hP : va_P D vwCl ws H) (hD : va_D A ws) (hS : va_S A s.heap H locs) (hA : ∀ q, s.heap.size ≤ q → A q) (hE : zz_EX tb A s s.heap) (U : State) (hU : U.heap = H) (hW : s.WarmedH U.vm) : va_Pc as (zz_Pre D tb tys ws H.size) as.toArray U := by
  refine ⟨rfl, by rw [hU], by rw [hU]; exact hP, va_K.moved hW.alike hK, hD.weaken (fun _ _ _ _ => trivial), hE.to hS hU hW (fun q h => ?_)⟩
  rcases h with ⟨k, e, h⟩ | h
  · exact hD.2 k _ h
  · exact hA q (Nat.le_trans hS.1 h)
theorem zz_pre0V {b : Nat} {C : String} {as : List Value} (hK : va_K D vwCl tys s) (hP : va_P D vwCl ws H) (hD : va_D A ws) (hS : va_S A s.heap H locs) (hA : ∀ q, s.heap.size ≤ q → A q) (hE : zz_EX tb A s s.heap) (q0 : Nat) {ci : Nat} {q : vw_C} {fs : List Value} (hcl : vwCl[ci]? = some q) (hC1 : q.1 = C) (he : ws[q0]? = some (b, .inr (ci, fs))) : PreV s H C b (va_Pc (.ref b :: as) (zz_Pre D tb tys ws H.size)) as := by
  subst hC1
  exact ⟨zz_blind _ H.size, va_recv hK hP hcl he, fun U hU hW => zz_pre0 hK hP hD hS hA hE U hU hW⟩
theorem zz_fr0 (hD : va_D A ws) (hS : va_S A s.heap H locs) (hA : ∀ q, s.heap.size ≤ q → A q) : ∀ q, va_A ws H.size q → A q := by
  intro q h
  rcases h with ⟨k, e, h⟩ | h
  · exact hD.2 k _ h
  · exact hA q (Nat.le_trans hS.1 h)
theorem zz_ji0 {r : Int32} {ws' : va_W} (hr : va_Run p l e R s m args below meth c H locs cells slots 0 0 (F0 m pc ls st0) rest (va_Qi (fun r0 (_ : Unit) => r0 = r) (zz_B D ws ws' H.size) (va_A ws H.size) a) (va_A ws H.size)) (hD : va_D A ws) (hS : va_S A s.heap H locs) (hA : ∀ q, s.heap.size ≤ q → A q)
    (kk : ∀ (H1 : Heap) (locs1 : List Loc), va_P D vwCl ws' H1 → va_D A ws' → va_S A s.heap H1 locs1 → W p l e R s m args below meth c H1 locs1 cells slots Q (F0 m (pc + 3) ls (.int r :: rest))) : W p l e R s m args below meth c H locs cells slots Q (F0 m pc ls st0) := by
  have hFc := zz_fr0 hD hS hA
  refine va_calli hr hS (fun q _ h => hFc q h) hFc (fun r0 u t H1 locs1 ht hvm hw hB hz hk hS1 => ?_)
  subst hw
  obtain ⟨hP1, hD1⟩ := hB
  rw [ht] at hP1
  exact kk H1 locs1 hP1 (hD1.weaken (fun k q _ h => hFc q.1 h)) hS1
theorem zz_jl0 {r : Int64} {ws' : va_W} (hr : va_Run p l e R s m args below meth c H locs cells slots 0 0 (F0 m pc ls st0) rest (va_Ql (fun r0 (_ : Unit) => r0 = r) (zz_B D ws ws' H.size) (va_A ws H.size) a) (va_A ws H.size)) (hD : va_D A ws) (hS : va_S A s.heap H locs) (hA : ∀ q, s.heap.size ≤ q → A q)
    (kk : ∀ (H1 : Heap) (locs1 : List Loc), va_P D vwCl ws' H1 → va_D A ws' → va_S A s.heap H1 locs1 → W p l e R s m args below meth c H1 locs1 cells slots Q (F0 m (pc + 3) ls (.long r :: rest))) : W p l e R s m args below meth c H locs cells slots Q (F0 m pc ls st0) := by
  have hFc := zz_fr0 hD hS hA
  refine va_calll hr hS (fun q _ h => hFc q h) hFc (fun r0 u t H1 locs1 ht hvm hw hB hz hk hS1 => ?_)
  subst hw
  obtain ⟨hP1, hD1⟩ := hB
  rw [ht] at hP1
  exact kk H1 locs1 hP1 (hD1.weaken (fun k q _ h => hFc q.1 h)) hS1
theorem zz_jv0 {ws' : va_W} (hr : va_Run p l e R s m args below meth c H locs cells slots 0 0 (F0 m pc ls st0) rest (va_Qv (fun (_ : Unit) => True) (zz_B D ws ws' H.size) (va_A ws H.size) a) (va_A ws H.size)) (hD : va_D A ws) (hS : va_S A s.heap H locs) (hA : ∀ q, s.heap.size ≤ q → A q)
    (kk : ∀ (H1 : Heap) (locs1 : List Loc), va_P D vwCl ws' H1 → va_D A ws' → va_S A s.heap H1 locs1 → W p l e R s m args below meth c H1 locs1 cells slots Q (F0 m (pc + 3) ls rest)) : W p l e R s m args below meth c H locs cells slots Q (F0 m pc ls st0) := by
  have hFc := zz_fr0 hD hS hA
  refine va_callv hr hS (fun q _ h => hFc q h) hFc (fun u t H1 locs1 ht hvm hw hB hz hk hS1 => ?_)
  obtain ⟨hP1, hD1⟩ := hB
  rw [ht] at hP1
  exact kk H1 locs1 hP1 (hD1.weaken (fun k q _ h => hFc q.1 h)) hS1
/-- the top of the stack under another name -/
theorem zz_ti {x y : Int32} (h : y = x) (k : W p l e R s m args below meth c H locs cells slots Q (F0 m pc ls (.int y :: rest))) : W p l e R s m args below meth c H locs cells slots Q (F0 m pc ls (.int x :: rest)) := h ▸ k
theorem zz_tl {x y : Int64} (h : y = x) (k : W p l e R s m args below meth c H locs cells slots Q (F0 m pc ls (.long y :: rest))) : W p l e R s m args below meth c H locs cells slots Q (F0 m pc ls (.long x :: rest)) := h ▸ k
end ZC
