section LG
variable {p : Program} {l : Launch} {e : Env} {s : State} {m : MethodId} {below : List Frame} {meth : Method} {c : Code} {b L : Nat} {xs : Nat → Int32} {D : va_G} {tb : Nat → Nat} {q : Nat → Nat} {k : Nat → ClassId} {q2 : Nat → Nat} {k2 : Nat → ClassId} {F i : Nat}
set_option maxHeartbeats 4000000 in
set_option maxRecDepth 100000 in
theorem lc_type (X : lw_cx p l e s m below meth c b L xs D tb q k q2 k2 F i) (next : lw_go p l e s m below meth c b L xs D tb q k q2 k2 F i 1155) : lw_go p l e s m below meth c b L xs D tb q k q2 k2 F i 188 := by
  intro C S R h H locs hP hD hS ls hl
  obtain ⟨hfx, hK, hE, hX, hbl, hF, j0, j1, j2, j3, j4, j5⟩ := X
  obtain ⟨hx, hb, hml, hown, hts⟩ := id hfx
  have hA : ∀ a : Nat, s.heap.size ≤ a → lwA s a := fun _ h => h
  have hbA : ¬ lwA s b := Nat.not_le.mpr hbl
  obtain ⟨r, C2, S2, e9, e10, R2, h2, -⟩ := pr_type F (xs (nI i + 1).toNatClampNeg) (xs (nI i + 2).toNatClampNeg) R h hF
  refine lv_aload_n hx hb dL_law_188 rfl (lv_at hl 1 rfl) ?_
  refine lv_aload_n hx hb dL_law_189 rfl (lv_at hl 0 rfl) ?_
  refine lv_iload_n hx hb dL_law_190 rfl (lv_at hl 3 rfl) ?_
  refine lv_iconst (v := 1) hx hb dL_law_191 (by decide) ?_
  refine lv_iadd hx hb dL_law_192 ?_
  refine va_sld hx hb hX hbl hbA hS j1 dL_law_193 ?_
  refine lv_aload_n hx hb dL_law_194 rfl (lv_at hl 0 rfl) ?_
  refine lv_iload_n hx hb dL_law_195 rfl (lv_at hl 3 rfl) ?_
  refine lv_iconst (v := 2) hx hb dL_law_196 (by decide) ?_
  refine lv_iadd hx hb dL_law_197 ?_
  refine va_sld hx hb hX hbl hbA hS j2 dL_law_198 ?_
  refine lw_c9i (va_runV (As := [.int (xs (nI i + 1).toNatClampNeg), .int (xs (nI i + 2).toNatClampNeg)]) (rest := []) hfx (zc_X9_type l D tb q k F (xs (nI i + 1).toNatClampNeg) (xs (nI i + 2).toNatClampNeg) C r C2 e9 H.size) (cwV 2 hts gL_law_X9_type rfl rfl rfl (by decide +kernel) ⟨Nat.le_of_ble_eq_true rfl, Nat.le_of_ble_eq_true rfl⟩) (la_p9 hK hP hD hS hA hE) rfl rfl hl.1 rfl (lv_room (Nat.le_of_ble_eq_true rfl)) dL_law_199 ⟨Nat.le_of_ble_eq_true rfl, Nat.le_of_ble_eq_true rfl⟩) hP hD hS hA (fun H locs hP hD hS => ?_)
  refine lv_aload_n hx hb dL_law_202 rfl (lv_at hl 2 rfl) ?_
  refine lv_aload_n hx hb dL_law_203 rfl (lv_at hl 0 rfl) ?_
  refine lv_iload_n hx hb dL_law_204 rfl (lv_at hl 3 rfl) ?_
  refine lv_iconst (v := 1) hx hb dL_law_205 (by decide) ?_
  refine lv_iadd hx hb dL_law_206 ?_
  refine va_sld hx hb hX hbl hbA hS j1 dL_law_207 ?_
  refine lv_aload_n hx hb dL_law_208 rfl (lv_at hl 0 rfl) ?_
  refine lv_iload_n hx hb dL_law_209 rfl (lv_at hl 3 rfl) ?_
  refine lv_iconst (v := 2) hx hb dL_law_210 (by decide) ?_
  refine lv_iadd hx hb dL_law_211 ?_
  refine va_sld hx hb hX hbl hbA hS j2 dL_law_212 ?_
  refine lw_c10i (va_runV (As := [.int (xs (nI i + 1).toNatClampNeg), .int (xs (nI i + 2).toNatClampNeg)]) (rest := [.int r]) hfx (zc_X10_type l D tb q2 k2 F (xs (nI i + 1).toNatClampNeg) (xs (nI i + 2).toNatClampNeg) S r S2 e10 H.size) (cwV 2 hts gL_law_X10_type rfl rfl rfl (by decide +kernel) ⟨Nat.le_of_ble_eq_true rfl, Nat.le_of_ble_eq_true rfl⟩) (la_p10 hK hP hD hS hA hE) rfl rfl hl.1 rfl (lv_room (Nat.le_of_ble_eq_true rfl)) dL_law_213 ⟨Nat.le_of_ble_eq_true rfl, Nat.le_of_ble_eq_true rfl⟩) hP hD hS hA (fun H locs hP hD hS => ?_)
  refine lv_icmp_eq (tgt := 1155) hx hb dL_law_216 (by decide) (fun _ => ?_) (fun z => absurd rfl z)
  exact next C2 S2 R2 h2 H locs hP hD hS ls hl
set_option maxHeartbeats 4000000 in
set_option maxRecDepth 100000 in
theorem lc_wipe (X : lw_cx p l e s m below meth c b L xs D tb q k q2 k2 F i) (next : lw_go p l e s m below meth c b L xs D tb q k q2 k2 F i 1155) : lw_go p l e s m below meth c b L xs D tb q k q2 k2 F i 221 := by
  intro C S R h H locs hP hD hS ls hl
  obtain ⟨hfx, hK, hE, hX, hbl, hF, j0, j1, j2, j3, j4, j5⟩ := X
  obtain ⟨hx, hb, hml, hown, hts⟩ := id hfx
  have hA : ∀ a : Nat, s.heap.size ≤ a → lwA s a := fun _ h => h
  have hbA : ¬ lwA s b := Nat.not_le.mpr hbl
  obtain ⟨r, C2, S2, e9, e10, R2, h2, -⟩ := pr_wipe F (xs (nI i + 1).toNatClampNeg) R h hF
  refine lv_aload_n hx hb dL_law_221 rfl (lv_at hl 1 rfl) ?_
  refine lv_aload_n hx hb dL_law_222 rfl (lv_at hl 0 rfl) ?_
  refine lv_iload_n hx hb dL_law_223 rfl (lv_at hl 3 rfl) ?_
  refine lv_iconst (v := 1) hx hb dL_law_224 (by decide) ?_
  refine lv_iadd hx hb dL_law_225 ?_
  refine va_sld hx hb hX hbl hbA hS j1 dL_law_226 ?_
  refine lw_c9i (va_runV (As := [.int (xs (nI i + 1).toNatClampNeg)]) (rest := []) hfx (zc_X9_wipe l D tb q k F (xs (nI i + 1).toNatClampNeg) C r C2 e9 H.size) (cwV 1 hts gL_law_X9_wipe rfl rfl rfl (by decide +kernel) ⟨Nat.le_of_ble_eq_true rfl, Nat.le_of_ble_eq_true rfl⟩) (la_p9 hK hP hD hS hA hE) rfl rfl hl.1 rfl (lv_room (Nat.le_of_ble_eq_true rfl)) dL_law_227 ⟨Nat.le_of_ble_eq_true rfl, Nat.le_of_ble_eq_true rfl⟩) hP hD hS hA (fun H locs hP hD hS => ?_)
  refine lv_aload_n hx hb dL_law_230 rfl (lv_at hl 2 rfl) ?_
  refine lv_aload_n hx hb dL_law_231 rfl (lv_at hl 0 rfl) ?_
  refine lv_iload_n hx hb dL_law_232 rfl (lv_at hl 3 rfl) ?_
  refine lv_iconst (v := 1) hx hb dL_law_233 (by decide) ?_
  refine lv_iadd hx hb dL_law_234 ?_
  refine va_sld hx hb hX hbl hbA hS j1 dL_law_235 ?_
  refine lw_c10i (va_runV (As := [.int (xs (nI i + 1).toNatClampNeg)]) (rest := [.int r]) hfx (zc_X10_wipe l D tb q2 k2 F (xs (nI i + 1).toNatClampNeg) S r S2 e10 H.size) (cwV 1 hts gL_law_X10_wipe rfl rfl rfl (by decide +kernel) ⟨Nat.le_of_ble_eq_true rfl, Nat.le_of_ble_eq_true rfl⟩) (la_p10 hK hP hD hS hA hE) rfl rfl hl.1 rfl (lv_room (Nat.le_of_ble_eq_true rfl)) dL_law_236 ⟨Nat.le_of_ble_eq_true rfl, Nat.le_of_ble_eq_true rfl⟩) hP hD hS hA (fun H locs hP hD hS => ?_)
  refine lv_icmp_eq (tgt := 1155) hx hb dL_law_239 (by decide) (fun _ => ?_) (fun z => absurd rfl z)
  exact next C2 S2 R2 h2 H locs hP hD hS ls hl
set_option maxHeartbeats 4000000 in
set_option maxRecDepth 100000 in
theorem lc_undo (X : lw_cx p l e s m below meth c b L xs D tb q k q2 k2 F i) (next : lw_go p l e s m below meth c b L xs D tb q k q2 k2 F i 1155) : lw_go p l e s m below meth c b L xs D tb q k q2 k2 F i 244 := by
  intro C S R h H locs hP hD hS ls hl
  obtain ⟨hfx, hK, hE, hX, hbl, hF, j0, j1, j2, j3, j4, j5⟩ := X
  obtain ⟨hx, hb, hml, hown, hts⟩ := id hfx
  have hA : ∀ a : Nat, s.heap.size ≤ a → lwA s a := fun _ h => h
  have hbA : ¬ lwA s b := Nat.not_le.mpr hbl
  obtain ⟨r, C2, S2, e9, e10, R2, h2, -⟩ := pr_undo F (xs (nI i + 1).toNatClampNeg) R h hF
  refine lv_aload_n hx hb dL_law_244 rfl (lv_at hl 1 rfl) ?_
  refine lv_aload_n hx hb dL_law_245 rfl (lv_at hl 0 rfl) ?_
  refine lv_iload_n hx hb dL_law_246 rfl (lv_at hl 3 rfl) ?_
  refine lv_iconst (v := 1) hx hb dL_law_247 (by decide) ?_
  refine lv_iadd hx hb dL_law_248 ?_
  refine va_sld hx hb hX hbl hbA hS j1 dL_law_249 ?_
  refine lw_c9i (va_runV (As := [.int (xs (nI i + 1).toNatClampNeg)]) (rest := []) hfx (zc_X9_undo l D tb q k F (xs (nI i + 1).toNatClampNeg) C r C2 e9 H.size) (cwV 1 hts gL_law_X9_undo rfl rfl rfl (by decide +kernel) ⟨Nat.le_of_ble_eq_true rfl, Nat.le_of_ble_eq_true rfl⟩) (la_p9 hK hP hD hS hA hE) rfl rfl hl.1 rfl (lv_room (Nat.le_of_ble_eq_true rfl)) dL_law_250 ⟨Nat.le_of_ble_eq_true rfl, Nat.le_of_ble_eq_true rfl⟩) hP hD hS hA (fun H locs hP hD hS => ?_)
  refine lv_aload_n hx hb dL_law_253 rfl (lv_at hl 2 rfl) ?_
  refine lv_aload_n hx hb dL_law_254 rfl (lv_at hl 0 rfl) ?_
  refine lv_iload_n hx hb dL_law_255 rfl (lv_at hl 3 rfl) ?_
  refine lv_iconst (v := 1) hx hb dL_law_256 (by decide) ?_
  refine lv_iadd hx hb dL_law_257 ?_
  refine va_sld hx hb hX hbl hbA hS j1 dL_law_258 ?_
  refine lw_c10i (va_runV (As := [.int (xs (nI i + 1).toNatClampNeg)]) (rest := [.int r]) hfx (zc_X10_undo l D tb q2 k2 F (xs (nI i + 1).toNatClampNeg) S r S2 e10 H.size) (cwV 1 hts gL_law_X10_undo rfl rfl rfl (by decide +kernel) ⟨Nat.le_of_ble_eq_true rfl, Nat.le_of_ble_eq_true rfl⟩) (la_p10 hK hP hD hS hA hE) rfl rfl hl.1 rfl (lv_room (Nat.le_of_ble_eq_true rfl)) dL_law_259 ⟨Nat.le_of_ble_eq_true rfl, Nat.le_of_ble_eq_true rfl⟩) hP hD hS hA (fun H locs hP hD hS => ?_)
  refine lv_icmp_eq (tgt := 1155) hx hb dL_law_262 (by decide) (fun _ => ?_) (fun z => absurd rfl z)
  exact next C2 S2 R2 h2 H locs hP hD hS ls hl
set_option maxHeartbeats 4000000 in
set_option maxRecDepth 100000 in
theorem lc_fault (X : lw_cx p l e s m below meth c b L xs D tb q k q2 k2 F i) (next : lw_go p l e s m below meth c b L xs D tb q k q2 k2 F i 1155) : lw_go p l e s m below meth c b L xs D tb q k q2 k2 F i 267 := by
  intro C S R h H locs hP hD hS ls hl
  obtain ⟨hfx, hK, hE, hX, hbl, hF, j0, j1, j2, j3, j4, j5⟩ := X
  obtain ⟨hx, hb, hml, hown, hts⟩ := id hfx
  have hA : ∀ a : Nat, s.heap.size ≤ a → lwA s a := fun _ h => h
  have hbA : ¬ lwA s b := Nat.not_le.mpr hbl
  obtain ⟨r, S2, e9, e10, R2, h2⟩ := pq_fault F (xs (nI i + 1).toNatClampNeg) R h hF
  refine lv_aload_n hx hb dL_law_267 rfl (lv_at hl 1 rfl) ?_
  refine lv_aload_n hx hb dL_law_268 rfl (lv_at hl 0 rfl) ?_
  refine lv_iload_n hx hb dL_law_269 rfl (lv_at hl 3 rfl) ?_
  refine lv_iconst (v := 1) hx hb dL_law_270 (by decide) ?_
  refine lv_iadd hx hb dL_law_271 ?_
  refine va_sld hx hb hX hbl hbA hS j1 dL_law_272 ?_
  refine lw_c9i (va_runV (As := [.int (xs (nI i + 1).toNatClampNeg)]) (rest := []) hfx (zc_X9_fault l D tb q k F (xs (nI i + 1).toNatClampNeg) C r  e9 H.size) (cwV 1 hts gL_law_X9_fault rfl rfl rfl (by decide +kernel) ⟨Nat.le_of_ble_eq_true rfl, Nat.le_of_ble_eq_true rfl⟩) (la_p9 hK hP hD hS hA hE) rfl rfl hl.1 rfl (lv_room (Nat.le_of_ble_eq_true rfl)) dL_law_273 ⟨Nat.le_of_ble_eq_true rfl, Nat.le_of_ble_eq_true rfl⟩) hP hD hS hA (fun H locs hP hD hS => ?_)
  refine lv_aload_n hx hb dL_law_276 rfl (lv_at hl 2 rfl) ?_
  refine lv_aload_n hx hb dL_law_277 rfl (lv_at hl 0 rfl) ?_
  refine lv_iload_n hx hb dL_law_278 rfl (lv_at hl 3 rfl) ?_
  refine lv_iconst (v := 1) hx hb dL_law_279 (by decide) ?_
  refine lv_iadd hx hb dL_law_280 ?_
  refine va_sld hx hb hX hbl hbA hS j1 dL_law_281 ?_
  refine lw_c10i (va_runV (As := [.int (xs (nI i + 1).toNatClampNeg)]) (rest := [.int r]) hfx (zc_X10_fault l D tb q2 k2 F (xs (nI i + 1).toNatClampNeg) S r S2 e10 H.size) (cwV 1 hts gL_law_X10_fault rfl rfl rfl (by decide +kernel) ⟨Nat.le_of_ble_eq_true rfl, Nat.le_of_ble_eq_true rfl⟩) (la_p10 hK hP hD hS hA hE) rfl rfl hl.1 rfl (lv_room (Nat.le_of_ble_eq_true rfl)) dL_law_282 ⟨Nat.le_of_ble_eq_true rfl, Nat.le_of_ble_eq_true rfl⟩) hP hD hS hA (fun H locs hP hD hS => ?_)
  refine lv_icmp_eq (tgt := 1155) hx hb dL_law_285 (by decide) (fun _ => ?_) (fun z => absurd rfl z)
  exact next C S2 R2 h2 H locs hP hD hS ls hl
set_option maxHeartbeats 4000000 in
set_option maxRecDepth 100000 in
theorem lc_cell (X : lw_cx p l e s m below meth c b L xs D tb q k q2 k2 F i) (next : lw_go p l e s m below meth c b L xs D tb q k q2 k2 F i 1155) : lw_go p l e s m below meth c b L xs D tb q k q2 k2 F i 290 := by
  intro C S R h H locs hP hD hS ls hl
  obtain ⟨hfx, hK, hE, hX, hbl, hF, j0, j1, j2, j3, j4, j5⟩ := X
  obtain ⟨hx, hb, hml, hown, hts⟩ := id hfx
  have hA : ∀ a : Nat, s.heap.size ≤ a → lwA s a := fun _ h => h
  have hbA : ¬ lwA s b := Nat.not_le.mpr hbl
  obtain ⟨r, S2, e9, e10, R2, h2⟩ := pq_cell F (xs (nI i + 1).toNatClampNeg) R h hF
  refine lv_aload_n hx hb dL_law_290 rfl (lv_at hl 1 rfl) ?_
  refine lv_aload_n hx hb dL_law_291 rfl (lv_at hl 0 rfl) ?_
  refine lv_iload_n hx hb dL_law_292 rfl (lv_at hl 3 rfl) ?_
  refine lv_iconst (v := 1) hx hb dL_law_293 (by decide) ?_
  refine lv_iadd hx hb dL_law_294 ?_
  refine va_sld hx hb hX hbl hbA hS j1 dL_law_295 ?_
  refine lw_c9i (va_runV (As := [.int (xs (nI i + 1).toNatClampNeg)]) (rest := []) hfx (zc_X9_cell l D tb q k F (xs (nI i + 1).toNatClampNeg) C r  e9 H.size) (cwV 1 hts gL_law_X9_cell rfl rfl rfl (by decide +kernel) ⟨Nat.le_of_ble_eq_true rfl, Nat.le_of_ble_eq_true rfl⟩) (la_p9 hK hP hD hS hA hE) rfl rfl hl.1 rfl (lv_room (Nat.le_of_ble_eq_true rfl)) dL_law_296 ⟨Nat.le_of_ble_eq_true rfl, Nat.le_of_ble_eq_true rfl⟩) hP hD hS hA (fun H locs hP hD hS => ?_)
  refine lv_aload_n hx hb dL_law_299 rfl (lv_at hl 2 rfl) ?_
  refine lv_aload_n hx hb dL_law_300 rfl (lv_at hl 0 rfl) ?_
  refine lv_iload_n hx hb dL_law_301 rfl (lv_at hl 3 rfl) ?_
  refine lv_iconst (v := 1) hx hb dL_law_302 (by decide) ?_
  refine lv_iadd hx hb dL_law_303 ?_
  refine va_sld hx hb hX hbl hbA hS j1 dL_law_304 ?_
  refine lw_c10i (va_runV (As := [.int (xs (nI i + 1).toNatClampNeg)]) (rest := [.int r]) hfx (zc_X10_cell l D tb q2 k2 F (xs (nI i + 1).toNatClampNeg) S r S2 e10 H.size) (cwV 1 hts gL_law_X10_cell rfl rfl rfl (by decide +kernel) ⟨Nat.le_of_ble_eq_true rfl, Nat.le_of_ble_eq_true rfl⟩) (la_p10 hK hP hD hS hA hE) rfl rfl hl.1 rfl (lv_room (Nat.le_of_ble_eq_true rfl)) dL_law_305 ⟨Nat.le_of_ble_eq_true rfl, Nat.le_of_ble_eq_true rfl⟩) hP hD hS hA (fun H locs hP hD hS => ?_)
  refine lv_icmp_eq (tgt := 1155) hx hb dL_law_308 (by decide) (fun _ => ?_) (fun z => absurd rfl z)
  exact next C S2 R2 h2 H locs hP hD hS ls hl
set_option maxHeartbeats 4000000 in
set_option maxRecDepth 100000 in
theorem lc_beat (X : lw_cx p l e s m below meth c b L xs D tb q k q2 k2 F i) (next : lw_go p l e s m below meth c b L xs D tb q k q2 k2 F i 1155) : lw_go p l e s m below meth c b L xs D tb q k q2 k2 F i 313 := by
  intro C S R h H locs hP hD hS ls hl
  obtain ⟨hfx, hK, hE, hX, hbl, hF, j0, j1, j2, j3, j4, j5⟩ := X
  obtain ⟨hx, hb, hml, hown, hts⟩ := id hfx
  have hA : ∀ a : Nat, s.heap.size ≤ a → lwA s a := fun _ h => h
  have hbA : ¬ lwA s b := Nat.not_le.mpr hbl
  obtain ⟨r, S2, e9, e10, R2, h2⟩ := pq_beat F (xs (nI i + 1).toNatClampNeg) R h hF
  refine lv_aload_n hx hb dL_law_313 rfl (lv_at hl 1 rfl) ?_
  refine lv_aload_n hx hb dL_law_314 rfl (lv_at hl 0 rfl) ?_
  refine lv_iload_n hx hb dL_law_315 rfl (lv_at hl 3 rfl) ?_
  refine lv_iconst (v := 1) hx hb dL_law_316 (by decide) ?_
  refine lv_iadd hx hb dL_law_317 ?_
  refine va_sld hx hb hX hbl hbA hS j1 dL_law_318 ?_
  refine lw_c9i (va_runV (As := [.int (xs (nI i + 1).toNatClampNeg)]) (rest := []) hfx (zc_X9_beat l D tb q k F (xs (nI i + 1).toNatClampNeg) C r  e9 H.size) (cwV 1 hts gL_law_X9_beat rfl rfl rfl (by decide +kernel) ⟨Nat.le_of_ble_eq_true rfl, Nat.le_of_ble_eq_true rfl⟩) (la_p9 hK hP hD hS hA hE) rfl rfl hl.1 rfl (lv_room (Nat.le_of_ble_eq_true rfl)) dL_law_319 ⟨Nat.le_of_ble_eq_true rfl, Nat.le_of_ble_eq_true rfl⟩) hP hD hS hA (fun H locs hP hD hS => ?_)
  refine lv_aload_n hx hb dL_law_322 rfl (lv_at hl 2 rfl) ?_
  refine lv_aload_n hx hb dL_law_323 rfl (lv_at hl 0 rfl) ?_
  refine lv_iload_n hx hb dL_law_324 rfl (lv_at hl 3 rfl) ?_
  refine lv_iconst (v := 1) hx hb dL_law_325 (by decide) ?_
  refine lv_iadd hx hb dL_law_326 ?_
  refine va_sld hx hb hX hbl hbA hS j1 dL_law_327 ?_
  refine lw_c10i (va_runV (As := [.int (xs (nI i + 1).toNatClampNeg)]) (rest := [.int r]) hfx (zc_X10_beat l D tb q2 k2 F (xs (nI i + 1).toNatClampNeg) S r S2 e10 H.size) (cwV 1 hts gL_law_X10_beat rfl rfl rfl (by decide +kernel) ⟨Nat.le_of_ble_eq_true rfl, Nat.le_of_ble_eq_true rfl⟩) (la_p10 hK hP hD hS hA hE) rfl rfl hl.1 rfl (lv_room (Nat.le_of_ble_eq_true rfl)) dL_law_328 ⟨Nat.le_of_ble_eq_true rfl, Nat.le_of_ble_eq_true rfl⟩) hP hD hS hA (fun H locs hP hD hS => ?_)
  refine lv_icmp_eq (tgt := 1155) hx hb dL_law_331 (by decide) (fun _ => ?_) (fun z => absurd rfl z)
  exact next C S2 R2 h2 H locs hP hD hS ls hl
set_option maxHeartbeats 4000000 in
set_option maxRecDepth 100000 in
theorem lc_thief (X : lw_cx p l e s m below meth c b L xs D tb q k q2 k2 F i) (next : lw_go p l e s m below meth c b L xs D tb q k q2 k2 F i 1155) : lw_go p l e s m below meth c b L xs D tb q k q2 k2 F i 336 := by
  intro C S R h H locs hP hD hS ls hl
  obtain ⟨hfx, hK, hE, hX, hbl, hF, j0, j1, j2, j3, j4, j5⟩ := X
  obtain ⟨hx, hb, hml, hown, hts⟩ := id hfx
  have hA : ∀ a : Nat, s.heap.size ≤ a → lwA s a := fun _ h => h
  have hbA : ¬ lwA s b := Nat.not_le.mpr hbl
  obtain ⟨r, S2, e9, e10, R2, h2⟩ := pq_thief F (xs (nI i + 1).toNatClampNeg) (xs (nI i + 2).toNatClampNeg) R h hF
  refine lv_aload_n hx hb dL_law_336 rfl (lv_at hl 1 rfl) ?_
  refine lv_aload_n hx hb dL_law_337 rfl (lv_at hl 0 rfl) ?_
  refine lv_iload_n hx hb dL_law_338 rfl (lv_at hl 3 rfl) ?_
  refine lv_iconst (v := 1) hx hb dL_law_339 (by decide) ?_
  refine lv_iadd hx hb dL_law_340 ?_
  refine va_sld hx hb hX hbl hbA hS j1 dL_law_341 ?_
  refine lv_aload_n hx hb dL_law_342 rfl (lv_at hl 0 rfl) ?_
  refine lv_iload_n hx hb dL_law_343 rfl (lv_at hl 3 rfl) ?_
  refine lv_iconst (v := 2) hx hb dL_law_344 (by decide) ?_
  refine lv_iadd hx hb dL_law_345 ?_
  refine va_sld hx hb hX hbl hbA hS j2 dL_law_346 ?_
  refine lw_c9i (va_runV (As := [.int (xs (nI i + 1).toNatClampNeg), .int (xs (nI i + 2).toNatClampNeg)]) (rest := []) hfx (zc_X9_thief l D tb q k F (xs (nI i + 1).toNatClampNeg) (xs (nI i + 2).toNatClampNeg) C r  e9 H.size) (cwV 2 hts gL_law_X9_thief rfl rfl rfl (by decide +kernel) ⟨Nat.le_of_ble_eq_true rfl, Nat.le_of_ble_eq_true rfl⟩) (la_p9 hK hP hD hS hA hE) rfl rfl hl.1 rfl (lv_room (Nat.le_of_ble_eq_true rfl)) dL_law_347 ⟨Nat.le_of_ble_eq_true rfl, Nat.le_of_ble_eq_true rfl⟩) hP hD hS hA (fun H locs hP hD hS => ?_)
  refine lv_aload_n hx hb dL_law_350 rfl (lv_at hl 2 rfl) ?_
  refine lv_aload_n hx hb dL_law_351 rfl (lv_at hl 0 rfl) ?_
  refine lv_iload_n hx hb dL_law_352 rfl (lv_at hl 3 rfl) ?_
  refine lv_iconst (v := 1) hx hb dL_law_353 (by decide) ?_
  refine lv_iadd hx hb dL_law_354 ?_
  refine va_sld hx hb hX hbl hbA hS j1 dL_law_355 ?_
  refine lv_aload_n hx hb dL_law_356 rfl (lv_at hl 0 rfl) ?_
  refine lv_iload_n hx hb dL_law_357 rfl (lv_at hl 3 rfl) ?_
  refine lv_iconst (v := 2) hx hb dL_law_358 (by decide) ?_
  refine lv_iadd hx hb dL_law_359 ?_
  refine va_sld hx hb hX hbl hbA hS j2 dL_law_360 ?_
  refine lw_c10i (va_runV (As := [.int (xs (nI i + 1).toNatClampNeg), .int (xs (nI i + 2).toNatClampNeg)]) (rest := [.int r]) hfx (zc_X10_thief l D tb q2 k2 F (xs (nI i + 1).toNatClampNeg) (xs (nI i + 2).toNatClampNeg) S r S2 e10 H.size) (cwV 2 hts gL_law_X10_thief rfl rfl rfl (by decide +kernel) ⟨Nat.le_of_ble_eq_true rfl, Nat.le_of_ble_eq_true rfl⟩) (la_p10 hK hP hD hS hA hE) rfl rfl hl.1 rfl (lv_room (Nat.le_of_ble_eq_true rfl)) dL_law_361 ⟨Nat.le_of_ble_eq_true rfl, Nat.le_of_ble_eq_true rfl⟩) hP hD hS hA (fun H locs hP hD hS => ?_)
  refine lv_icmp_eq (tgt := 1155) hx hb dL_law_364 (by decide) (fun _ => ?_) (fun z => absurd rfl z)
  exact next C S2 R2 h2 H locs hP hD hS ls hl
set_option maxHeartbeats 4000000 in
set_option maxRecDepth 100000 in
theorem lc_set (X : lw_cx p l e s m below meth c b L xs D tb q k q2 k2 F i) (next : lw_go p l e s m below meth c b L xs D tb q k q2 k2 F i 1155) : lw_go p l e s m below meth c b L xs D tb q k q2 k2 F i 369 := by
  intro C S R h H locs hP hD hS ls hl
  obtain ⟨hfx, hK, hE, hX, hbl, hF, j0, j1, j2, j3, j4, j5⟩ := X
  obtain ⟨hx, hb, hml, hown, hts⟩ := id hfx
  have hA : ∀ a : Nat, s.heap.size ≤ a → lwA s a := fun _ h => h
  have hbA : ¬ lwA s b := Nat.not_le.mpr hbl
  obtain ⟨r, C2, S2, e9, e10, R2, h2, -⟩ := pr_set F (xs (nI i + 1).toNatClampNeg) (xs (nI i + 2).toNatClampNeg) R h hF
  refine lv_aload_n hx hb dL_law_369 rfl (lv_at hl 1 rfl) ?_
  refine lv_aload_n hx hb dL_law_370 rfl (lv_at hl 0 rfl) ?_
  refine lv_iload_n hx hb dL_law_371 rfl (lv_at hl 3 rfl) ?_
  refine lv_iconst (v := 1) hx hb dL_law_372 (by decide) ?_
  refine lv_iadd hx hb dL_law_373 ?_
  refine va_sld hx hb hX hbl hbA hS j1 dL_law_374 ?_
  refine lv_aload_n hx hb dL_law_375 rfl (lv_at hl 0 rfl) ?_
  refine lv_iload_n hx hb dL_law_376 rfl (lv_at hl 3 rfl) ?_
  refine lv_iconst (v := 2) hx hb dL_law_377 (by decide) ?_
  refine lv_iadd hx hb dL_law_378 ?_
  refine va_sld hx hb hX hbl hbA hS j2 dL_law_379 ?_
  refine lw_c9i (va_runV (As := [.int (xs (nI i + 1).toNatClampNeg), .int (xs (nI i + 2).toNatClampNeg)]) (rest := []) hfx (zc_X9_set l D tb q k F (xs (nI i + 1).toNatClampNeg) (xs (nI i + 2).toNatClampNeg) C r C2 e9 H.size) (cwV 2 hts gL_law_X9_set rfl rfl rfl (by decide +kernel) ⟨Nat.le_of_ble_eq_true rfl, Nat.le_of_ble_eq_true rfl⟩) (la_p9 hK hP hD hS hA hE) rfl rfl hl.1 rfl (lv_room (Nat.le_of_ble_eq_true rfl)) dL_law_380 ⟨Nat.le_of_ble_eq_true rfl, Nat.le_of_ble_eq_true rfl⟩) hP hD hS hA (fun H locs hP hD hS => ?_)
  refine lv_aload_n hx hb dL_law_383 rfl (lv_at hl 2 rfl) ?_
  refine lv_aload_n hx hb dL_law_384 rfl (lv_at hl 0 rfl) ?_
  refine lv_iload_n hx hb dL_law_385 rfl (lv_at hl 3 rfl) ?_
  refine lv_iconst (v := 1) hx hb dL_law_386 (by decide) ?_
  refine lv_iadd hx hb dL_law_387 ?_
  refine va_sld hx hb hX hbl hbA hS j1 dL_law_388 ?_
  refine lv_aload_n hx hb dL_law_389 rfl (lv_at hl 0 rfl) ?_
  refine lv_iload_n hx hb dL_law_390 rfl (lv_at hl 3 rfl) ?_
  refine lv_iconst (v := 2) hx hb dL_law_391 (by decide) ?_
  refine lv_iadd hx hb dL_law_392 ?_
  refine va_sld hx hb hX hbl hbA hS j2 dL_law_393 ?_
  refine lw_c10i (va_runV (As := [.int (xs (nI i + 1).toNatClampNeg), .int (xs (nI i + 2).toNatClampNeg)]) (rest := [.int r]) hfx (zc_X10_set l D tb q2 k2 F (xs (nI i + 1).toNatClampNeg) (xs (nI i + 2).toNatClampNeg) S r S2 e10 H.size) (cwV 2 hts gL_law_X10_set rfl rfl rfl (by decide +kernel) ⟨Nat.le_of_ble_eq_true rfl, Nat.le_of_ble_eq_true rfl⟩) (la_p10 hK hP hD hS hA hE) rfl rfl hl.1 rfl (lv_room (Nat.le_of_ble_eq_true rfl)) dL_law_394 ⟨Nat.le_of_ble_eq_true rfl, Nat.le_of_ble_eq_true rfl⟩) hP hD hS hA (fun H locs hP hD hS => ?_)
  refine lv_icmp_eq (tgt := 1155) hx hb dL_law_397 (by decide) (fun _ => ?_) (fun z => absurd rfl z)
  exact next C2 S2 R2 h2 H locs hP hD hS ls hl
set_option maxHeartbeats 4000000 in
set_option maxRecDepth 100000 in
theorem lc_at (X : lw_cx p l e s m below meth c b L xs D tb q k q2 k2 F i) (next : lw_go p l e s m below meth c b L xs D tb q k q2 k2 F i 1155) : lw_go p l e s m below meth c b L xs D tb q k q2 k2 F i 402 := by
  intro C S R h H locs hP hD hS ls hl
  obtain ⟨hfx, hK, hE, hX, hbl, hF, j0, j1, j2, j3, j4, j5⟩ := X
  obtain ⟨hx, hb, hml, hown, hts⟩ := id hfx
  have hA : ∀ a : Nat, s.heap.size ≤ a → lwA s a := fun _ h => h
  have hbA : ¬ lwA s b := Nat.not_le.mpr hbl
  obtain ⟨r, C2, S2, e9, e10, R2, h2, -⟩ := pr_at F (xs (nI i + 1).toNatClampNeg) R h hF
  refine lv_aload_n hx hb dL_law_402 rfl (lv_at hl 1 rfl) ?_
  refine lv_aload_n hx hb dL_law_403 rfl (lv_at hl 0 rfl) ?_
  refine lv_iload_n hx hb dL_law_404 rfl (lv_at hl 3 rfl) ?_
  refine lv_iconst (v := 1) hx hb dL_law_405 (by decide) ?_
  refine lv_iadd hx hb dL_law_406 ?_
  refine va_sld hx hb hX hbl hbA hS j1 dL_law_407 ?_
  refine lw_c9i (va_runV (As := [.int (xs (nI i + 1).toNatClampNeg)]) (rest := []) hfx (zc_X9_at l D tb q k F (xs (nI i + 1).toNatClampNeg) C r C2 e9 H.size) (cwV 1 hts gL_law_X9_at rfl rfl rfl (by decide +kernel) ⟨Nat.le_of_ble_eq_true rfl, Nat.le_of_ble_eq_true rfl⟩) (la_p9 hK hP hD hS hA hE) rfl rfl hl.1 rfl (lv_room (Nat.le_of_ble_eq_true rfl)) dL_law_408 ⟨Nat.le_of_ble_eq_true rfl, Nat.le_of_ble_eq_true rfl⟩) hP hD hS hA (fun H locs hP hD hS => ?_)
  refine lv_aload_n hx hb dL_law_411 rfl (lv_at hl 2 rfl) ?_
  refine lv_aload_n hx hb dL_law_412 rfl (lv_at hl 0 rfl) ?_
  refine lv_iload_n hx hb dL_law_413 rfl (lv_at hl 3 rfl) ?_
  refine lv_iconst (v := 1) hx hb dL_law_414 (by decide) ?_
  refine lv_iadd hx hb dL_law_415 ?_
  refine va_sld hx hb hX hbl hbA hS j1 dL_law_416 ?_
  refine lw_c10i (va_runV (As := [.int (xs (nI i + 1).toNatClampNeg)]) (rest := [.int r]) hfx (zc_X10_at l D tb q2 k2 F (xs (nI i + 1).toNatClampNeg) S r S2 e10 H.size) (cwV 1 hts gL_law_X10_at rfl rfl rfl (by decide +kernel) ⟨Nat.le_of_ble_eq_true rfl, Nat.le_of_ble_eq_true rfl⟩) (la_p10 hK hP hD hS hA hE) rfl rfl hl.1 rfl (lv_room (Nat.le_of_ble_eq_true rfl)) dL_law_417 ⟨Nat.le_of_ble_eq_true rfl, Nat.le_of_ble_eq_true rfl⟩) hP hD hS hA (fun H locs hP hD hS => ?_)
  refine lv_icmp_eq (tgt := 1155) hx hb dL_law_420 (by decide) (fun _ => ?_) (fun z => absurd rfl z)
  exact next C2 S2 R2 h2 H locs hP hD hS ls hl
set_option maxHeartbeats 4000000 in
set_option maxRecDepth 100000 in
theorem lc_sees (X : lw_cx p l e s m below meth c b L xs D tb q k q2 k2 F i) (next : lw_go p l e s m below meth c b L xs D tb q k q2 k2 F i 1155) : lw_go p l e s m below meth c b L xs D tb q k q2 k2 F i 425 := by
  intro C S R h H locs hP hD hS ls hl
  obtain ⟨hfx, hK, hE, hX, hbl, hF, j0, j1, j2, j3, j4, j5⟩ := X
  obtain ⟨hx, hb, hml, hown, hts⟩ := id hfx
  have hA : ∀ a : Nat, s.heap.size ≤ a → lwA s a := fun _ h => h
  have hbA : ¬ lwA s b := Nat.not_le.mpr hbl
  obtain ⟨r, C2, S2, e9, e10, R2, h2, -⟩ := pr_sees F (xs (nI i + 1).toNatClampNeg) (xs (nI i + 2).toNatClampNeg) R h hF
  refine lv_aload_n hx hb dL_law_425 rfl (lv_at hl 1 rfl) ?_
  refine lv_aload_n hx hb dL_law_426 rfl (lv_at hl 0 rfl) ?_
  refine lv_iload_n hx hb dL_law_427 rfl (lv_at hl 3 rfl) ?_
  refine lv_iconst (v := 1) hx hb dL_law_428 (by decide) ?_
  refine lv_iadd hx hb dL_law_429 ?_
  refine va_sld hx hb hX hbl hbA hS j1 dL_law_430 ?_
  refine lv_aload_n hx hb dL_law_431 rfl (lv_at hl 0 rfl) ?_
  refine lv_iload_n hx hb dL_law_432 rfl (lv_at hl 3 rfl) ?_
  refine lv_iconst (v := 2) hx hb dL_law_433 (by decide) ?_
  refine lv_iadd hx hb dL_law_434 ?_
  refine va_sld hx hb hX hbl hbA hS j2 dL_law_435 ?_
  refine lw_c9i (va_runV (As := [.int (xs (nI i + 1).toNatClampNeg), .int (xs (nI i + 2).toNatClampNeg)]) (rest := []) hfx (zc_X9_sees l D tb q k F (xs (nI i + 1).toNatClampNeg) (xs (nI i + 2).toNatClampNeg) C r C2 e9 H.size) (cwV 2 hts gL_law_X9_sees rfl rfl rfl (by decide +kernel) ⟨Nat.le_of_ble_eq_true rfl, Nat.le_of_ble_eq_true rfl⟩) (la_p9 hK hP hD hS hA hE) rfl rfl hl.1 rfl (lv_room (Nat.le_of_ble_eq_true rfl)) dL_law_436 ⟨Nat.le_of_ble_eq_true rfl, Nat.le_of_ble_eq_true rfl⟩) hP hD hS hA (fun H locs hP hD hS => ?_)
  refine lv_aload_n hx hb dL_law_439 rfl (lv_at hl 2 rfl) ?_
  refine lv_aload_n hx hb dL_law_440 rfl (lv_at hl 0 rfl) ?_
  refine lv_iload_n hx hb dL_law_441 rfl (lv_at hl 3 rfl) ?_
  refine lv_iconst (v := 1) hx hb dL_law_442 (by decide) ?_
  refine lv_iadd hx hb dL_law_443 ?_
  refine va_sld hx hb hX hbl hbA hS j1 dL_law_444 ?_
  refine lv_aload_n hx hb dL_law_445 rfl (lv_at hl 0 rfl) ?_
  refine lv_iload_n hx hb dL_law_446 rfl (lv_at hl 3 rfl) ?_
  refine lv_iconst (v := 2) hx hb dL_law_447 (by decide) ?_
  refine lv_iadd hx hb dL_law_448 ?_
  refine va_sld hx hb hX hbl hbA hS j2 dL_law_449 ?_
  refine lw_c10i (va_runV (As := [.int (xs (nI i + 1).toNatClampNeg), .int (xs (nI i + 2).toNatClampNeg)]) (rest := [.int r]) hfx (zc_X10_sees l D tb q2 k2 F (xs (nI i + 1).toNatClampNeg) (xs (nI i + 2).toNatClampNeg) S r S2 e10 H.size) (cwV 2 hts gL_law_X10_sees rfl rfl rfl (by decide +kernel) ⟨Nat.le_of_ble_eq_true rfl, Nat.le_of_ble_eq_true rfl⟩) (la_p10 hK hP hD hS hA hE) rfl rfl hl.1 rfl (lv_room (Nat.le_of_ble_eq_true rfl)) dL_law_450 ⟨Nat.le_of_ble_eq_true rfl, Nat.le_of_ble_eq_true rfl⟩) hP hD hS hA (fun H locs hP hD hS => ?_)
  refine lv_icmp_eq (tgt := 1155) hx hb dL_law_453 (by decide) (fun _ => ?_) (fun z => absurd rfl z)
  exact next C2 S2 R2 h2 H locs hP hD hS ls hl
set_option maxHeartbeats 4000000 in
set_option maxRecDepth 100000 in
theorem lc_seen (X : lw_cx p l e s m below meth c b L xs D tb q k q2 k2 F i) (next : lw_go p l e s m below meth c b L xs D tb q k q2 k2 F i 1155) : lw_go p l e s m below meth c b L xs D tb q k q2 k2 F i 458 := by
  intro C S R h H locs hP hD hS ls hl
  obtain ⟨hfx, hK, hE, hX, hbl, hF, j0, j1, j2, j3, j4, j5⟩ := X
  obtain ⟨hx, hb, hml, hown, hts⟩ := id hfx
  have hA : ∀ a : Nat, s.heap.size ≤ a → lwA s a := fun _ h => h
  have hbA : ¬ lwA s b := Nat.not_le.mpr hbl
  obtain ⟨r, C2, S2, e9, e10, R2, h2, -⟩ := pr_seen F (xs (nI i + 1).toNatClampNeg) (xs (nI i + 2).toNatClampNeg) R h hF
  refine lv_aload_n hx hb dL_law_458 rfl (lv_at hl 1 rfl) ?_
  refine lv_aload_n hx hb dL_law_459 rfl (lv_at hl 0 rfl) ?_
  refine lv_iload_n hx hb dL_law_460 rfl (lv_at hl 3 rfl) ?_
  refine lv_iconst (v := 1) hx hb dL_law_461 (by decide) ?_
  refine lv_iadd hx hb dL_law_462 ?_
  refine va_sld hx hb hX hbl hbA hS j1 dL_law_463 ?_
  refine lv_aload_n hx hb dL_law_464 rfl (lv_at hl 0 rfl) ?_
  refine lv_iload_n hx hb dL_law_465 rfl (lv_at hl 3 rfl) ?_
  refine lv_iconst (v := 2) hx hb dL_law_466 (by decide) ?_
  refine lv_iadd hx hb dL_law_467 ?_
  refine va_sld hx hb hX hbl hbA hS j2 dL_law_468 ?_
  refine lw_c9i (va_runV (As := [.int (xs (nI i + 1).toNatClampNeg), .int (xs (nI i + 2).toNatClampNeg)]) (rest := []) hfx (zc_X9_seen l D tb q k F (xs (nI i + 1).toNatClampNeg) (xs (nI i + 2).toNatClampNeg) C r C2 e9 H.size) (cwV 2 hts gL_law_X9_seen rfl rfl rfl (by decide +kernel) ⟨Nat.le_of_ble_eq_true rfl, Nat.le_of_ble_eq_true rfl⟩) (la_p9 hK hP hD hS hA hE) rfl rfl hl.1 rfl (lv_room (Nat.le_of_ble_eq_true rfl)) dL_law_469 ⟨Nat.le_of_ble_eq_true rfl, Nat.le_of_ble_eq_true rfl⟩) hP hD hS hA (fun H locs hP hD hS => ?_)
  refine lv_aload_n hx hb dL_law_472 rfl (lv_at hl 2 rfl) ?_
  refine lv_aload_n hx hb dL_law_473 rfl (lv_at hl 0 rfl) ?_
  refine lv_iload_n hx hb dL_law_474 rfl (lv_at hl 3 rfl) ?_
  refine lv_iconst (v := 1) hx hb dL_law_475 (by decide) ?_
  refine lv_iadd hx hb dL_law_476 ?_
  refine va_sld hx hb hX hbl hbA hS j1 dL_law_477 ?_
  refine lv_aload_n hx hb dL_law_478 rfl (lv_at hl 0 rfl) ?_
  refine lv_iload_n hx hb dL_law_479 rfl (lv_at hl 3 rfl) ?_
  refine lv_iconst (v := 2) hx hb dL_law_480 (by decide) ?_
  refine lv_iadd hx hb dL_law_481 ?_
  refine va_sld hx hb hX hbl hbA hS j2 dL_law_482 ?_
  refine lw_c10i (va_runV (As := [.int (xs (nI i + 1).toNatClampNeg), .int (xs (nI i + 2).toNatClampNeg)]) (rest := [.int r]) hfx (zc_X10_seen l D tb q2 k2 F (xs (nI i + 1).toNatClampNeg) (xs (nI i + 2).toNatClampNeg) S r S2 e10 H.size) (cwV 2 hts gL_law_X10_seen rfl rfl rfl (by decide +kernel) ⟨Nat.le_of_ble_eq_true rfl, Nat.le_of_ble_eq_true rfl⟩) (la_p10 hK hP hD hS hA hE) rfl rfl hl.1 rfl (lv_room (Nat.le_of_ble_eq_true rfl)) dL_law_483 ⟨Nat.le_of_ble_eq_true rfl, Nat.le_of_ble_eq_true rfl⟩) hP hD hS hA (fun H locs hP hD hS => ?_)
  refine lv_icmp_eq (tgt := 1155) hx hb dL_law_486 (by decide) (fun _ => ?_) (fun z => absurd rfl z)
  exact next C2 S2 R2 h2 H locs hP hD hS ls hl
set_option maxHeartbeats 4000000 in
set_option maxRecDepth 100000 in
theorem lc_takes (X : lw_cx p l e s m below meth c b L xs D tb q k q2 k2 F i) (next : lw_go p l e s m below meth c b L xs D tb q k q2 k2 F i 1155) : lw_go p l e s m below meth c b L xs D tb q k q2 k2 F i 491 := by
  intro C S R h H locs hP hD hS ls hl
  obtain ⟨hfx, hK, hE, hX, hbl, hF, j0, j1, j2, j3, j4, j5⟩ := X
  obtain ⟨hx, hb, hml, hown, hts⟩ := id hfx
  have hA : ∀ a : Nat, s.heap.size ≤ a → lwA s a := fun _ h => h
  have hbA : ¬ lwA s b := Nat.not_le.mpr hbl
  obtain ⟨r, C2, S2, e9, e10, R2, h2, -⟩ := pr_takes F (xs (nI i + 1).toNatClampNeg) R h hF
  refine lv_aload_n hx hb dL_law_491 rfl (lv_at hl 1 rfl) ?_
  refine lv_aload_n hx hb dL_law_492 rfl (lv_at hl 0 rfl) ?_
  refine lv_iload_n hx hb dL_law_493 rfl (lv_at hl 3 rfl) ?_
  refine lv_iconst (v := 1) hx hb dL_law_494 (by decide) ?_
  refine lv_iadd hx hb dL_law_495 ?_
  refine va_sld hx hb hX hbl hbA hS j1 dL_law_496 ?_
  refine lw_c9i (va_runV (As := [.int (xs (nI i + 1).toNatClampNeg)]) (rest := []) hfx (zc_X9_takes l D tb q k F (xs (nI i + 1).toNatClampNeg) C r C2 e9 H.size) (cwV 1 hts gL_law_X9_takes rfl rfl rfl (by decide +kernel) ⟨Nat.le_of_ble_eq_true rfl, Nat.le_of_ble_eq_true rfl⟩) (la_p9 hK hP hD hS hA hE) rfl rfl hl.1 rfl (lv_room (Nat.le_of_ble_eq_true rfl)) dL_law_497 ⟨Nat.le_of_ble_eq_true rfl, Nat.le_of_ble_eq_true rfl⟩) hP hD hS hA (fun H locs hP hD hS => ?_)
  refine lv_aload_n hx hb dL_law_500 rfl (lv_at hl 2 rfl) ?_
  refine lv_aload_n hx hb dL_law_501 rfl (lv_at hl 0 rfl) ?_
  refine lv_iload_n hx hb dL_law_502 rfl (lv_at hl 3 rfl) ?_
  refine lv_iconst (v := 1) hx hb dL_law_503 (by decide) ?_
  refine lv_iadd hx hb dL_law_504 ?_
  refine va_sld hx hb hX hbl hbA hS j1 dL_law_505 ?_
  refine lw_c10i (va_runV (As := [.int (xs (nI i + 1).toNatClampNeg)]) (rest := [.int r]) hfx (zc_X10_takes l D tb q2 k2 F (xs (nI i + 1).toNatClampNeg) S r S2 e10 H.size) (cwV 1 hts gL_law_X10_takes rfl rfl rfl (by decide +kernel) ⟨Nat.le_of_ble_eq_true rfl, Nat.le_of_ble_eq_true rfl⟩) (la_p10 hK hP hD hS hA hE) rfl rfl hl.1 rfl (lv_room (Nat.le_of_ble_eq_true rfl)) dL_law_506 ⟨Nat.le_of_ble_eq_true rfl, Nat.le_of_ble_eq_true rfl⟩) hP hD hS hA (fun H locs hP hD hS => ?_)
  refine lv_icmp_eq (tgt := 1155) hx hb dL_law_509 (by decide) (fun _ => ?_) (fun z => absurd rfl z)
  exact next C2 S2 R2 h2 H locs hP hD hS ls hl
set_option maxHeartbeats 4000000 in
set_option maxRecDepth 100000 in
theorem lc_safe (X : lw_cx p l e s m below meth c b L xs D tb q k q2 k2 F i) (next : lw_go p l e s m below meth c b L xs D tb q k q2 k2 F i 1155) : lw_go p l e s m below meth c b L xs D tb q k q2 k2 F i 514 := by
  intro C S R h H locs hP hD hS ls hl
  obtain ⟨hfx, hK, hE, hX, hbl, hF, j0, j1, j2, j3, j4, j5⟩ := X
  obtain ⟨hx, hb, hml, hown, hts⟩ := id hfx
  have hA : ∀ a : Nat, s.heap.size ≤ a → lwA s a := fun _ h => h
  have hbA : ¬ lwA s b := Nat.not_le.mpr hbl
  obtain ⟨r, C2, S2, e9, e10, R2, h2, -⟩ := pr_safe F (xs (nI i + 1).toNatClampNeg) R h hF
  refine lv_aload_n hx hb dL_law_514 rfl (lv_at hl 1 rfl) ?_
  refine lv_aload_n hx hb dL_law_515 rfl (lv_at hl 0 rfl) ?_
  refine lv_iload_n hx hb dL_law_516 rfl (lv_at hl 3 rfl) ?_
  refine lv_iconst (v := 1) hx hb dL_law_517 (by decide) ?_
  refine lv_iadd hx hb dL_law_518 ?_
  refine va_sld hx hb hX hbl hbA hS j1 dL_law_519 ?_
  refine lw_c9i (va_runV (As := [.int (xs (nI i + 1).toNatClampNeg)]) (rest := []) hfx (zc_X9_safe l D tb q k F (xs (nI i + 1).toNatClampNeg) C r C2 e9 H.size) (cwV 1 hts gL_law_X9_safe rfl rfl rfl (by decide +kernel) ⟨Nat.le_of_ble_eq_true rfl, Nat.le_of_ble_eq_true rfl⟩) (la_p9 hK hP hD hS hA hE) rfl rfl hl.1 rfl (lv_room (Nat.le_of_ble_eq_true rfl)) dL_law_520 ⟨Nat.le_of_ble_eq_true rfl, Nat.le_of_ble_eq_true rfl⟩) hP hD hS hA (fun H locs hP hD hS => ?_)
  refine lv_aload_n hx hb dL_law_523 rfl (lv_at hl 2 rfl) ?_
  refine lv_aload_n hx hb dL_law_524 rfl (lv_at hl 0 rfl) ?_
  refine lv_iload_n hx hb dL_law_525 rfl (lv_at hl 3 rfl) ?_
  refine lv_iconst (v := 1) hx hb dL_law_526 (by decide) ?_
  refine lv_iadd hx hb dL_law_527 ?_
  refine va_sld hx hb hX hbl hbA hS j1 dL_law_528 ?_
  refine lw_c10i (va_runV (As := [.int (xs (nI i + 1).toNatClampNeg)]) (rest := [.int r]) hfx (zc_X10_safe l D tb q2 k2 F (xs (nI i + 1).toNatClampNeg) S r S2 e10 H.size) (cwV 1 hts gL_law_X10_safe rfl rfl rfl (by decide +kernel) ⟨Nat.le_of_ble_eq_true rfl, Nat.le_of_ble_eq_true rfl⟩) (la_p10 hK hP hD hS hA hE) rfl rfl hl.1 rfl (lv_room (Nat.le_of_ble_eq_true rfl)) dL_law_529 ⟨Nat.le_of_ble_eq_true rfl, Nat.le_of_ble_eq_true rfl⟩) hP hD hS hA (fun H locs hP hD hS => ?_)
  refine lv_icmp_eq (tgt := 1155) hx hb dL_law_532 (by decide) (fun _ => ?_) (fun z => absurd rfl z)
  exact next C2 S2 R2 h2 H locs hP hD hS ls hl
set_option maxHeartbeats 4000000 in
set_option maxRecDepth 100000 in
theorem lc_lost (X : lw_cx p l e s m below meth c b L xs D tb q k q2 k2 F i) (next : lw_go p l e s m below meth c b L xs D tb q k q2 k2 F i 1155) : lw_go p l e s m below meth c b L xs D tb q k q2 k2 F i 537 := by
  intro C S R h H locs hP hD hS ls hl
  obtain ⟨hfx, hK, hE, hX, hbl, hF, j0, j1, j2, j3, j4, j5⟩ := X
  obtain ⟨hx, hb, hml, hown, hts⟩ := id hfx
  have hA : ∀ a : Nat, s.heap.size ≤ a → lwA s a := fun _ h => h
  have hbA : ¬ lwA s b := Nat.not_le.mpr hbl
  obtain ⟨r, C2, S2, e9, e10, R2, h2, -⟩ := pr_lost F  R h hF
  refine lv_aload_n hx hb dL_law_537 rfl (lv_at hl 1 rfl) ?_
  refine lw_c9i (va_runV (As := []) (rest := []) hfx (zc_X9_lost l D tb q k F  C r C2 e9 H.size) (cwV 0 hts gL_law_X9_lost rfl rfl rfl (by decide +kernel) ⟨Nat.le_of_ble_eq_true rfl, Nat.le_of_ble_eq_true rfl⟩) (la_p9 hK hP hD hS hA hE) rfl rfl hl.1 rfl (lv_room (Nat.le_of_ble_eq_true rfl)) dL_law_538 ⟨Nat.le_of_ble_eq_true rfl, Nat.le_of_ble_eq_true rfl⟩) hP hD hS hA (fun H locs hP hD hS => ?_)
  refine lv_aload_n hx hb dL_law_541 rfl (lv_at hl 2 rfl) ?_
  refine lw_c10i (va_runV (As := []) (rest := [.int r]) hfx (zc_X10_lost l D tb q2 k2 F  S r S2 e10 H.size) (cwV 0 hts gL_law_X10_lost rfl rfl rfl (by decide +kernel) ⟨Nat.le_of_ble_eq_true rfl, Nat.le_of_ble_eq_true rfl⟩) (la_p10 hK hP hD hS hA hE) rfl rfl hl.1 rfl (lv_room (Nat.le_of_ble_eq_true rfl)) dL_law_542 ⟨Nat.le_of_ble_eq_true rfl, Nat.le_of_ble_eq_true rfl⟩) hP hD hS hA (fun H locs hP hD hS => ?_)
  refine lv_icmp_eq (tgt := 1155) hx hb dL_law_545 (by decide) (fun _ => ?_) (fun z => absurd rfl z)
  exact next C2 S2 R2 h2 H locs hP hD hS ls hl
set_option maxHeartbeats 4000000 in
set_option maxRecDepth 100000 in
theorem lc_first (X : lw_cx p l e s m below meth c b L xs D tb q k q2 k2 F i) (next : lw_go p l e s m below meth c b L xs D tb q k q2 k2 F i 1155) : lw_go p l e s m below meth c b L xs D tb q k q2 k2 F i 550 := by
  intro C S R h H locs hP hD hS ls hl
  obtain ⟨hfx, hK, hE, hX, hbl, hF, j0, j1, j2, j3, j4, j5⟩ := X
  obtain ⟨hx, hb, hml, hown, hts⟩ := id hfx
  have hA : ∀ a : Nat, s.heap.size ≤ a → lwA s a := fun _ h => h
  have hbA : ¬ lwA s b := Nat.not_le.mpr hbl
  obtain ⟨r, C2, S2, e9, e10, R2, h2, -⟩ := pr_first F  R h hF
  refine lv_aload_n hx hb dL_law_550 rfl (lv_at hl 1 rfl) ?_
  refine lw_c9i (va_runV (As := []) (rest := []) hfx (zc_X9_first l D tb q k F  C r C2 e9 H.size) (cwV 0 hts gL_law_X9_first rfl rfl rfl (by decide +kernel) ⟨Nat.le_of_ble_eq_true rfl, Nat.le_of_ble_eq_true rfl⟩) (la_p9 hK hP hD hS hA hE) rfl rfl hl.1 rfl (lv_room (Nat.le_of_ble_eq_true rfl)) dL_law_551 ⟨Nat.le_of_ble_eq_true rfl, Nat.le_of_ble_eq_true rfl⟩) hP hD hS hA (fun H locs hP hD hS => ?_)
  refine lv_aload_n hx hb dL_law_554 rfl (lv_at hl 2 rfl) ?_
  refine lw_c10i (va_runV (As := []) (rest := [.int r]) hfx (zc_X10_first l D tb q2 k2 F  S r S2 e10 H.size) (cwV 0 hts gL_law_X10_first rfl rfl rfl (by decide +kernel) ⟨Nat.le_of_ble_eq_true rfl, Nat.le_of_ble_eq_true rfl⟩) (la_p10 hK hP hD hS hA hE) rfl rfl hl.1 rfl (lv_room (Nat.le_of_ble_eq_true rfl)) dL_law_555 ⟨Nat.le_of_ble_eq_true rfl, Nat.le_of_ble_eq_true rfl⟩) hP hD hS hA (fun H locs hP hD hS => ?_)
  refine lv_icmp_eq (tgt := 1155) hx hb dL_law_558 (by decide) (fun _ => ?_) (fun z => absurd rfl z)
  exact next C2 S2 R2 h2 H locs hP hD hS ls hl
set_option maxHeartbeats 4000000 in
set_option maxRecDepth 100000 in
theorem lc_spare (X : lw_cx p l e s m below meth c b L xs D tb q k q2 k2 F i) (next : lw_go p l e s m below meth c b L xs D tb q k q2 k2 F i 1155) : lw_go p l e s m below meth c b L xs D tb q k q2 k2 F i 563 := by
  intro C S R h H locs hP hD hS ls hl
  obtain ⟨hfx, hK, hE, hX, hbl, hF, j0, j1, j2, j3, j4, j5⟩ := X
  obtain ⟨hx, hb, hml, hown, hts⟩ := id hfx
  have hA : ∀ a : Nat, s.heap.size ≤ a → lwA s a := fun _ h => h
  have hbA : ¬ lwA s b := Nat.not_le.mpr hbl
  obtain ⟨r, C2, S2, e9, e10, R2, h2, -⟩ := pr_spare F  R h hF
  refine lv_aload_n hx hb dL_law_563 rfl (lv_at hl 1 rfl) ?_
  refine lw_c9i (va_runV (As := []) (rest := []) hfx (zc_X9_spare l D tb q k F  C r C2 e9 H.size) (cwV 0 hts gL_law_X9_spare rfl rfl rfl (by decide +kernel) ⟨Nat.le_of_ble_eq_true rfl, Nat.le_of_ble_eq_true rfl⟩) (la_p9 hK hP hD hS hA hE) rfl rfl hl.1 rfl (lv_room (Nat.le_of_ble_eq_true rfl)) dL_law_564 ⟨Nat.le_of_ble_eq_true rfl, Nat.le_of_ble_eq_true rfl⟩) hP hD hS hA (fun H locs hP hD hS => ?_)
  refine lv_aload_n hx hb dL_law_567 rfl (lv_at hl 2 rfl) ?_
  refine lw_c10i (va_runV (As := []) (rest := [.int r]) hfx (zc_X10_spare l D tb q2 k2 F  S r S2 e10 H.size) (cwV 0 hts gL_law_X10_spare rfl rfl rfl (by decide +kernel) ⟨Nat.le_of_ble_eq_true rfl, Nat.le_of_ble_eq_true rfl⟩) (la_p10 hK hP hD hS hA hE) rfl rfl hl.1 rfl (lv_room (Nat.le_of_ble_eq_true rfl)) dL_law_568 ⟨Nat.le_of_ble_eq_true rfl, Nat.le_of_ble_eq_true rfl⟩) hP hD hS hA (fun H locs hP hD hS => ?_)
  refine lv_icmp_eq (tgt := 1155) hx hb dL_law_571 (by decide) (fun _ => ?_) (fun z => absurd rfl z)
  exact next C2 S2 R2 h2 H locs hP hD hS ls hl
set_option maxHeartbeats 4000000 in
set_option maxRecDepth 100000 in
theorem lc_trim (X : lw_cx p l e s m below meth c b L xs D tb q k q2 k2 F i) (next : lw_go p l e s m below meth c b L xs D tb q k q2 k2 F i 1155) : lw_go p l e s m below meth c b L xs D tb q k q2 k2 F i 576 := by
  intro C S R h H locs hP hD hS ls hl
  obtain ⟨hfx, hK, hE, hX, hbl, hF, j0, j1, j2, j3, j4, j5⟩ := X
  obtain ⟨hx, hb, hml, hown, hts⟩ := id hfx
  have hA : ∀ a : Nat, s.heap.size ≤ a → lwA s a := fun _ h => h
  have hbA : ¬ lwA s b := Nat.not_le.mpr hbl
  obtain ⟨r, C2, S2, e9, e10, R2, h2, -⟩ := pr_trim F (xs (nI i + 1).toNatClampNeg) R h hF
  refine lv_aload_n hx hb dL_law_576 rfl (lv_at hl 1 rfl) ?_
  refine lv_aload_n hx hb dL_law_577 rfl (lv_at hl 0 rfl) ?_
  refine lv_iload_n hx hb dL_law_578 rfl (lv_at hl 3 rfl) ?_
  refine lv_iconst (v := 1) hx hb dL_law_579 (by decide) ?_
  refine lv_iadd hx hb dL_law_580 ?_
  refine va_sld hx hb hX hbl hbA hS j1 dL_law_581 ?_
  refine lw_c9i (va_runV (As := [.int (xs (nI i + 1).toNatClampNeg)]) (rest := []) hfx (zc_X9_trim l D tb q k F (xs (nI i + 1).toNatClampNeg) C r C2 e9 H.size) (cwV 1 hts gL_law_X9_trim rfl rfl rfl (by decide +kernel) ⟨Nat.le_of_ble_eq_true rfl, Nat.le_of_ble_eq_true rfl⟩) (la_p9 hK hP hD hS hA hE) rfl rfl hl.1 rfl (lv_room (Nat.le_of_ble_eq_true rfl)) dL_law_582 ⟨Nat.le_of_ble_eq_true rfl, Nat.le_of_ble_eq_true rfl⟩) hP hD hS hA (fun H locs hP hD hS => ?_)
  refine lv_aload_n hx hb dL_law_585 rfl (lv_at hl 2 rfl) ?_
  refine lv_aload_n hx hb dL_law_586 rfl (lv_at hl 0 rfl) ?_
  refine lv_iload_n hx hb dL_law_587 rfl (lv_at hl 3 rfl) ?_
  refine lv_iconst (v := 1) hx hb dL_law_588 (by decide) ?_
  refine lv_iadd hx hb dL_law_589 ?_
  refine va_sld hx hb hX hbl hbA hS j1 dL_law_590 ?_
  refine lw_c10i (va_runV (As := [.int (xs (nI i + 1).toNatClampNeg)]) (rest := [.int r]) hfx (zc_X10_trim l D tb q2 k2 F (xs (nI i + 1).toNatClampNeg) S r S2 e10 H.size) (cwV 1 hts gL_law_X10_trim rfl rfl rfl (by decide +kernel) ⟨Nat.le_of_ble_eq_true rfl, Nat.le_of_ble_eq_true rfl⟩) (la_p10 hK hP hD hS hA hE) rfl rfl hl.1 rfl (lv_room (Nat.le_of_ble_eq_true rfl)) dL_law_591 ⟨Nat.le_of_ble_eq_true rfl, Nat.le_of_ble_eq_true rfl⟩) hP hD hS hA (fun H locs hP hD hS => ?_)
  refine lv_icmp_eq (tgt := 1155) hx hb dL_law_594 (by decide) (fun _ => ?_) (fun z => absurd rfl z)
  exact next C2 S2 R2 h2 H locs hP hD hS ls hl
set_option maxHeartbeats 4000000 in
set_option maxRecDepth 100000 in
theorem lc_begin (X : lw_cx p l e s m below meth c b L xs D tb q k q2 k2 F i) (next : lw_go p l e s m below meth c b L xs D tb q k q2 k2 F i 1155) : lw_go p l e s m below meth c b L xs D tb q k q2 k2 F i 599 := by
  intro C S R h H locs hP hD hS ls hl
  obtain ⟨hfx, hK, hE, hX, hbl, hF, j0, j1, j2, j3, j4, j5⟩ := X
  obtain ⟨hx, hb, hml, hown, hts⟩ := id hfx
  have hA : ∀ a : Nat, s.heap.size ≤ a → lwA s a := fun _ h => h
  have hbA : ¬ lwA s b := Nat.not_le.mpr hbl
  obtain ⟨r, C2, S2, e9, e10, R2, h2, -⟩ := pr_begin F (xs (nI i + 1).toNatClampNeg) R h hF
  refine lv_aload_n hx hb dL_law_599 rfl (lv_at hl 1 rfl) ?_
  refine lv_aload_n hx hb dL_law_600 rfl (lv_at hl 0 rfl) ?_
  refine lv_iload_n hx hb dL_law_601 rfl (lv_at hl 3 rfl) ?_
  refine lv_iconst (v := 1) hx hb dL_law_602 (by decide) ?_
  refine lv_iadd hx hb dL_law_603 ?_
  refine va_sld hx hb hX hbl hbA hS j1 dL_law_604 ?_
  refine lw_c9i (va_runV (As := [.int (xs (nI i + 1).toNatClampNeg)]) (rest := []) hfx (zc_X9_begin l D tb q k F (xs (nI i + 1).toNatClampNeg) C r C2 e9 H.size) (cwV 1 hts gL_law_X9_begin rfl rfl rfl (by decide +kernel) ⟨Nat.le_of_ble_eq_true rfl, Nat.le_of_ble_eq_true rfl⟩) (la_p9 hK hP hD hS hA hE) rfl rfl hl.1 rfl (lv_room (Nat.le_of_ble_eq_true rfl)) dL_law_605 ⟨Nat.le_of_ble_eq_true rfl, Nat.le_of_ble_eq_true rfl⟩) hP hD hS hA (fun H locs hP hD hS => ?_)
  refine lv_aload_n hx hb dL_law_608 rfl (lv_at hl 2 rfl) ?_
  refine lv_aload_n hx hb dL_law_609 rfl (lv_at hl 0 rfl) ?_
  refine lv_iload_n hx hb dL_law_610 rfl (lv_at hl 3 rfl) ?_
  refine lv_iconst (v := 1) hx hb dL_law_611 (by decide) ?_
  refine lv_iadd hx hb dL_law_612 ?_
  refine va_sld hx hb hX hbl hbA hS j1 dL_law_613 ?_
  refine lw_c10i (va_runV (As := [.int (xs (nI i + 1).toNatClampNeg)]) (rest := [.int r]) hfx (zc_X10_begin l D tb q2 k2 F (xs (nI i + 1).toNatClampNeg) S r S2 e10 H.size) (cwV 1 hts gL_law_X10_begin rfl rfl rfl (by decide +kernel) ⟨Nat.le_of_ble_eq_true rfl, Nat.le_of_ble_eq_true rfl⟩) (la_p10 hK hP hD hS hA hE) rfl rfl hl.1 rfl (lv_room (Nat.le_of_ble_eq_true rfl)) dL_law_614 ⟨Nat.le_of_ble_eq_true rfl, Nat.le_of_ble_eq_true rfl⟩) hP hD hS hA (fun H locs hP hD hS => ?_)
  refine lv_icmp_eq (tgt := 1155) hx hb dL_law_617 (by decide) (fun _ => ?_) (fun z => absurd rfl z)
  exact next C2 S2 R2 h2 H locs hP hD hS ls hl
set_option maxHeartbeats 4000000 in
set_option maxRecDepth 100000 in
theorem lc_recruit (X : lw_cx p l e s m below meth c b L xs D tb q k q2 k2 F i) (next : lw_go p l e s m below meth c b L xs D tb q k q2 k2 F i 1155) : lw_go p l e s m below meth c b L xs D tb q k q2 k2 F i 622 := by
  intro C S R h H locs hP hD hS ls hl
  obtain ⟨hfx, hK, hE, hX, hbl, hF, j0, j1, j2, j3, j4, j5⟩ := X
  obtain ⟨hx, hb, hml, hown, hts⟩ := id hfx
  have hA : ∀ a : Nat, s.heap.size ≤ a → lwA s a := fun _ h => h
  have hbA : ¬ lwA s b := Nat.not_le.mpr hbl
  obtain ⟨r, C2, S2, e9, e10, R2, h2, -⟩ := pr_recruit F (xs (nI i + 1).toNatClampNeg) R h hF
  refine lv_aload_n hx hb dL_law_622 rfl (lv_at hl 1 rfl) ?_
  refine lv_aload_n hx hb dL_law_623 rfl (lv_at hl 0 rfl) ?_
  refine lv_iload_n hx hb dL_law_624 rfl (lv_at hl 3 rfl) ?_
  refine lv_iconst (v := 1) hx hb dL_law_625 (by decide) ?_
  refine lv_iadd hx hb dL_law_626 ?_
  refine va_sld hx hb hX hbl hbA hS j1 dL_law_627 ?_
  refine lw_c9i (va_runV (As := [.int (xs (nI i + 1).toNatClampNeg)]) (rest := []) hfx (zc_X9_recruit l D tb q k F (xs (nI i + 1).toNatClampNeg) C r C2 e9 H.size) (cwV 1 hts gL_law_X9_recruit rfl rfl rfl (by decide +kernel) ⟨Nat.le_of_ble_eq_true rfl, Nat.le_of_ble_eq_true rfl⟩) (la_p9 hK hP hD hS hA hE) rfl rfl hl.1 rfl (lv_room (Nat.le_of_ble_eq_true rfl)) dL_law_628 ⟨Nat.le_of_ble_eq_true rfl, Nat.le_of_ble_eq_true rfl⟩) hP hD hS hA (fun H locs hP hD hS => ?_)
  refine lv_aload_n hx hb dL_law_631 rfl (lv_at hl 2 rfl) ?_
  refine lv_aload_n hx hb dL_law_632 rfl (lv_at hl 0 rfl) ?_
  refine lv_iload_n hx hb dL_law_633 rfl (lv_at hl 3 rfl) ?_
  refine lv_iconst (v := 1) hx hb dL_law_634 (by decide) ?_
  refine lv_iadd hx hb dL_law_635 ?_
  refine va_sld hx hb hX hbl hbA hS j1 dL_law_636 ?_
  refine lw_c10i (va_runV (As := [.int (xs (nI i + 1).toNatClampNeg)]) (rest := [.int r]) hfx (zc_X10_recruit l D tb q2 k2 F (xs (nI i + 1).toNatClampNeg) S r S2 e10 H.size) (cwV 1 hts gL_law_X10_recruit rfl rfl rfl (by decide +kernel) ⟨Nat.le_of_ble_eq_true rfl, Nat.le_of_ble_eq_true rfl⟩) (la_p10 hK hP hD hS hA hE) rfl rfl hl.1 rfl (lv_room (Nat.le_of_ble_eq_true rfl)) dL_law_637 ⟨Nat.le_of_ble_eq_true rfl, Nat.le_of_ble_eq_true rfl⟩) hP hD hS hA (fun H locs hP hD hS => ?_)
  refine lv_icmp_eq (tgt := 1155) hx hb dL_law_640 (by decide) (fun _ => ?_) (fun z => absurd rfl z)
  exact next C2 S2 R2 h2 H locs hP hD hS ls hl
set_option maxHeartbeats 4000000 in
set_option maxRecDepth 100000 in
theorem lc_missed (X : lw_cx p l e s m below meth c b L xs D tb q k q2 k2 F i) (next : lw_go p l e s m below meth c b L xs D tb q k q2 k2 F i 1155) : lw_go p l e s m below meth c b L xs D tb q k q2 k2 F i 645 := by
  intro C S R h H locs hP hD hS ls hl
  obtain ⟨hfx, hK, hE, hX, hbl, hF, j0, j1, j2, j3, j4, j5⟩ := X
  obtain ⟨hx, hb, hml, hown, hts⟩ := id hfx
  have hA : ∀ a : Nat, s.heap.size ≤ a → lwA s a := fun _ h => h
  have hbA : ¬ lwA s b := Nat.not_le.mpr hbl
  obtain ⟨r, C2, S2, e9, e10, R2, h2, -⟩ := pr_missed F (xs (nI i + 1).toNatClampNeg) (xs (nI i + 2).toNatClampNeg) R h hF
  refine lv_aload_n hx hb dL_law_645 rfl (lv_at hl 1 rfl) ?_
  refine lv_aload_n hx hb dL_law_646 rfl (lv_at hl 0 rfl) ?_
  refine lv_iload_n hx hb dL_law_647 rfl (lv_at hl 3 rfl) ?_
  refine lv_iconst (v := 1) hx hb dL_law_648 (by decide) ?_
  refine lv_iadd hx hb dL_law_649 ?_
  refine va_sld hx hb hX hbl hbA hS j1 dL_law_650 ?_
  refine lv_aload_n hx hb dL_law_651 rfl (lv_at hl 0 rfl) ?_
  refine lv_iload_n hx hb dL_law_652 rfl (lv_at hl 3 rfl) ?_
  refine lv_iconst (v := 2) hx hb dL_law_653 (by decide) ?_
  refine lv_iadd hx hb dL_law_654 ?_
  refine va_sld hx hb hX hbl hbA hS j2 dL_law_655 ?_
  refine lw_c9i (va_runV (As := [.int (xs (nI i + 1).toNatClampNeg), .int (xs (nI i + 2).toNatClampNeg)]) (rest := []) hfx (zc_X9_missed l D tb q k F (xs (nI i + 1).toNatClampNeg) (xs (nI i + 2).toNatClampNeg) C r C2 e9 H.size) (cwV 2 hts gL_law_X9_missed rfl rfl rfl (by decide +kernel) ⟨Nat.le_of_ble_eq_true rfl, Nat.le_of_ble_eq_true rfl⟩) (la_p9 hK hP hD hS hA hE) rfl rfl hl.1 rfl (lv_room (Nat.le_of_ble_eq_true rfl)) dL_law_656 ⟨Nat.le_of_ble_eq_true rfl, Nat.le_of_ble_eq_true rfl⟩) hP hD hS hA (fun H locs hP hD hS => ?_)
  refine lv_aload_n hx hb dL_law_659 rfl (lv_at hl 2 rfl) ?_
  refine lv_aload_n hx hb dL_law_660 rfl (lv_at hl 0 rfl) ?_
  refine lv_iload_n hx hb dL_law_661 rfl (lv_at hl 3 rfl) ?_
  refine lv_iconst (v := 1) hx hb dL_law_662 (by decide) ?_
  refine lv_iadd hx hb dL_law_663 ?_
  refine va_sld hx hb hX hbl hbA hS j1 dL_law_664 ?_
  refine lv_aload_n hx hb dL_law_665 rfl (lv_at hl 0 rfl) ?_
  refine lv_iload_n hx hb dL_law_666 rfl (lv_at hl 3 rfl) ?_
  refine lv_iconst (v := 2) hx hb dL_law_667 (by decide) ?_
  refine lv_iadd hx hb dL_law_668 ?_
  refine va_sld hx hb hX hbl hbA hS j2 dL_law_669 ?_
  refine lw_c10i (va_runV (As := [.int (xs (nI i + 1).toNatClampNeg), .int (xs (nI i + 2).toNatClampNeg)]) (rest := [.int r]) hfx (zc_X10_missed l D tb q2 k2 F (xs (nI i + 1).toNatClampNeg) (xs (nI i + 2).toNatClampNeg) S r S2 e10 H.size) (cwV 2 hts gL_law_X10_missed rfl rfl rfl (by decide +kernel) ⟨Nat.le_of_ble_eq_true rfl, Nat.le_of_ble_eq_true rfl⟩) (la_p10 hK hP hD hS hA hE) rfl rfl hl.1 rfl (lv_room (Nat.le_of_ble_eq_true rfl)) dL_law_670 ⟨Nat.le_of_ble_eq_true rfl, Nat.le_of_ble_eq_true rfl⟩) hP hD hS hA (fun H locs hP hD hS => ?_)
  refine lv_icmp_eq (tgt := 1155) hx hb dL_law_673 (by decide) (fun _ => ?_) (fun z => absurd rfl z)
  exact next C2 S2 R2 h2 H locs hP hD hS ls hl
set_option maxHeartbeats 4000000 in
set_option maxRecDepth 100000 in
theorem lc_forget (X : lw_cx p l e s m below meth c b L xs D tb q k q2 k2 F i) (next : lw_go p l e s m below meth c b L xs D tb q k q2 k2 F i 1155) : lw_go p l e s m below meth c b L xs D tb q k q2 k2 F i 678 := by
  intro C S R h H locs hP hD hS ls hl
  obtain ⟨hfx, hK, hE, hX, hbl, hF, j0, j1, j2, j3, j4, j5⟩ := X
  obtain ⟨hx, hb, hml, hown, hts⟩ := id hfx
  have hA : ∀ a : Nat, s.heap.size ≤ a → lwA s a := fun _ h => h
  have hbA : ¬ lwA s b := Nat.not_le.mpr hbl
  obtain ⟨r, C2, S2, e9, e10, R2, h2, -⟩ := pr_forget F  R h hF
  refine lv_aload_n hx hb dL_law_678 rfl (lv_at hl 1 rfl) ?_
  refine lw_c9i (va_runV (As := []) (rest := []) hfx (zc_X9_forget l D tb q k F  C r C2 e9 H.size) (cwV 0 hts gL_law_X9_forget rfl rfl rfl (by decide +kernel) ⟨Nat.le_of_ble_eq_true rfl, Nat.le_of_ble_eq_true rfl⟩) (la_p9 hK hP hD hS hA hE) rfl rfl hl.1 rfl (lv_room (Nat.le_of_ble_eq_true rfl)) dL_law_679 ⟨Nat.le_of_ble_eq_true rfl, Nat.le_of_ble_eq_true rfl⟩) hP hD hS hA (fun H locs hP hD hS => ?_)
  refine lv_aload_n hx hb dL_law_682 rfl (lv_at hl 2 rfl) ?_
  refine lw_c10i (va_runV (As := []) (rest := [.int r]) hfx (zc_X10_forget l D tb q2 k2 F  S r S2 e10 H.size) (cwV 0 hts gL_law_X10_forget rfl rfl rfl (by decide +kernel) ⟨Nat.le_of_ble_eq_true rfl, Nat.le_of_ble_eq_true rfl⟩) (la_p10 hK hP hD hS hA hE) rfl rfl hl.1 rfl (lv_room (Nat.le_of_ble_eq_true rfl)) dL_law_683 ⟨Nat.le_of_ble_eq_true rfl, Nat.le_of_ble_eq_true rfl⟩) hP hD hS hA (fun H locs hP hD hS => ?_)
  refine lv_icmp_eq (tgt := 1155) hx hb dL_law_686 (by decide) (fun _ => ?_) (fun z => absurd rfl z)
  exact next C2 S2 R2 h2 H locs hP hD hS ls hl
set_option maxHeartbeats 4000000 in
set_option maxRecDepth 100000 in
theorem lc_read (X : lw_cx p l e s m below meth c b L xs D tb q k q2 k2 F i) (next : lw_go p l e s m below meth c b L xs D tb q k q2 k2 F i 1155) : lw_go p l e s m below meth c b L xs D tb q k q2 k2 F i 691 := by
  intro C S R h H locs hP hD hS ls hl
  obtain ⟨hfx, hK, hE, hX, hbl, hF, j0, j1, j2, j3, j4, j5⟩ := X
  obtain ⟨hx, hb, hml, hown, hts⟩ := id hfx
  have hA : ∀ a : Nat, s.heap.size ≤ a → lwA s a := fun _ h => h
  have hbA : ¬ lwA s b := Nat.not_le.mpr hbl
  obtain ⟨r, C2, S2, e9, e10, R2, h2, -⟩ := pr_read F (xs (nI i + 1).toNatClampNeg) R h hF
  refine lv_aload_n hx hb dL_law_691 rfl (lv_at hl 1 rfl) ?_
  refine lv_aload_n hx hb dL_law_692 rfl (lv_at hl 0 rfl) ?_
  refine lv_iload_n hx hb dL_law_693 rfl (lv_at hl 3 rfl) ?_
  refine lv_iconst (v := 1) hx hb dL_law_694 (by decide) ?_
  refine lv_iadd hx hb dL_law_695 ?_
  refine va_sld hx hb hX hbl hbA hS j1 dL_law_696 ?_
  refine lw_c9i (va_runV (As := [.int (xs (nI i + 1).toNatClampNeg)]) (rest := []) hfx (zc_X9_read l D tb q k F (xs (nI i + 1).toNatClampNeg) C r C2 e9 H.size) (cwV 1 hts gL_law_X9_read rfl rfl rfl (by decide +kernel) ⟨Nat.le_of_ble_eq_true rfl, Nat.le_of_ble_eq_true rfl⟩) (la_p9 hK hP hD hS hA hE) rfl rfl hl.1 rfl (lv_room (Nat.le_of_ble_eq_true rfl)) dL_law_697 ⟨Nat.le_of_ble_eq_true rfl, Nat.le_of_ble_eq_true rfl⟩) hP hD hS hA (fun H locs hP hD hS => ?_)
  refine lv_aload_n hx hb dL_law_700 rfl (lv_at hl 2 rfl) ?_
  refine lv_aload_n hx hb dL_law_701 rfl (lv_at hl 0 rfl) ?_
  refine lv_iload_n hx hb dL_law_702 rfl (lv_at hl 3 rfl) ?_
  refine lv_iconst (v := 1) hx hb dL_law_703 (by decide) ?_
  refine lv_iadd hx hb dL_law_704 ?_
  refine va_sld hx hb hX hbl hbA hS j1 dL_law_705 ?_
  refine lw_c10i (va_runV (As := [.int (xs (nI i + 1).toNatClampNeg)]) (rest := [.int r]) hfx (zc_X10_read l D tb q2 k2 F (xs (nI i + 1).toNatClampNeg) S r S2 e10 H.size) (cwV 1 hts gL_law_X10_read rfl rfl rfl (by decide +kernel) ⟨Nat.le_of_ble_eq_true rfl, Nat.le_of_ble_eq_true rfl⟩) (la_p10 hK hP hD hS hA hE) rfl rfl hl.1 rfl (lv_room (Nat.le_of_ble_eq_true rfl)) dL_law_706 ⟨Nat.le_of_ble_eq_true rfl, Nat.le_of_ble_eq_true rfl⟩) hP hD hS hA (fun H locs hP hD hS => ?_)
  refine lv_icmp_eq (tgt := 1155) hx hb dL_law_709 (by decide) (fun _ => ?_) (fun z => absurd rfl z)
  exact next C2 S2 R2 h2 H locs hP hD hS ls hl
set_option maxHeartbeats 4000000 in
set_option maxRecDepth 100000 in
theorem lc_omitted (X : lw_cx p l e s m below meth c b L xs D tb q k q2 k2 F i) (next : lw_go p l e s m below meth c b L xs D tb q k q2 k2 F i 1155) : lw_go p l e s m below meth c b L xs D tb q k q2 k2 F i 714 := by
  intro C S R h H locs hP hD hS ls hl
  obtain ⟨hfx, hK, hE, hX, hbl, hF, j0, j1, j2, j3, j4, j5⟩ := X
  obtain ⟨hx, hb, hml, hown, hts⟩ := id hfx
  have hA : ∀ a : Nat, s.heap.size ≤ a → lwA s a := fun _ h => h
  have hbA : ¬ lwA s b := Nat.not_le.mpr hbl
  obtain ⟨r, C2, S2, e9, e10, R2, h2, -⟩ := pr_omitted F  R h hF
  refine lv_aload_n hx hb dL_law_714 rfl (lv_at hl 1 rfl) ?_
  refine lw_c9i (va_runV (As := []) (rest := []) hfx (zc_X9_omitted l D tb q k F  C r C2 e9 H.size) (cwV 0 hts gL_law_X9_omitted rfl rfl rfl (by decide +kernel) ⟨Nat.le_of_ble_eq_true rfl, Nat.le_of_ble_eq_true rfl⟩) (la_p9 hK hP hD hS hA hE) rfl rfl hl.1 rfl (lv_room (Nat.le_of_ble_eq_true rfl)) dL_law_715 ⟨Nat.le_of_ble_eq_true rfl, Nat.le_of_ble_eq_true rfl⟩) hP hD hS hA (fun H locs hP hD hS => ?_)
  refine lv_aload_n hx hb dL_law_718 rfl (lv_at hl 2 rfl) ?_
  refine lw_c10i (va_runV (As := []) (rest := [.int r]) hfx (zc_X10_omitted l D tb q2 k2 F  S r S2 e10 H.size) (cwV 0 hts gL_law_X10_omitted rfl rfl rfl (by decide +kernel) ⟨Nat.le_of_ble_eq_true rfl, Nat.le_of_ble_eq_true rfl⟩) (la_p10 hK hP hD hS hA hE) rfl rfl hl.1 rfl (lv_room (Nat.le_of_ble_eq_true rfl)) dL_law_719 ⟨Nat.le_of_ble_eq_true rfl, Nat.le_of_ble_eq_true rfl⟩) hP hD hS hA (fun H locs hP hD hS => ?_)
  refine lv_icmp_eq (tgt := 1155) hx hb dL_law_722 (by decide) (fun _ => ?_) (fun z => absurd rfl z)
  exact next C2 S2 R2 h2 H locs hP hD hS ls hl
set_option maxHeartbeats 4000000 in
set_option maxRecDepth 100000 in
theorem lc_meant (X : lw_cx p l e s m below meth c b L xs D tb q k q2 k2 F i) (next : lw_go p l e s m below meth c b L xs D tb q k q2 k2 F i 1155) : lw_go p l e s m below meth c b L xs D tb q k q2 k2 F i 727 := by
  intro C S R h H locs hP hD hS ls hl
  obtain ⟨hfx, hK, hE, hX, hbl, hF, j0, j1, j2, j3, j4, j5⟩ := X
  obtain ⟨hx, hb, hml, hown, hts⟩ := id hfx
  have hA : ∀ a : Nat, s.heap.size ≤ a → lwA s a := fun _ h => h
  have hbA : ¬ lwA s b := Nat.not_le.mpr hbl
  obtain ⟨r, C2, S2, e9, e10, R2, h2, -⟩ := pr_meant F (xs (nI i + 1).toNatClampNeg) (xs (nI i + 2).toNatClampNeg) R h hF
  refine lv_aload_n hx hb dL_law_727 rfl (lv_at hl 1 rfl) ?_
  refine lv_aload_n hx hb dL_law_728 rfl (lv_at hl 0 rfl) ?_
  refine lv_iload_n hx hb dL_law_729 rfl (lv_at hl 3 rfl) ?_
  refine lv_iconst (v := 1) hx hb dL_law_730 (by decide) ?_
  refine lv_iadd hx hb dL_law_731 ?_
  refine va_sld hx hb hX hbl hbA hS j1 dL_law_732 ?_
  refine lv_aload_n hx hb dL_law_733 rfl (lv_at hl 0 rfl) ?_
  refine lv_iload_n hx hb dL_law_734 rfl (lv_at hl 3 rfl) ?_
  refine lv_iconst (v := 2) hx hb dL_law_735 (by decide) ?_
  refine lv_iadd hx hb dL_law_736 ?_
  refine va_sld hx hb hX hbl hbA hS j2 dL_law_737 ?_
  refine lw_c9i (va_runV (As := [.int (xs (nI i + 1).toNatClampNeg), .int (xs (nI i + 2).toNatClampNeg)]) (rest := []) hfx (zc_X9_meant l D tb q k F (xs (nI i + 1).toNatClampNeg) (xs (nI i + 2).toNatClampNeg) C r C2 e9 H.size) (cwV 2 hts gL_law_X9_meant rfl rfl rfl (by decide +kernel) ⟨Nat.le_of_ble_eq_true rfl, Nat.le_of_ble_eq_true rfl⟩) (la_p9 hK hP hD hS hA hE) rfl rfl hl.1 rfl (lv_room (Nat.le_of_ble_eq_true rfl)) dL_law_738 ⟨Nat.le_of_ble_eq_true rfl, Nat.le_of_ble_eq_true rfl⟩) hP hD hS hA (fun H locs hP hD hS => ?_)
  refine lv_aload_n hx hb dL_law_741 rfl (lv_at hl 2 rfl) ?_
  refine lv_aload_n hx hb dL_law_742 rfl (lv_at hl 0 rfl) ?_
  refine lv_iload_n hx hb dL_law_743 rfl (lv_at hl 3 rfl) ?_
  refine lv_iconst (v := 1) hx hb dL_law_744 (by decide) ?_
  refine lv_iadd hx hb dL_law_745 ?_
  refine va_sld hx hb hX hbl hbA hS j1 dL_law_746 ?_
  refine lv_aload_n hx hb dL_law_747 rfl (lv_at hl 0 rfl) ?_
  refine lv_iload_n hx hb dL_law_748 rfl (lv_at hl 3 rfl) ?_
  refine lv_iconst (v := 2) hx hb dL_law_749 (by decide) ?_
  refine lv_iadd hx hb dL_law_750 ?_
  refine va_sld hx hb hX hbl hbA hS j2 dL_law_751 ?_
  refine lw_c10i (va_runV (As := [.int (xs (nI i + 1).toNatClampNeg), .int (xs (nI i + 2).toNatClampNeg)]) (rest := [.int r]) hfx (zc_X10_meant l D tb q2 k2 F (xs (nI i + 1).toNatClampNeg) (xs (nI i + 2).toNatClampNeg) S r S2 e10 H.size) (cwV 2 hts gL_law_X10_meant rfl rfl rfl (by decide +kernel) ⟨Nat.le_of_ble_eq_true rfl, Nat.le_of_ble_eq_true rfl⟩) (la_p10 hK hP hD hS hA hE) rfl rfl hl.1 rfl (lv_room (Nat.le_of_ble_eq_true rfl)) dL_law_752 ⟨Nat.le_of_ble_eq_true rfl, Nat.le_of_ble_eq_true rfl⟩) hP hD hS hA (fun H locs hP hD hS => ?_)
  refine lv_icmp_eq (tgt := 1155) hx hb dL_law_755 (by decide) (fun _ => ?_) (fun z => absurd rfl z)
  exact next C2 S2 R2 h2 H locs hP hD hS ls hl
set_option maxHeartbeats 4000000 in
set_option maxRecDepth 100000 in
theorem lc_ask (X : lw_cx p l e s m below meth c b L xs D tb q k q2 k2 F i) (next : lw_go p l e s m below meth c b L xs D tb q k q2 k2 F i 1155) : lw_go p l e s m below meth c b L xs D tb q k q2 k2 F i 760 := by
  intro C S R h H locs hP hD hS ls hl
  obtain ⟨hfx, hK, hE, hX, hbl, hF, j0, j1, j2, j3, j4, j5⟩ := X
  obtain ⟨hx, hb, hml, hown, hts⟩ := id hfx
  have hA : ∀ a : Nat, s.heap.size ≤ a → lwA s a := fun _ h => h
  have hbA : ¬ lwA s b := Nat.not_le.mpr hbl
  obtain ⟨r, C2, S2, e9, e10, R2, h2, -⟩ := pr_ask F  R h hF
  refine lv_aload_n hx hb dL_law_760 rfl (lv_at hl 1 rfl) ?_
  refine lw_c9i (va_runV (As := []) (rest := []) hfx (zc_X9_ask l D tb q k F  C r C2 e9 H.size) (cwV 0 hts gL_law_X9_ask rfl rfl rfl (by decide +kernel) ⟨Nat.le_of_ble_eq_true rfl, Nat.le_of_ble_eq_true rfl⟩) (la_p9 hK hP hD hS hA hE) rfl rfl hl.1 rfl (lv_room (Nat.le_of_ble_eq_true rfl)) dL_law_761 ⟨Nat.le_of_ble_eq_true rfl, Nat.le_of_ble_eq_true rfl⟩) hP hD hS hA (fun H locs hP hD hS => ?_)
  refine lv_aload_n hx hb dL_law_764 rfl (lv_at hl 2 rfl) ?_
  refine lw_c10i (va_runV (As := []) (rest := [.int r]) hfx (zc_X10_ask l D tb q2 k2 F  S r S2 e10 H.size) (cwV 0 hts gL_law_X10_ask rfl rfl rfl (by decide +kernel) ⟨Nat.le_of_ble_eq_true rfl, Nat.le_of_ble_eq_true rfl⟩) (la_p10 hK hP hD hS hA hE) rfl rfl hl.1 rfl (lv_room (Nat.le_of_ble_eq_true rfl)) dL_law_765 ⟨Nat.le_of_ble_eq_true rfl, Nat.le_of_ble_eq_true rfl⟩) hP hD hS hA (fun H locs hP hD hS => ?_)
  refine lv_icmp_eq (tgt := 1155) hx hb dL_law_768 (by decide) (fun _ => ?_) (fun z => absurd rfl z)
  exact next C2 S2 R2 h2 H locs hP hD hS ls hl
set_option maxHeartbeats 4000000 in
set_option maxRecDepth 100000 in
theorem lc_fogged (X : lw_cx p l e s m below meth c b L xs D tb q k q2 k2 F i) (next : lw_go p l e s m below meth c b L xs D tb q k q2 k2 F i 1155) : lw_go p l e s m below meth c b L xs D tb q k q2 k2 F i 773 := by
  intro C S R h H locs hP hD hS ls hl
  obtain ⟨hfx, hK, hE, hX, hbl, hF, j0, j1, j2, j3, j4, j5⟩ := X
  obtain ⟨hx, hb, hml, hown, hts⟩ := id hfx
  have hA : ∀ a : Nat, s.heap.size ≤ a → lwA s a := fun _ h => h
  have hbA : ¬ lwA s b := Nat.not_le.mpr hbl
  obtain ⟨r, C2, S2, e9, e10, R2, h2, -⟩ := pr_fogged F (xs (nI i + 1).toNatClampNeg) (xs (nI i + 2).toNatClampNeg) (xs (nI i + 3).toNatClampNeg) (xs (nI i + 4).toNatClampNeg) R h hF
  refine lv_aload_n hx hb dL_law_773 rfl (lv_at hl 1 rfl) ?_
  refine lv_aload_n hx hb dL_law_774 rfl (lv_at hl 0 rfl) ?_
  refine lv_iload_n hx hb dL_law_775 rfl (lv_at hl 3 rfl) ?_
  refine lv_iconst (v := 1) hx hb dL_law_776 (by decide) ?_
  refine lv_iadd hx hb dL_law_777 ?_
  refine va_sld hx hb hX hbl hbA hS j1 dL_law_778 ?_
  refine lv_aload_n hx hb dL_law_779 rfl (lv_at hl 0 rfl) ?_
  refine lv_iload_n hx hb dL_law_780 rfl (lv_at hl 3 rfl) ?_
  refine lv_iconst (v := 2) hx hb dL_law_781 (by decide) ?_
  refine lv_iadd hx hb dL_law_782 ?_
  refine va_sld hx hb hX hbl hbA hS j2 dL_law_783 ?_
  refine lv_aload_n hx hb dL_law_784 rfl (lv_at hl 0 rfl) ?_
  refine lv_iload_n hx hb dL_law_785 rfl (lv_at hl 3 rfl) ?_
  refine lv_iconst (v := 3) hx hb dL_law_786 (by decide) ?_
  refine lv_iadd hx hb dL_law_787 ?_
  refine va_sld hx hb hX hbl hbA hS j3 dL_law_788 ?_
  refine lv_aload_n hx hb dL_law_789 rfl (lv_at hl 0 rfl) ?_
  refine lv_iload_n hx hb dL_law_790 rfl (lv_at hl 3 rfl) ?_
  refine lv_iconst (v := 4) hx hb dL_law_791 (by decide) ?_
  refine lv_iadd hx hb dL_law_792 ?_
  refine va_sld hx hb hX hbl hbA hS j4 dL_law_793 ?_
  refine lw_c9l (va_runV (As := [.int (xs (nI i + 1).toNatClampNeg), .int (xs (nI i + 2).toNatClampNeg), .int (xs (nI i + 3).toNatClampNeg), .int (xs (nI i + 4).toNatClampNeg)]) (rest := []) hfx (zc_X9_fogged l D tb q k F (xs (nI i + 1).toNatClampNeg) (xs (nI i + 2).toNatClampNeg) (xs (nI i + 3).toNatClampNeg) (xs (nI i + 4).toNatClampNeg) C r C2 e9 H.size) (cwV 4 hts gL_law_X9_fogged rfl rfl rfl (by decide +kernel) ⟨Nat.le_of_ble_eq_true rfl, Nat.le_of_ble_eq_true rfl⟩) (la_p9 hK hP hD hS hA hE) rfl rfl hl.1 rfl (lv_room (Nat.le_of_ble_eq_true rfl)) dL_law_794 ⟨Nat.le_of_ble_eq_true rfl, Nat.le_of_ble_eq_true rfl⟩) hP hD hS hA (fun H locs hP hD hS => ?_)
  refine lv_aload_n hx hb dL_law_797 rfl (lv_at hl 2 rfl) ?_
  refine lv_aload_n hx hb dL_law_798 rfl (lv_at hl 0 rfl) ?_
  refine lv_iload_n hx hb dL_law_799 rfl (lv_at hl 3 rfl) ?_
  refine lv_iconst (v := 1) hx hb dL_law_800 (by decide) ?_
  refine lv_iadd hx hb dL_law_801 ?_
  refine va_sld hx hb hX hbl hbA hS j1 dL_law_802 ?_
  refine lv_aload_n hx hb dL_law_803 rfl (lv_at hl 0 rfl) ?_
  refine lv_iload_n hx hb dL_law_804 rfl (lv_at hl 3 rfl) ?_
  refine lv_iconst (v := 2) hx hb dL_law_805 (by decide) ?_
  refine lv_iadd hx hb dL_law_806 ?_
  refine va_sld hx hb hX hbl hbA hS j2 dL_law_807 ?_
  refine lv_aload_n hx hb dL_law_808 rfl (lv_at hl 0 rfl) ?_
  refine lv_iload_n hx hb dL_law_809 rfl (lv_at hl 3 rfl) ?_
  refine lv_iconst (v := 3) hx hb dL_law_810 (by decide) ?_
  refine lv_iadd hx hb dL_law_811 ?_
  refine va_sld hx hb hX hbl hbA hS j3 dL_law_812 ?_
  refine lv_aload_n hx hb dL_law_813 rfl (lv_at hl 0 rfl) ?_
  refine lv_iload_n hx hb dL_law_814 rfl (lv_at hl 3 rfl) ?_
  refine lv_iconst (v := 4) hx hb dL_law_815 (by decide) ?_
  refine lv_iadd hx hb dL_law_816 ?_
  refine va_sld hx hb hX hbl hbA hS j4 dL_law_817 ?_
  refine lw_c10l (va_runV (As := [.int (xs (nI i + 1).toNatClampNeg), .int (xs (nI i + 2).toNatClampNeg), .int (xs (nI i + 3).toNatClampNeg), .int (xs (nI i + 4).toNatClampNeg)]) (rest := [.long r]) hfx (zc_X10_fogged l D tb q2 k2 F (xs (nI i + 1).toNatClampNeg) (xs (nI i + 2).toNatClampNeg) (xs (nI i + 3).toNatClampNeg) (xs (nI i + 4).toNatClampNeg) S r S2 e10 H.size) (cwV 4 hts gL_law_X10_fogged rfl rfl rfl (by decide +kernel) ⟨Nat.le_of_ble_eq_true rfl, Nat.le_of_ble_eq_true rfl⟩) (la_p10 hK hP hD hS hA hE) rfl rfl hl.1 rfl (lv_room (Nat.le_of_ble_eq_true rfl)) dL_law_818 ⟨Nat.le_of_ble_eq_true rfl, Nat.le_of_ble_eq_true rfl⟩) hP hD hS hA (fun H locs hP hD hS => ?_)
  refine W.lcmp hx hb dL_law_821 ?_
  refine lv_if_eq (tgt := 1155) hx hb dL_law_822 (by decide) (fun _ => ?_) (fun z => absurd ((lg_cmp_eq r r).mpr rfl) z)
  exact next C2 S2 R2 h2 H locs hP hD hS ls hl
set_option maxHeartbeats 4000000 in
set_option maxRecDepth 100000 in
theorem lc_nights (X : lw_cx p l e s m below meth c b L xs D tb q k q2 k2 F i) (next : lw_go p l e s m below meth c b L xs D tb q k q2 k2 F i 1155) : lw_go p l e s m below meth c b L xs D tb q k q2 k2 F i 827 := by
  intro C S R h H locs hP hD hS ls hl
  obtain ⟨hfx, hK, hE, hX, hbl, hF, j0, j1, j2, j3, j4, j5⟩ := X
  obtain ⟨hx, hb, hml, hown, hts⟩ := id hfx
  have hA : ∀ a : Nat, s.heap.size ≤ a → lwA s a := fun _ h => h
  have hbA : ¬ lwA s b := Nat.not_le.mpr hbl
  obtain ⟨r, C2, S2, e9, e10, R2, h2, -⟩ := pr_nights F (xs (nI i + 1).toNatClampNeg) (xs (nI i + 2).toNatClampNeg) (xs (nI i + 3).toNatClampNeg) R h hF
  refine lv_aload_n hx hb dL_law_827 rfl (lv_at hl 1 rfl) ?_
  refine lv_aload_n hx hb dL_law_828 rfl (lv_at hl 0 rfl) ?_
  refine lv_iload_n hx hb dL_law_829 rfl (lv_at hl 3 rfl) ?_
  refine lv_iconst (v := 1) hx hb dL_law_830 (by decide) ?_
  refine lv_iadd hx hb dL_law_831 ?_
  refine va_sld hx hb hX hbl hbA hS j1 dL_law_832 ?_
  refine lv_aload_n hx hb dL_law_833 rfl (lv_at hl 0 rfl) ?_
  refine lv_iload_n hx hb dL_law_834 rfl (lv_at hl 3 rfl) ?_
  refine lv_iconst (v := 2) hx hb dL_law_835 (by decide) ?_
  refine lv_iadd hx hb dL_law_836 ?_
  refine va_sld hx hb hX hbl hbA hS j2 dL_law_837 ?_
  refine lv_aload_n hx hb dL_law_838 rfl (lv_at hl 0 rfl) ?_
  refine lv_iload_n hx hb dL_law_839 rfl (lv_at hl 3 rfl) ?_
  refine lv_iconst (v := 3) hx hb dL_law_840 (by decide) ?_
  refine lv_iadd hx hb dL_law_841 ?_
  refine va_sld hx hb hX hbl hbA hS j3 dL_law_842 ?_
  refine lw_c9i (va_runV (As := [.int (xs (nI i + 1).toNatClampNeg), .int (xs (nI i + 2).toNatClampNeg), .int (xs (nI i + 3).toNatClampNeg)]) (rest := []) hfx (zc_X9_nights l D tb q k F (xs (nI i + 1).toNatClampNeg) (xs (nI i + 2).toNatClampNeg) (xs (nI i + 3).toNatClampNeg) C r C2 e9 H.size) (cwV 3 hts gL_law_X9_nights rfl rfl rfl (by decide +kernel) ⟨Nat.le_of_ble_eq_true rfl, Nat.le_of_ble_eq_true rfl⟩) (la_p9 hK hP hD hS hA hE) rfl rfl hl.1 rfl (lv_room (Nat.le_of_ble_eq_true rfl)) dL_law_843 ⟨Nat.le_of_ble_eq_true rfl, Nat.le_of_ble_eq_true rfl⟩) hP hD hS hA (fun H locs hP hD hS => ?_)
  refine lv_aload_n hx hb dL_law_846 rfl (lv_at hl 2 rfl) ?_
  refine lv_aload_n hx hb dL_law_847 rfl (lv_at hl 0 rfl) ?_
  refine lv_iload_n hx hb dL_law_848 rfl (lv_at hl 3 rfl) ?_
  refine lv_iconst (v := 1) hx hb dL_law_849 (by decide) ?_
  refine lv_iadd hx hb dL_law_850 ?_
  refine va_sld hx hb hX hbl hbA hS j1 dL_law_851 ?_
  refine lv_aload_n hx hb dL_law_852 rfl (lv_at hl 0 rfl) ?_
  refine lv_iload_n hx hb dL_law_853 rfl (lv_at hl 3 rfl) ?_
  refine lv_iconst (v := 2) hx hb dL_law_854 (by decide) ?_
  refine lv_iadd hx hb dL_law_855 ?_
  refine va_sld hx hb hX hbl hbA hS j2 dL_law_856 ?_
  refine lv_aload_n hx hb dL_law_857 rfl (lv_at hl 0 rfl) ?_
  refine lv_iload_n hx hb dL_law_858 rfl (lv_at hl 3 rfl) ?_
  refine lv_iconst (v := 3) hx hb dL_law_859 (by decide) ?_
  refine lv_iadd hx hb dL_law_860 ?_
  refine va_sld hx hb hX hbl hbA hS j3 dL_law_861 ?_
  refine lw_c10i (va_runV (As := [.int (xs (nI i + 1).toNatClampNeg), .int (xs (nI i + 2).toNatClampNeg), .int (xs (nI i + 3).toNatClampNeg)]) (rest := [.int r]) hfx (zc_X10_nights l D tb q2 k2 F (xs (nI i + 1).toNatClampNeg) (xs (nI i + 2).toNatClampNeg) (xs (nI i + 3).toNatClampNeg) S r S2 e10 H.size) (cwV 3 hts gL_law_X10_nights rfl rfl rfl (by decide +kernel) ⟨Nat.le_of_ble_eq_true rfl, Nat.le_of_ble_eq_true rfl⟩) (la_p10 hK hP hD hS hA hE) rfl rfl hl.1 rfl (lv_room (Nat.le_of_ble_eq_true rfl)) dL_law_862 ⟨Nat.le_of_ble_eq_true rfl, Nat.le_of_ble_eq_true rfl⟩) hP hD hS hA (fun H locs hP hD hS => ?_)
  refine lv_icmp_eq (tgt := 1155) hx hb dL_law_865 (by decide) (fun _ => ?_) (fun z => absurd rfl z)
  exact next C2 S2 R2 h2 H locs hP hD hS ls hl
set_option maxHeartbeats 4000000 in
set_option maxRecDepth 100000 in
theorem lc_sheet (X : lw_cx p l e s m below meth c b L xs D tb q k q2 k2 F i) (next : lw_go p l e s m below meth c b L xs D tb q k q2 k2 F i 1155) : lw_go p l e s m below meth c b L xs D tb q k q2 k2 F i 870 := by
  intro C S R h H locs hP hD hS ls hl
  obtain ⟨hfx, hK, hE, hX, hbl, hF, j0, j1, j2, j3, j4, j5⟩ := X
  obtain ⟨hx, hb, hml, hown, hts⟩ := id hfx
  have hA : ∀ a : Nat, s.heap.size ≤ a → lwA s a := fun _ h => h
  have hbA : ¬ lwA s b := Nat.not_le.mpr hbl
  obtain ⟨r, C2, S2, e9, e10, R2, h2, -⟩ := pr_sheet F (xs (nI i + 1).toNatClampNeg) (xs (nI i + 2).toNatClampNeg) (xs (nI i + 3).toNatClampNeg) R h hF
  refine lv_aload_n hx hb dL_law_870 rfl (lv_at hl 1 rfl) ?_
  refine lv_aload_n hx hb dL_law_871 rfl (lv_at hl 0 rfl) ?_
  refine lv_iload_n hx hb dL_law_872 rfl (lv_at hl 3 rfl) ?_
  refine lv_iconst (v := 1) hx hb dL_law_873 (by decide) ?_
  refine lv_iadd hx hb dL_law_874 ?_
  refine va_sld hx hb hX hbl hbA hS j1 dL_law_875 ?_
  refine lv_aload_n hx hb dL_law_876 rfl (lv_at hl 0 rfl) ?_
  refine lv_iload_n hx hb dL_law_877 rfl (lv_at hl 3 rfl) ?_
  refine lv_iconst (v := 2) hx hb dL_law_878 (by decide) ?_
  refine lv_iadd hx hb dL_law_879 ?_
  refine va_sld hx hb hX hbl hbA hS j2 dL_law_880 ?_
  refine lv_aload_n hx hb dL_law_881 rfl (lv_at hl 0 rfl) ?_
  refine lv_iload_n hx hb dL_law_882 rfl (lv_at hl 3 rfl) ?_
  refine lv_iconst (v := 3) hx hb dL_law_883 (by decide) ?_
  refine lv_iadd hx hb dL_law_884 ?_
  refine va_sld hx hb hX hbl hbA hS j3 dL_law_885 ?_
  refine lw_c9i (va_runV (As := [.int (xs (nI i + 1).toNatClampNeg), .int (xs (nI i + 2).toNatClampNeg), .int (xs (nI i + 3).toNatClampNeg)]) (rest := []) hfx (zc_X9_sheet l D tb q k F (xs (nI i + 1).toNatClampNeg) (xs (nI i + 2).toNatClampNeg) (xs (nI i + 3).toNatClampNeg) C r C2 e9 H.size) (cwV 3 hts gL_law_X9_sheet rfl rfl rfl (by decide +kernel) ⟨Nat.le_of_ble_eq_true rfl, Nat.le_of_ble_eq_true rfl⟩) (la_p9 hK hP hD hS hA hE) rfl rfl hl.1 rfl (lv_room (Nat.le_of_ble_eq_true rfl)) dL_law_886 ⟨Nat.le_of_ble_eq_true rfl, Nat.le_of_ble_eq_true rfl⟩) hP hD hS hA (fun H locs hP hD hS => ?_)
  refine lv_aload_n hx hb dL_law_889 rfl (lv_at hl 2 rfl) ?_
  refine lv_aload_n hx hb dL_law_890 rfl (lv_at hl 0 rfl) ?_
  refine lv_iload_n hx hb dL_law_891 rfl (lv_at hl 3 rfl) ?_
  refine lv_iconst (v := 1) hx hb dL_law_892 (by decide) ?_
  refine lv_iadd hx hb dL_law_893 ?_
  refine va_sld hx hb hX hbl hbA hS j1 dL_law_894 ?_
  refine lv_aload_n hx hb dL_law_895 rfl (lv_at hl 0 rfl) ?_
  refine lv_iload_n hx hb dL_law_896 rfl (lv_at hl 3 rfl) ?_
  refine lv_iconst (v := 2) hx hb dL_law_897 (by decide) ?_
  refine lv_iadd hx hb dL_law_898 ?_
  refine va_sld hx hb hX hbl hbA hS j2 dL_law_899 ?_
  refine lv_aload_n hx hb dL_law_900 rfl (lv_at hl 0 rfl) ?_
  refine lv_iload_n hx hb dL_law_901 rfl (lv_at hl 3 rfl) ?_
  refine lv_iconst (v := 3) hx hb dL_law_902 (by decide) ?_
  refine lv_iadd hx hb dL_law_903 ?_
  refine va_sld hx hb hX hbl hbA hS j3 dL_law_904 ?_
  refine lw_c10i (va_runV (As := [.int (xs (nI i + 1).toNatClampNeg), .int (xs (nI i + 2).toNatClampNeg), .int (xs (nI i + 3).toNatClampNeg)]) (rest := [.int r]) hfx (zc_X10_sheet l D tb q2 k2 F (xs (nI i + 1).toNatClampNeg) (xs (nI i + 2).toNatClampNeg) (xs (nI i + 3).toNatClampNeg) S r S2 e10 H.size) (cwV 3 hts gL_law_X10_sheet rfl rfl rfl (by decide +kernel) ⟨Nat.le_of_ble_eq_true rfl, Nat.le_of_ble_eq_true rfl⟩) (la_p10 hK hP hD hS hA hE) rfl rfl hl.1 rfl (lv_room (Nat.le_of_ble_eq_true rfl)) dL_law_905 ⟨Nat.le_of_ble_eq_true rfl, Nat.le_of_ble_eq_true rfl⟩) hP hD hS hA (fun H locs hP hD hS => ?_)
  refine lv_icmp_eq (tgt := 1155) hx hb dL_law_908 (by decide) (fun _ => ?_) (fun z => absurd rfl z)
  exact next C2 S2 R2 h2 H locs hP hD hS ls hl
set_option maxHeartbeats 4000000 in
set_option maxRecDepth 100000 in
theorem lc_lose (X : lw_cx p l e s m below meth c b L xs D tb q k q2 k2 F i) (next : lw_go p l e s m below meth c b L xs D tb q k q2 k2 F i 1155) : lw_go p l e s m below meth c b L xs D tb q k q2 k2 F i 913 := by
  intro C S R h H locs hP hD hS ls hl
  obtain ⟨hfx, hK, hE, hX, hbl, hF, j0, j1, j2, j3, j4, j5⟩ := X
  obtain ⟨hx, hb, hml, hown, hts⟩ := id hfx
  have hA : ∀ a : Nat, s.heap.size ≤ a → lwA s a := fun _ h => h
  have hbA : ¬ lwA s b := Nat.not_le.mpr hbl
  obtain ⟨r, C2, S2, e9, e10, R2, h2, -⟩ := pr_lose F (xs (nI i + 1).toNatClampNeg) R h hF
  refine lv_aload_n hx hb dL_law_913 rfl (lv_at hl 1 rfl) ?_
  refine lv_aload_n hx hb dL_law_914 rfl (lv_at hl 0 rfl) ?_
  refine lv_iload_n hx hb dL_law_915 rfl (lv_at hl 3 rfl) ?_
  refine lv_iconst (v := 1) hx hb dL_law_916 (by decide) ?_
  refine lv_iadd hx hb dL_law_917 ?_
  refine va_sld hx hb hX hbl hbA hS j1 dL_law_918 ?_
  refine lw_c9i (va_runV (As := [.int (xs (nI i + 1).toNatClampNeg)]) (rest := []) hfx (zc_X9_lose l D tb q k F (xs (nI i + 1).toNatClampNeg) C r C2 e9 H.size) (cwV 1 hts gL_law_X9_lose rfl rfl rfl (by decide +kernel) ⟨Nat.le_of_ble_eq_true rfl, Nat.le_of_ble_eq_true rfl⟩) (la_p9 hK hP hD hS hA hE) rfl rfl hl.1 rfl (lv_room (Nat.le_of_ble_eq_true rfl)) dL_law_919 ⟨Nat.le_of_ble_eq_true rfl, Nat.le_of_ble_eq_true rfl⟩) hP hD hS hA (fun H locs hP hD hS => ?_)
  refine lv_aload_n hx hb dL_law_922 rfl (lv_at hl 2 rfl) ?_
  refine lv_aload_n hx hb dL_law_923 rfl (lv_at hl 0 rfl) ?_
  refine lv_iload_n hx hb dL_law_924 rfl (lv_at hl 3 rfl) ?_
  refine lv_iconst (v := 1) hx hb dL_law_925 (by decide) ?_
  refine lv_iadd hx hb dL_law_926 ?_
  refine va_sld hx hb hX hbl hbA hS j1 dL_law_927 ?_
  refine lw_c10i (va_runV (As := [.int (xs (nI i + 1).toNatClampNeg)]) (rest := [.int r]) hfx (zc_X10_lose l D tb q2 k2 F (xs (nI i + 1).toNatClampNeg) S r S2 e10 H.size) (cwV 1 hts gL_law_X10_lose rfl rfl rfl (by decide +kernel) ⟨Nat.le_of_ble_eq_true rfl, Nat.le_of_ble_eq_true rfl⟩) (la_p10 hK hP hD hS hA hE) rfl rfl hl.1 rfl (lv_room (Nat.le_of_ble_eq_true rfl)) dL_law_928 ⟨Nat.le_of_ble_eq_true rfl, Nat.le_of_ble_eq_true rfl⟩) hP hD hS hA (fun H locs hP hD hS => ?_)
  refine lv_icmp_eq (tgt := 1155) hx hb dL_law_931 (by decide) (fun _ => ?_) (fun z => absurd rfl z)
  exact next C2 S2 R2 h2 H locs hP hD hS ls hl
set_option maxHeartbeats 4000000 in
set_option maxRecDepth 100000 in
theorem lc_put (X : lw_cx p l e s m below meth c b L xs D tb q k q2 k2 F i) (next : lw_go p l e s m below meth c b L xs D tb q k q2 k2 F i 1155) : lw_go p l e s m below meth c b L xs D tb q k q2 k2 F i 936 := by
  intro C S R h H locs hP hD hS ls hl
  obtain ⟨hfx, hK, hE, hX, hbl, hF, j0, j1, j2, j3, j4, j5⟩ := X
  obtain ⟨hx, hb, hml, hown, hts⟩ := id hfx
  have hA : ∀ a : Nat, s.heap.size ≤ a → lwA s a := fun _ h => h
  have hbA : ¬ lwA s b := Nat.not_le.mpr hbl
  obtain ⟨r, C2, S2, e9, e10, R2, h2, -⟩ := pr_put F (xs (nI i + 1).toNatClampNeg) (xs (nI i + 2).toNatClampNeg) (xs (nI i + 3).toNatClampNeg) (xs (nI i + 4).toNatClampNeg) R h hF
  refine lv_aload_n hx hb dL_law_936 rfl (lv_at hl 1 rfl) ?_
  refine lv_aload_n hx hb dL_law_937 rfl (lv_at hl 0 rfl) ?_
  refine lv_iload_n hx hb dL_law_938 rfl (lv_at hl 3 rfl) ?_
  refine lv_iconst (v := 1) hx hb dL_law_939 (by decide) ?_
  refine lv_iadd hx hb dL_law_940 ?_
  refine va_sld hx hb hX hbl hbA hS j1 dL_law_941 ?_
  refine lv_aload_n hx hb dL_law_942 rfl (lv_at hl 0 rfl) ?_
  refine lv_iload_n hx hb dL_law_943 rfl (lv_at hl 3 rfl) ?_
  refine lv_iconst (v := 2) hx hb dL_law_944 (by decide) ?_
  refine lv_iadd hx hb dL_law_945 ?_
  refine va_sld hx hb hX hbl hbA hS j2 dL_law_946 ?_
  refine lv_aload_n hx hb dL_law_947 rfl (lv_at hl 0 rfl) ?_
  refine lv_iload_n hx hb dL_law_948 rfl (lv_at hl 3 rfl) ?_
  refine lv_iconst (v := 3) hx hb dL_law_949 (by decide) ?_
  refine lv_iadd hx hb dL_law_950 ?_
  refine va_sld hx hb hX hbl hbA hS j3 dL_law_951 ?_
  refine lv_aload_n hx hb dL_law_952 rfl (lv_at hl 0 rfl) ?_
  refine lv_iload_n hx hb dL_law_953 rfl (lv_at hl 3 rfl) ?_
  refine lv_iconst (v := 4) hx hb dL_law_954 (by decide) ?_
  refine lv_iadd hx hb dL_law_955 ?_
  refine va_sld hx hb hX hbl hbA hS j4 dL_law_956 ?_
  refine lw_c9i (va_runV (As := [.int (xs (nI i + 1).toNatClampNeg), .int (xs (nI i + 2).toNatClampNeg), .int (xs (nI i + 3).toNatClampNeg), .int (xs (nI i + 4).toNatClampNeg)]) (rest := []) hfx (zc_X9_put l D tb q k F (xs (nI i + 1).toNatClampNeg) (xs (nI i + 2).toNatClampNeg) (xs (nI i + 3).toNatClampNeg) (xs (nI i + 4).toNatClampNeg) C r C2 e9 H.size) (cwV 4 hts gL_law_X9_put rfl rfl rfl (by decide +kernel) ⟨Nat.le_of_ble_eq_true rfl, Nat.le_of_ble_eq_true rfl⟩) (la_p9 hK hP hD hS hA hE) rfl rfl hl.1 rfl (lv_room (Nat.le_of_ble_eq_true rfl)) dL_law_957 ⟨Nat.le_of_ble_eq_true rfl, Nat.le_of_ble_eq_true rfl⟩) hP hD hS hA (fun H locs hP hD hS => ?_)
  refine lv_aload_n hx hb dL_law_960 rfl (lv_at hl 2 rfl) ?_
  refine lv_aload_n hx hb dL_law_961 rfl (lv_at hl 0 rfl) ?_
  refine lv_iload_n hx hb dL_law_962 rfl (lv_at hl 3 rfl) ?_
  refine lv_iconst (v := 1) hx hb dL_law_963 (by decide) ?_
  refine lv_iadd hx hb dL_law_964 ?_
  refine va_sld hx hb hX hbl hbA hS j1 dL_law_965 ?_
  refine lv_aload_n hx hb dL_law_966 rfl (lv_at hl 0 rfl) ?_
  refine lv_iload_n hx hb dL_law_967 rfl (lv_at hl 3 rfl) ?_
  refine lv_iconst (v := 2) hx hb dL_law_968 (by decide) ?_
  refine lv_iadd hx hb dL_law_969 ?_
  refine va_sld hx hb hX hbl hbA hS j2 dL_law_970 ?_
  refine lv_aload_n hx hb dL_law_971 rfl (lv_at hl 0 rfl) ?_
  refine lv_iload_n hx hb dL_law_972 rfl (lv_at hl 3 rfl) ?_
  refine lv_iconst (v := 3) hx hb dL_law_973 (by decide) ?_
  refine lv_iadd hx hb dL_law_974 ?_
  refine va_sld hx hb hX hbl hbA hS j3 dL_law_975 ?_
  refine lv_aload_n hx hb dL_law_976 rfl (lv_at hl 0 rfl) ?_
  refine lv_iload_n hx hb dL_law_977 rfl (lv_at hl 3 rfl) ?_
  refine lv_iconst (v := 4) hx hb dL_law_978 (by decide) ?_
  refine lv_iadd hx hb dL_law_979 ?_
  refine va_sld hx hb hX hbl hbA hS j4 dL_law_980 ?_
  refine lw_c10i (va_runV (As := [.int (xs (nI i + 1).toNatClampNeg), .int (xs (nI i + 2).toNatClampNeg), .int (xs (nI i + 3).toNatClampNeg), .int (xs (nI i + 4).toNatClampNeg)]) (rest := [.int r]) hfx (zc_X10_put l D tb q2 k2 F (xs (nI i + 1).toNatClampNeg) (xs (nI i + 2).toNatClampNeg) (xs (nI i + 3).toNatClampNeg) (xs (nI i + 4).toNatClampNeg) S r S2 e10 H.size) (cwV 4 hts gL_law_X10_put rfl rfl rfl (by decide +kernel) ⟨Nat.le_of_ble_eq_true rfl, Nat.le_of_ble_eq_true rfl⟩) (la_p10 hK hP hD hS hA hE) rfl rfl hl.1 rfl (lv_room (Nat.le_of_ble_eq_true rfl)) dL_law_981 ⟨Nat.le_of_ble_eq_true rfl, Nat.le_of_ble_eq_true rfl⟩) hP hD hS hA (fun H locs hP hD hS => ?_)
  refine lv_icmp_eq (tgt := 1155) hx hb dL_law_984 (by decide) (fun _ => ?_) (fun z => absurd rfl z)
  exact next C2 S2 R2 h2 H locs hP hD hS ls hl
set_option maxHeartbeats 4000000 in
set_option maxRecDepth 100000 in
theorem lc_get (X : lw_cx p l e s m below meth c b L xs D tb q k q2 k2 F i) (next : lw_go p l e s m below meth c b L xs D tb q k q2 k2 F i 1155) : lw_go p l e s m below meth c b L xs D tb q k q2 k2 F i 989 := by
  intro C S R h H locs hP hD hS ls hl
  obtain ⟨hfx, hK, hE, hX, hbl, hF, j0, j1, j2, j3, j4, j5⟩ := X
  obtain ⟨hx, hb, hml, hown, hts⟩ := id hfx
  have hA : ∀ a : Nat, s.heap.size ≤ a → lwA s a := fun _ h => h
  have hbA : ¬ lwA s b := Nat.not_le.mpr hbl
  obtain ⟨r, C2, S2, e9, e10, R2, h2, -⟩ := pr_get F (xs (nI i + 1).toNatClampNeg) (xs (nI i + 2).toNatClampNeg) (xs (nI i + 3).toNatClampNeg) R h hF
  refine lv_aload_n hx hb dL_law_989 rfl (lv_at hl 1 rfl) ?_
  refine lv_aload_n hx hb dL_law_990 rfl (lv_at hl 0 rfl) ?_
  refine lv_iload_n hx hb dL_law_991 rfl (lv_at hl 3 rfl) ?_
  refine lv_iconst (v := 1) hx hb dL_law_992 (by decide) ?_
  refine lv_iadd hx hb dL_law_993 ?_
  refine va_sld hx hb hX hbl hbA hS j1 dL_law_994 ?_
  refine lv_aload_n hx hb dL_law_995 rfl (lv_at hl 0 rfl) ?_
  refine lv_iload_n hx hb dL_law_996 rfl (lv_at hl 3 rfl) ?_
  refine lv_iconst (v := 2) hx hb dL_law_997 (by decide) ?_
  refine lv_iadd hx hb dL_law_998 ?_
  refine va_sld hx hb hX hbl hbA hS j2 dL_law_999 ?_
  refine lv_aload_n hx hb dL_law_1000 rfl (lv_at hl 0 rfl) ?_
  refine lv_iload_n hx hb dL_law_1001 rfl (lv_at hl 3 rfl) ?_
  refine lv_iconst (v := 3) hx hb dL_law_1002 (by decide) ?_
  refine lv_iadd hx hb dL_law_1003 ?_
  refine va_sld hx hb hX hbl hbA hS j3 dL_law_1004 ?_
  refine lw_c9i (va_runV (As := [.int (xs (nI i + 1).toNatClampNeg), .int (xs (nI i + 2).toNatClampNeg), .int (xs (nI i + 3).toNatClampNeg)]) (rest := []) hfx (zc_X9_get l D tb q k F (xs (nI i + 1).toNatClampNeg) (xs (nI i + 2).toNatClampNeg) (xs (nI i + 3).toNatClampNeg) C r C2 e9 H.size) (cwV 3 hts gL_law_X9_get rfl rfl rfl (by decide +kernel) ⟨Nat.le_of_ble_eq_true rfl, Nat.le_of_ble_eq_true rfl⟩) (la_p9 hK hP hD hS hA hE) rfl rfl hl.1 rfl (lv_room (Nat.le_of_ble_eq_true rfl)) dL_law_1005 ⟨Nat.le_of_ble_eq_true rfl, Nat.le_of_ble_eq_true rfl⟩) hP hD hS hA (fun H locs hP hD hS => ?_)
  refine lv_aload_n hx hb dL_law_1008 rfl (lv_at hl 2 rfl) ?_
  refine lv_aload_n hx hb dL_law_1009 rfl (lv_at hl 0 rfl) ?_
  refine lv_iload_n hx hb dL_law_1010 rfl (lv_at hl 3 rfl) ?_
  refine lv_iconst (v := 1) hx hb dL_law_1011 (by decide) ?_
  refine lv_iadd hx hb dL_law_1012 ?_
  refine va_sld hx hb hX hbl hbA hS j1 dL_law_1013 ?_
  refine lv_aload_n hx hb dL_law_1014 rfl (lv_at hl 0 rfl) ?_
  refine lv_iload_n hx hb dL_law_1015 rfl (lv_at hl 3 rfl) ?_
  refine lv_iconst (v := 2) hx hb dL_law_1016 (by decide) ?_
  refine lv_iadd hx hb dL_law_1017 ?_
  refine va_sld hx hb hX hbl hbA hS j2 dL_law_1018 ?_
  refine lv_aload_n hx hb dL_law_1019 rfl (lv_at hl 0 rfl) ?_
  refine lv_iload_n hx hb dL_law_1020 rfl (lv_at hl 3 rfl) ?_
  refine lv_iconst (v := 3) hx hb dL_law_1021 (by decide) ?_
  refine lv_iadd hx hb dL_law_1022 ?_
  refine va_sld hx hb hX hbl hbA hS j3 dL_law_1023 ?_
  refine lw_c10i (va_runV (As := [.int (xs (nI i + 1).toNatClampNeg), .int (xs (nI i + 2).toNatClampNeg), .int (xs (nI i + 3).toNatClampNeg)]) (rest := [.int r]) hfx (zc_X10_get l D tb q2 k2 F (xs (nI i + 1).toNatClampNeg) (xs (nI i + 2).toNatClampNeg) (xs (nI i + 3).toNatClampNeg) S r S2 e10 H.size) (cwV 3 hts gL_law_X10_get rfl rfl rfl (by decide +kernel) ⟨Nat.le_of_ble_eq_true rfl, Nat.le_of_ble_eq_true rfl⟩) (la_p10 hK hP hD hS hA hE) rfl rfl hl.1 rfl (lv_room (Nat.le_of_ble_eq_true rfl)) dL_law_1024 ⟨Nat.le_of_ble_eq_true rfl, Nat.le_of_ble_eq_true rfl⟩) hP hD hS hA (fun H locs hP hD hS => ?_)
  refine lv_icmp_eq (tgt := 1155) hx hb dL_law_1027 (by decide) (fun _ => ?_) (fun z => absurd rfl z)
  exact next C2 S2 R2 h2 H locs hP hD hS ls hl
set_option maxHeartbeats 4000000 in
set_option maxRecDepth 100000 in
theorem lc_copy (X : lw_cx p l e s m below meth c b L xs D tb q k q2 k2 F i) (next : lw_go p l e s m below meth c b L xs D tb q k q2 k2 F i 1155) : lw_go p l e s m below meth c b L xs D tb q k q2 k2 F i 1032 := by
  intro C S R h H locs hP hD hS ls hl
  obtain ⟨hfx, hK, hE, hX, hbl, hF, j0, j1, j2, j3, j4, j5⟩ := X
  obtain ⟨hx, hb, hml, hown, hts⟩ := id hfx
  have hA : ∀ a : Nat, s.heap.size ≤ a → lwA s a := fun _ h => h
  have hbA : ¬ lwA s b := Nat.not_le.mpr hbl
  obtain ⟨r, C2, S2, e9, e10, R2, h2, -⟩ := pr_copy F (xs (nI i + 1).toNatClampNeg) (xs (nI i + 2).toNatClampNeg) (xs (nI i + 3).toNatClampNeg) (xs (nI i + 4).toNatClampNeg) (xs (nI i + 5).toNatClampNeg) R h hF
  refine lv_aload_n hx hb dL_law_1032 rfl (lv_at hl 1 rfl) ?_
  refine lv_aload_n hx hb dL_law_1033 rfl (lv_at hl 0 rfl) ?_
  refine lv_iload_n hx hb dL_law_1034 rfl (lv_at hl 3 rfl) ?_
  refine lv_iconst (v := 1) hx hb dL_law_1035 (by decide) ?_
  refine lv_iadd hx hb dL_law_1036 ?_
  refine va_sld hx hb hX hbl hbA hS j1 dL_law_1037 ?_
  refine lv_aload_n hx hb dL_law_1038 rfl (lv_at hl 0 rfl) ?_
  refine lv_iload_n hx hb dL_law_1039 rfl (lv_at hl 3 rfl) ?_
  refine lv_iconst (v := 2) hx hb dL_law_1040 (by decide) ?_
  refine lv_iadd hx hb dL_law_1041 ?_
  refine va_sld hx hb hX hbl hbA hS j2 dL_law_1042 ?_
  refine lv_aload_n hx hb dL_law_1043 rfl (lv_at hl 0 rfl) ?_
  refine lv_iload_n hx hb dL_law_1044 rfl (lv_at hl 3 rfl) ?_
  refine lv_iconst (v := 3) hx hb dL_law_1045 (by decide) ?_
  refine lv_iadd hx hb dL_law_1046 ?_
  refine va_sld hx hb hX hbl hbA hS j3 dL_law_1047 ?_
  refine lv_aload_n hx hb dL_law_1048 rfl (lv_at hl 0 rfl) ?_
  refine lv_iload_n hx hb dL_law_1049 rfl (lv_at hl 3 rfl) ?_
  refine lv_iconst (v := 4) hx hb dL_law_1050 (by decide) ?_
  refine lv_iadd hx hb dL_law_1051 ?_
  refine va_sld hx hb hX hbl hbA hS j4 dL_law_1052 ?_
  refine lv_aload_n hx hb dL_law_1053 rfl (lv_at hl 0 rfl) ?_
  refine lv_iload_n hx hb dL_law_1054 rfl (lv_at hl 3 rfl) ?_
  refine lv_iconst (v := 5) hx hb dL_law_1055 (by decide) ?_
  refine lv_iadd hx hb dL_law_1056 ?_
  refine va_sld hx hb hX hbl hbA hS j5 dL_law_1057 ?_
  refine lw_c9i (va_runV (As := [.int (xs (nI i + 1).toNatClampNeg), .int (xs (nI i + 2).toNatClampNeg), .int (xs (nI i + 3).toNatClampNeg), .int (xs (nI i + 4).toNatClampNeg), .int (xs (nI i + 5).toNatClampNeg)]) (rest := []) hfx (zc_X9_copy l D tb q k F (xs (nI i + 1).toNatClampNeg) (xs (nI i + 2).toNatClampNeg) (xs (nI i + 3).toNatClampNeg) (xs (nI i + 4).toNatClampNeg) (xs (nI i + 5).toNatClampNeg) C r C2 e9 H.size) (cwV 5 hts gL_law_X9_copy rfl rfl rfl (by decide +kernel) ⟨Nat.le_of_ble_eq_true rfl, Nat.le_of_ble_eq_true rfl⟩) (la_p9 hK hP hD hS hA hE) rfl rfl hl.1 rfl (lv_room (Nat.le_of_ble_eq_true rfl)) dL_law_1058 ⟨Nat.le_of_ble_eq_true rfl, Nat.le_of_ble_eq_true rfl⟩) hP hD hS hA (fun H locs hP hD hS => ?_)
  refine lv_aload_n hx hb dL_law_1061 rfl (lv_at hl 2 rfl) ?_
  refine lv_aload_n hx hb dL_law_1062 rfl (lv_at hl 0 rfl) ?_
  refine lv_iload_n hx hb dL_law_1063 rfl (lv_at hl 3 rfl) ?_
  refine lv_iconst (v := 1) hx hb dL_law_1064 (by decide) ?_
  refine lv_iadd hx hb dL_law_1065 ?_
  refine va_sld hx hb hX hbl hbA hS j1 dL_law_1066 ?_
  refine lv_aload_n hx hb dL_law_1067 rfl (lv_at hl 0 rfl) ?_
  refine lv_iload_n hx hb dL_law_1068 rfl (lv_at hl 3 rfl) ?_
  refine lv_iconst (v := 2) hx hb dL_law_1069 (by decide) ?_
  refine lv_iadd hx hb dL_law_1070 ?_
  refine va_sld hx hb hX hbl hbA hS j2 dL_law_1071 ?_
  refine lv_aload_n hx hb dL_law_1072 rfl (lv_at hl 0 rfl) ?_
  refine lv_iload_n hx hb dL_law_1073 rfl (lv_at hl 3 rfl) ?_
  refine lv_iconst (v := 3) hx hb dL_law_1074 (by decide) ?_
  refine lv_iadd hx hb dL_law_1075 ?_
  refine va_sld hx hb hX hbl hbA hS j3 dL_law_1076 ?_
  refine lv_aload_n hx hb dL_law_1077 rfl (lv_at hl 0 rfl) ?_
  refine lv_iload_n hx hb dL_law_1078 rfl (lv_at hl 3 rfl) ?_
  refine lv_iconst (v := 4) hx hb dL_law_1079 (by decide) ?_
  refine lv_iadd hx hb dL_law_1080 ?_
  refine va_sld hx hb hX hbl hbA hS j4 dL_law_1081 ?_
  refine lv_aload_n hx hb dL_law_1082 rfl (lv_at hl 0 rfl) ?_
  refine lv_iload_n hx hb dL_law_1083 rfl (lv_at hl 3 rfl) ?_
  refine lv_iconst (v := 5) hx hb dL_law_1084 (by decide) ?_
  refine lv_iadd hx hb dL_law_1085 ?_
  refine va_sld hx hb hX hbl hbA hS j5 dL_law_1086 ?_
  refine lw_c10i (va_runV (As := [.int (xs (nI i + 1).toNatClampNeg), .int (xs (nI i + 2).toNatClampNeg), .int (xs (nI i + 3).toNatClampNeg), .int (xs (nI i + 4).toNatClampNeg), .int (xs (nI i + 5).toNatClampNeg)]) (rest := [.int r]) hfx (zc_X10_copy l D tb q2 k2 F (xs (nI i + 1).toNatClampNeg) (xs (nI i + 2).toNatClampNeg) (xs (nI i + 3).toNatClampNeg) (xs (nI i + 4).toNatClampNeg) (xs (nI i + 5).toNatClampNeg) S r S2 e10 H.size) (cwV 5 hts gL_law_X10_copy rfl rfl rfl (by decide +kernel) ⟨Nat.le_of_ble_eq_true rfl, Nat.le_of_ble_eq_true rfl⟩) (la_p10 hK hP hD hS hA hE) rfl rfl hl.1 rfl (lv_room (Nat.le_of_ble_eq_true rfl)) dL_law_1087 ⟨Nat.le_of_ble_eq_true rfl, Nat.le_of_ble_eq_true rfl⟩) hP hD hS hA (fun H locs hP hD hS => ?_)
  refine lv_icmp_eq (tgt := 1155) hx hb dL_law_1090 (by decide) (fun _ => ?_) (fun z => absurd rfl z)
  exact next C2 S2 R2 h2 H locs hP hD hS ls hl
set_option maxHeartbeats 4000000 in
set_option maxRecDepth 100000 in
theorem lc_write (X : lw_cx p l e s m below meth c b L xs D tb q k q2 k2 F i) (next : lw_go p l e s m below meth c b L xs D tb q k q2 k2 F i 1155) : lw_go p l e s m below meth c b L xs D tb q k q2 k2 F i 1095 := by
  intro C S R h H locs hP hD hS ls hl
  obtain ⟨hfx, hK, hE, hX, hbl, hF, j0, j1, j2, j3, j4, j5⟩ := X
  obtain ⟨hx, hb, hml, hown, hts⟩ := id hfx
  have hA : ∀ a : Nat, s.heap.size ≤ a → lwA s a := fun _ h => h
  have hbA : ¬ lwA s b := Nat.not_le.mpr hbl
  obtain ⟨r, C2, S2, e9, e10, R2, h2, -⟩ := pr_write F (xs (nI i + 1).toNatClampNeg) R h hF
  refine lv_aload_n hx hb dL_law_1095 rfl (lv_at hl 1 rfl) ?_
  refine lv_aload_n hx hb dL_law_1096 rfl (lv_at hl 0 rfl) ?_
  refine lv_iload_n hx hb dL_law_1097 rfl (lv_at hl 3 rfl) ?_
  refine lv_iconst (v := 1) hx hb dL_law_1098 (by decide) ?_
  refine lv_iadd hx hb dL_law_1099 ?_
  refine va_sld hx hb hX hbl hbA hS j1 dL_law_1100 ?_
  refine lw_c9i (va_runV (As := [.int (xs (nI i + 1).toNatClampNeg)]) (rest := []) hfx (zc_X9_write l D tb q k F (xs (nI i + 1).toNatClampNeg) C r C2 e9 H.size) (cwV 1 hts gL_law_X9_write rfl rfl rfl (by decide +kernel) ⟨Nat.le_of_ble_eq_true rfl, Nat.le_of_ble_eq_true rfl⟩) (la_p9 hK hP hD hS hA hE) rfl rfl hl.1 rfl (lv_room (Nat.le_of_ble_eq_true rfl)) dL_law_1101 ⟨Nat.le_of_ble_eq_true rfl, Nat.le_of_ble_eq_true rfl⟩) hP hD hS hA (fun H locs hP hD hS => ?_)
  refine lv_aload_n hx hb dL_law_1104 rfl (lv_at hl 2 rfl) ?_
  refine lv_aload_n hx hb dL_law_1105 rfl (lv_at hl 0 rfl) ?_
  refine lv_iload_n hx hb dL_law_1106 rfl (lv_at hl 3 rfl) ?_
  refine lv_iconst (v := 1) hx hb dL_law_1107 (by decide) ?_
  refine lv_iadd hx hb dL_law_1108 ?_
  refine va_sld hx hb hX hbl hbA hS j1 dL_law_1109 ?_
  refine lw_c10i (va_runV (As := [.int (xs (nI i + 1).toNatClampNeg)]) (rest := [.int r]) hfx (zc_X10_write l D tb q2 k2 F (xs (nI i + 1).toNatClampNeg) S r S2 e10 H.size) (cwV 1 hts gL_law_X10_write rfl rfl rfl (by decide +kernel) ⟨Nat.le_of_ble_eq_true rfl, Nat.le_of_ble_eq_true rfl⟩) (la_p10 hK hP hD hS hA hE) rfl rfl hl.1 rfl (lv_room (Nat.le_of_ble_eq_true rfl)) dL_law_1110 ⟨Nat.le_of_ble_eq_true rfl, Nat.le_of_ble_eq_true rfl⟩) hP hD hS hA (fun H locs hP hD hS => ?_)
  refine lv_icmp_eq (tgt := 1155) hx hb dL_law_1113 (by decide) (fun _ => ?_) (fun z => absurd rfl z)
  exact next C2 S2 R2 h2 H locs hP hD hS ls hl
set_option maxHeartbeats 4000000 in
set_option maxRecDepth 100000 in
theorem lc_count (X : lw_cx p l e s m below meth c b L xs D tb q k q2 k2 F i) (next : lw_go p l e s m below meth c b L xs D tb q k q2 k2 F i 1155) : lw_go p l e s m below meth c b L xs D tb q k q2 k2 F i 1118 := by
  intro C S R h H locs hP hD hS ls hl
  obtain ⟨hfx, hK, hE, hX, hbl, hF, j0, j1, j2, j3, j4, j5⟩ := X
  obtain ⟨hx, hb, hml, hown, hts⟩ := id hfx
  have hA : ∀ a : Nat, s.heap.size ≤ a → lwA s a := fun _ h => h
  have hbA : ¬ lwA s b := Nat.not_le.mpr hbl
  obtain ⟨r, S2, e9, e10, R2, h2⟩ := pq_count F (xs (nI i + 1).toNatClampNeg) R h hF
  refine lv_aload_n hx hb dL_law_1118 rfl (lv_at hl 1 rfl) ?_
  refine lv_aload_n hx hb dL_law_1119 rfl (lv_at hl 0 rfl) ?_
  refine lv_iload_n hx hb dL_law_1120 rfl (lv_at hl 3 rfl) ?_
  refine lv_iconst (v := 1) hx hb dL_law_1121 (by decide) ?_
  refine lv_iadd hx hb dL_law_1122 ?_
  refine va_sld hx hb hX hbl hbA hS j1 dL_law_1123 ?_
  refine lw_c9i (va_runV (As := [.int (xs (nI i + 1).toNatClampNeg)]) (rest := []) hfx (zc_X9_count l D tb q k F (xs (nI i + 1).toNatClampNeg) C r  e9 H.size) (cwV 1 hts gL_law_X9_count rfl rfl rfl (by decide +kernel) ⟨Nat.le_of_ble_eq_true rfl, Nat.le_of_ble_eq_true rfl⟩) (la_p9 hK hP hD hS hA hE) rfl rfl hl.1 rfl (lv_room (Nat.le_of_ble_eq_true rfl)) dL_law_1124 ⟨Nat.le_of_ble_eq_true rfl, Nat.le_of_ble_eq_true rfl⟩) hP hD hS hA (fun H locs hP hD hS => ?_)
  refine lv_aload_n hx hb dL_law_1127 rfl (lv_at hl 2 rfl) ?_
  refine lv_aload_n hx hb dL_law_1128 rfl (lv_at hl 0 rfl) ?_
  refine lv_iload_n hx hb dL_law_1129 rfl (lv_at hl 3 rfl) ?_
  refine lv_iconst (v := 1) hx hb dL_law_1130 (by decide) ?_
  refine lv_iadd hx hb dL_law_1131 ?_
  refine va_sld hx hb hX hbl hbA hS j1 dL_law_1132 ?_
  refine lw_c10i (va_runV (As := [.int (xs (nI i + 1).toNatClampNeg)]) (rest := [.int r]) hfx (zc_X10_count l D tb q2 k2 F (xs (nI i + 1).toNatClampNeg) S r S2 e10 H.size) (cwV 1 hts gL_law_X10_count rfl rfl rfl (by decide +kernel) ⟨Nat.le_of_ble_eq_true rfl, Nat.le_of_ble_eq_true rfl⟩) (la_p10 hK hP hD hS hA hE) rfl rfl hl.1 rfl (lv_room (Nat.le_of_ble_eq_true rfl)) dL_law_1133 ⟨Nat.le_of_ble_eq_true rfl, Nat.le_of_ble_eq_true rfl⟩) hP hD hS hA (fun H locs hP hD hS => ?_)
  refine lv_icmp_eq (tgt := 1155) hx hb dL_law_1136 (by decide) (fun _ => ?_) (fun z => absurd rfl z)
  exact next C S2 R2 h2 H locs hP hD hS ls hl
set_option maxHeartbeats 4000000 in
set_option maxRecDepth 100000 in
theorem lc_digest (X : lw_cx p l e s m below meth c b L xs D tb q k q2 k2 F i) (next : lw_go p l e s m below meth c b L xs D tb q k q2 k2 F i 1155) : lw_go p l e s m below meth c b L xs D tb q k q2 k2 F i 1141 := by
  intro C S R h H locs hP hD hS ls hl
  obtain ⟨hfx, hK, hE, hX, hbl, hF, j0, j1, j2, j3, j4, j5⟩ := X
  obtain ⟨hx, hb, hml, hown, hts⟩ := id hfx
  have hA : ∀ a : Nat, s.heap.size ≤ a → lwA s a := fun _ h => h
  have hbA : ¬ lwA s b := Nat.not_le.mpr hbl
  obtain ⟨r, C2, S2, e9, e10, R2, h2, -⟩ := pr_digest F  R h hF
  refine lv_aload_n hx hb dL_law_1141 rfl (lv_at hl 1 rfl) ?_
  refine lw_c9l (va_runV (As := []) (rest := []) hfx (zc_X9_digest l D tb q k F  C r C2 e9 H.size) (cwV 0 hts gL_law_X9_digest rfl rfl rfl (by decide +kernel) ⟨Nat.le_of_ble_eq_true rfl, Nat.le_of_ble_eq_true rfl⟩) (la_p9 hK hP hD hS hA hE) rfl rfl hl.1 rfl (lv_room (Nat.le_of_ble_eq_true rfl)) dL_law_1142 ⟨Nat.le_of_ble_eq_true rfl, Nat.le_of_ble_eq_true rfl⟩) hP hD hS hA (fun H locs hP hD hS => ?_)
  refine lv_aload_n hx hb dL_law_1145 rfl (lv_at hl 2 rfl) ?_
  refine lw_c10l (va_runV (As := []) (rest := [.long r]) hfx (zc_X10_digest l D tb q2 k2 F  S r S2 e10 H.size) (cwV 0 hts gL_law_X10_digest rfl rfl rfl (by decide +kernel) ⟨Nat.le_of_ble_eq_true rfl, Nat.le_of_ble_eq_true rfl⟩) (la_p10 hK hP hD hS hA hE) rfl rfl hl.1 rfl (lv_room (Nat.le_of_ble_eq_true rfl)) dL_law_1146 ⟨Nat.le_of_ble_eq_true rfl, Nat.le_of_ble_eq_true rfl⟩) hP hD hS hA (fun H locs hP hD hS => ?_)
  refine W.lcmp hx hb dL_law_1149 ?_
  refine lv_if_eq (tgt := 1155) hx hb dL_law_1150 (by decide) (fun _ => ?_) (fun z => absurd ((lg_cmp_eq r r).mpr rfl) z)
  exact next C2 S2 R2 h2 H locs hP hD hS ls hl
end LG
