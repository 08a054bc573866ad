theorem lw_cmp {i L : Nat} (hi : i < 2 ^ 30) (hL : L < 2 ^ 30) (h : i + 6 ≤ L) : ¬ (Int32.ofNat L - 6 < nI i) := by
  show ¬ (nI L - nI 6 < nI i)
  rw [pk_sub (by omega), nI_ltI (by omega) (by omega)]; omega
theorem lw_cmp2 {i L : Nat} (hi : i < 2 ^ 30) (hL : L < 2 ^ 30) (h : L < i + 6) : Int32.ofNat L - 6 < nI i := by
  show nI L - nI 6 < nI i
  rw [fa_lt, pk_sub_toInt (by omega) (by omega), zl_T (by omega)]; omega
theorem lw_ix {i j L : Nat} (h : i + j < L) (hL : L < 2 ^ 31) : vp_in (nI i + nI j) L := by rw [nI_add]; exact vp_in_nI h hL
theorem lw_exit {p : Program} {l : Launch} {e : Env} {s : State} {m : MethodId} {below : List Frame} {meth : Method} {c : Code} {b L i x1 x2 : Nat} {xs : Nat → Int32} (hx : p.tables.exec = Jvm.exec) (hb : c.code = cL_law) (hr : meth.sig.returnType = ret) (hlocks : meth.locks = false) (hX : va_X b L xs s s.heap) (hbl : b < s.heap.size) (hbA : ¬ lwA s b) (hL : L ≤ 384) (hi : i < 400) (h6 : L < i + 6) {H : Heap} {locs : List Loc} (hS : va_S (lwA s) s.heap H locs) {ls : Array Slot} (hl : lv_has ls 4 [(0, .ref b), (1, .ref x1), (2, .ref x2), (3, .int (nI i))]) : W p l e room_1 s m #[Value.ref b] below meth c H locs 69 2482 (lw_Z below #[Value.ref b] s) (F0 m 18 ls []) := by
  refine lv_iload_n hx hb dL_law_18 rfl (lv_at hl 3 rfl) ?_
  refine lv_aload_n hx hb dL_law_19 rfl (lv_at hl 0 rfl) ?_
  refine va_slen hx hb hX hbl hbA hS dL_law_20 ?_
  refine lv_bipush (v := 6) hx hb dL_law_21 (by decide) ?_
  refine lv_isub hx hb dL_law_23 ?_
  refine lv_icmp_gt (tgt := 1161) hx hb dL_law_24 (by decide) (fun _ => ?_) (fun z => absurd (lw_cmp2 (by omega) (by omega) h6) z)
  refine lv_iconst (v := 1) hx hb dL_law_1161 (by decide) ?_
  refine va_forget (fun q hq => hS.2.2 q hq) ?_
  refine W.widen (k := 600000) (n := 7302250) (by omega) (by omega) ?_
  exact lw_ret hx hb hr hlocks dL_law_1162
set_option maxHeartbeats 8000000 in
set_option maxRecDepth 100000 in
/-- one round of the loop, from its switch -/
theorem lw_switch {p : Program} {l : Launch} {e : Env} {s : State} {m : MethodId} {below : List Frame} {meth : Method} {c : Code} {b L : Nat} {xs : Nat → Int32} {D : va_G} {tb : Nat → Nat} {q : Nat → Nat} {k : Nat → ClassId} {q2 : Nat → Nat} {k2 : Nat → ClassId} {F i : Nat} (X : lw_cx p l e s m below meth c b L xs D tb q k q2 k2 F i) (next : lw_go p l e s m below meth c b L xs D tb q k q2 k2 F i 1155) : lw_go p l e s m below meth c b L xs D tb q k q2 k2 F i 27 := by
  intro C S R h H locs hP hD hS ls hl
  obtain ⟨hfx, hK, hE, hX, hbl, hF, j0, j1, j2, j3, j4, j5⟩ := id X
  obtain ⟨hx, hb, hml, hown, hts⟩ := id hfx
  have hbA : ¬ lwA s b := Nat.not_le.mpr hbl
  refine lv_aload_n hx hb dL_law_27 rfl (lv_at hl 0 rfl) ?_
  refine lv_iload_n hx hb dL_law_28 rfl (lv_at hl 3 rfl) ?_
  refine va_sld hx hb hX hbl hbA hS j0 dL_law_29 ?_
  refine lv_bipush (v := 63) hx hb dL_law_30 (by decide) ?_
  refine lv_iand hx hb dL_law_32 ?_
  obtain ⟨j, hj, ej⟩ := pk_andE (xs (nI i).toNatClampNeg) (m := 63) 6 (by decide)
  rw [ej]
  by_cases hj2 : j < 35
  · rcases (show j = 0 ∨ j = 1 ∨ j = 2 ∨ j = 3 ∨ j = 4 ∨ j = 5 ∨ j = 6 ∨ j = 7 ∨ j = 8 ∨ j = 9 ∨ j = 10 ∨ j = 11 ∨ j = 12 ∨ j = 13 ∨ j = 14 ∨ j = 15 ∨ j = 16 ∨ j = 17 ∨ j = 18 ∨ j = 19 ∨ j = 20 ∨ j = 21 ∨ j = 22 ∨ j = 23 ∨ j = 24 ∨ j = 25 ∨ j = 26 ∨ j = 27 ∨ j = 28 ∨ j = 29 ∨ j = 30 ∨ j = 31 ∨ j = 32 ∨ j = 33 ∨ j = 34 by omega) with rfl | rfl | rfl | rfl | rfl | rfl | rfl | rfl | rfl | rfl | rfl | rfl | rfl | rfl | rfl | rfl | rfl | rfl | rfl | rfl | rfl | rfl | rfl | rfl | rfl | rfl | rfl | rfl | rfl | rfl | rfl | rfl | rfl | rfl | rfl
    · exact lv_tableIn (off := 155) (tgt := 188) hx hb dL_law_33 (by decide) (by decide) (by decide) (by decide) (lc_type X next C S R h H locs hP hD hS ls hl)
    · exact lv_tableIn (off := 188) (tgt := 221) hx hb dL_law_33 (by decide) (by decide) (by decide) (by decide) (lc_wipe X next C S R h H locs hP hD hS ls hl)
    · exact lv_tableIn (off := 211) (tgt := 244) hx hb dL_law_33 (by decide) (by decide) (by decide) (by decide) (lc_undo X next C S R h H locs hP hD hS ls hl)
    · exact lv_tableIn (off := 234) (tgt := 267) hx hb dL_law_33 (by decide) (by decide) (by decide) (by decide) (lc_fault X next C S R h H locs hP hD hS ls hl)
    · exact lv_tableIn (off := 257) (tgt := 290) hx hb dL_law_33 (by decide) (by decide) (by decide) (by decide) (lc_cell X next C S R h H locs hP hD hS ls hl)
    · exact lv_tableIn (off := 280) (tgt := 313) hx hb dL_law_33 (by decide) (by decide) (by decide) (by decide) (lc_beat X next C S R h H locs hP hD hS ls hl)
    · exact lv_tableIn (off := 303) (tgt := 336) hx hb dL_law_33 (by decide) (by decide) (by decide) (by decide) (lc_thief X next C S R h H locs hP hD hS ls hl)
    · exact lv_tableIn (off := 336) (tgt := 369) hx hb dL_law_33 (by decide) (by decide) (by decide) (by decide) (lc_set X next C S R h H locs hP hD hS ls hl)
    · exact lv_tableIn (off := 369) (tgt := 402) hx hb dL_law_33 (by decide) (by decide) (by decide) (by decide) (lc_at X next C S R h H locs hP hD hS ls hl)
    · exact lv_tableIn (off := 392) (tgt := 425) hx hb dL_law_33 (by decide) (by decide) (by decide) (by decide) (lc_sees X next C S R h H locs hP hD hS ls hl)
    · exact lv_tableIn (off := 425) (tgt := 458) hx hb dL_law_33 (by decide) (by decide) (by decide) (by decide) (lc_seen X next C S R h H locs hP hD hS ls hl)
    · exact lv_tableIn (off := 458) (tgt := 491) hx hb dL_law_33 (by decide) (by decide) (by decide) (by decide) (lc_takes X next C S R h H locs hP hD hS ls hl)
    · exact lv_tableIn (off := 481) (tgt := 514) hx hb dL_law_33 (by decide) (by decide) (by decide) (by decide) (lc_safe X next C S R h H locs hP hD hS ls hl)
    · exact lv_tableIn (off := 504) (tgt := 537) hx hb dL_law_33 (by decide) (by decide) (by decide) (by decide) (lc_lost X next C S R h H locs hP hD hS ls hl)
    · exact lv_tableIn (off := 517) (tgt := 550) hx hb dL_law_33 (by decide) (by decide) (by decide) (by decide) (lc_first X next C S R h H locs hP hD hS ls hl)
    · exact lv_tableIn (off := 530) (tgt := 563) hx hb dL_law_33 (by decide) (by decide) (by decide) (by decide) (lc_spare X next C S R h H locs hP hD hS ls hl)
    · exact lv_tableIn (off := 543) (tgt := 576) hx hb dL_law_33 (by decide) (by decide) (by decide) (by decide) (lc_trim X next C S R h H locs hP hD hS ls hl)
    · exact lv_tableIn (off := 566) (tgt := 599) hx hb dL_law_33 (by decide) (by decide) (by decide) (by decide) (lc_begin X next C S R h H locs hP hD hS ls hl)
    · exact lv_tableIn (off := 589) (tgt := 622) hx hb dL_law_33 (by decide) (by decide) (by decide) (by decide) (lc_recruit X next C S R h H locs hP hD hS ls hl)
    · exact lv_tableIn (off := 612) (tgt := 645) hx hb dL_law_33 (by decide) (by decide) (by decide) (by decide) (lc_missed X next C S R h H locs hP hD hS ls hl)
    · exact lv_tableIn (off := 645) (tgt := 678) hx hb dL_law_33 (by decide) (by decide) (by decide) (by decide) (lc_forget X next C S R h H locs hP hD hS ls hl)
    · exact lv_tableIn (off := 658) (tgt := 691) hx hb dL_law_33 (by decide) (by decide) (by decide) (by decide) (lc_read X next C S R h H locs hP hD hS ls hl)
    · exact lv_tableIn (off := 681) (tgt := 714) hx hb dL_law_33 (by decide) (by decide) (by decide) (by decide) (lc_omitted X next C S R h H locs hP hD hS ls hl)
    · exact lv_tableIn (off := 694) (tgt := 727) hx hb dL_law_33 (by decide) (by decide) (by decide) (by decide) (lc_meant X next C S R h H locs hP hD hS ls hl)
    · exact lv_tableIn (off := 727) (tgt := 760) hx hb dL_law_33 (by decide) (by decide) (by decide) (by decide) (lc_ask X next C S R h H locs hP hD hS ls hl)
    · exact lv_tableIn (off := 740) (tgt := 773) hx hb dL_law_33 (by decide) (by decide) (by decide) (by decide) (lc_fogged X next C S R h H locs hP hD hS ls hl)
    · exact lv_tableIn (off := 794) (tgt := 827) hx hb dL_law_33 (by decide) (by decide) (by decide) (by decide) (lc_nights X next C S R h H locs hP hD hS ls hl)
    · exact lv_tableIn (off := 837) (tgt := 870) hx hb dL_law_33 (by decide) (by decide) (by decide) (by decide) (lc_sheet X next C S R h H locs hP hD hS ls hl)
    · exact lv_tableIn (off := 880) (tgt := 913) hx hb dL_law_33 (by decide) (by decide) (by decide) (by decide) (lc_lose X next C S R h H locs hP hD hS ls hl)
    · exact lv_tableIn (off := 903) (tgt := 936) hx hb dL_law_33 (by decide) (by decide) (by decide) (by decide) (lc_put X next C S R h H locs hP hD hS ls hl)
    · exact lv_tableIn (off := 956) (tgt := 989) hx hb dL_law_33 (by decide) (by decide) (by decide) (by decide) (lc_get X next C S R h H locs hP hD hS ls hl)
    · exact lv_tableIn (off := 999) (tgt := 1032) hx hb dL_law_33 (by decide) (by decide) (by decide) (by decide) (lc_copy X next C S R h H locs hP hD hS ls hl)
    · exact lv_tableIn (off := 1062) (tgt := 1095) hx hb dL_law_33 (by decide) (by decide) (by decide) (by decide) (lc_write X next C S R h H locs hP hD hS ls hl)
    · exact lv_tableIn (off := 1085) (tgt := 1118) hx hb dL_law_33 (by decide) (by decide) (by decide) (by decide) (lc_count X next C S R h H locs hP hD hS ls hl)
    · exact lv_tableIn (off := 1108) (tgt := 1141) hx hb dL_law_33 (by decide) (by decide) (by decide) (by decide) (lc_digest X next C S R h H locs hP hD hS ls hl)
  · refine lv_tableOut (tgt := 1155) hx hb dL_law_33 (Or.inr (by rw [zl_T (by omega)]; omega)) (by decide) ?_
    exact next C S R h H locs hP hD hS ls hl
set_option maxHeartbeats 8000000 in
set_option maxRecDepth 100000 in
theorem lw_loop {p : Program} {l : Launch} {e : Env} {s : State} {m : MethodId} {below : List Frame} {meth : Method} {c : Code} {b L : Nat} {xs : Nat → Int32} {D : va_G} {tb : Nat → Nat} {q : Nat → Nat} {k : Nat → ClassId} {q2 : Nat → Nat} {k2 : Nat → ClassId} {F : Nat} (hL : L ≤ 384) (hr : meth.sig.returnType = ret) (hlocks : meth.locks = false) (hfx : CallFix p m c cL_law 4 s #[Value.ref b] wsL_law RL) (hK : va_K D vwCl (lwt9 k ++ lwt10 k2) s) (hE : zz_EX tb (lwA s) s s.heap) (hX : va_X b L xs s s.heap) (hbl : b < s.heap.size) (hF : 2000 ≤ F) : ∀ (n i : Nat), i < 400 → L + 6 ≤ i + 6 * n → lw_go p l e s m below meth c b L xs D tb q k q2 k2 F i 18 := by
  obtain ⟨hx, hb, hml, hown, hts⟩ := id hfx
  have hbA : ¬ lwA s b := Nat.not_le.mpr hbl
  intro n
  induction n with
  | zero =>
    intro i hi hn C S R h H locs hP hD hS ls hl
    exact lw_exit hx hb hr hlocks hX hbl hbA hL hi (by omega) hS hl
  | succ n ih =>
    intro i hi hn C S R h H locs hP hD hS ls hl
    by_cases q6 : i + 6 ≤ L
    · refine lv_iload_n hx hb dL_law_18 rfl (lv_at hl 3 rfl) ?_
      refine lv_aload_n hx hb dL_law_19 rfl (lv_at hl 0 rfl) ?_
      refine va_slen hx hb hX hbl hbA hS dL_law_20 ?_
      refine lv_bipush (v := 6) hx hb dL_law_21 (by decide) ?_
      refine lv_isub hx hb dL_law_23 ?_
      refine lv_icmp_gt (tgt := 1161) hx hb dL_law_24 (by decide) (fun z => absurd z ?_) (fun _ => ?_)
      · exact lw_cmp (by omega) (by omega) q6
      · have X : lw_cx p l e s m below meth c b L xs D tb q k q2 k2 F i := ⟨hfx, hK, hE, hX, hbl, hF, vp_in_nI (by omega) (by omega), lw_ix (j := 1) (by omega) (by omega), lw_ix (j := 2) (by omega) (by omega), lw_ix (j := 3) (by omega) (by omega), lw_ix (j := 4) (by omega) (by omega), lw_ix (j := 5) (by omega) (by omega)⟩
        refine lw_switch X ?_ C S R h H locs hP hD hS ls hl
        intro C S R h H locs hP hD hS ls hl
        refine lv_iinc (v := nI (i + 6)) (lv' := [(3, .int (nI (i + 6))), (0, .ref b), (1, .ref (q 0)), (2, .ref (q2 0))]) hx hb dL_law_1155 hl (k := 3) rfl (nI_add i 6) (by decide) rfl (fun ls hl => ?_)
        refine lv_goto (tgt := 18) hx hb dL_law_1158 (by decide) ?_
        exact ih (i + 6) (by omega) (by omega) C S R h H locs hP hD hS ls (lv_sub hl [1, 2, 3, 0] rfl)
    · exact lw_exit hx hb hr hlocks hX hbl hbA hL hi (by omega) hS hl
