def rmX10_in : Room := { frames := 0, cells := 0, slots := 0, locals := 0 }
set_option maxHeartbeats 4000000 in
set_option maxRecDepth 100000 in
theorem zc_X10_in (l : Launch) (D : va_G) (tb : Nat → Nat)  (F : Nat) (u0 : Int32) (u1 : Int32) (u2 : Int32)  (r : Int32) (hf : pX10_in F u0 u1 u2 = some r) : zz_Mi l yX10_in wsX10_in rmX10_in D tb [] [.int u0, .int u1, .int u2] zw_none zw_none r := by
  refine zz_ofz (cc := cX10_in) (maxL := 3) (by decide) rfl (Nat.le_of_ble_eq_true rfl) ?_
  intro p e s m args below meth c A Q hfx hK hA hE hret H locs hP hD hS ls hl
  obtain ⟨hx, hb, hml, hown, hts⟩ := id hfx
  have hl : lv_has ls 3 [(0, .int u0), (1, .int u1), (2, .int u2)] := hl
  unfold pX10_in at hf
  refine lv_iload_n hx hb dX10_in_0 rfl (lv_at hl 0 rfl) ?_
  refine lv_iload_n hx hb dX10_in_1 rfl (lv_at hl 1 rfl) ?_
  obtain ⟨v1, hv1, hf⟩ := zz_lts hf
  have hK2 : ∀ ls : Array Slot, lv_has ls 3 [] → W p l e rmX10_in s m args below meth c H locs 0 0 Q (F0 m 15 ls [.int v1]) := by
    intro ls hl
    obtain rfl := zz_e1 hf
    exact hret _ _ _ _ (by rw [hv1]; (repeat' split) <;> rfl) dX10_in_15 hP hD hS
  refine lv_icmp_lt (tgt := 14) hx hb dX10_in_2 (by decide) (fun c2 => ?_) (fun c2 => ?_)
  · refine lv_iconst (v := (0 : Int32)) hx hb dX10_in_14 (by decide) ?_
    refine zz_ti (show v1 = (0 : Int32) by rw [hv1, if_pos c2]) ?_
    exact hK2 ls (lv_sub hl [] rfl)
  · refine lv_iload_n hx hb dX10_in_5 rfl (lv_at hl 0 rfl) ?_
    refine lv_iload_n hx hb dX10_in_6 rfl (lv_at hl 2 rfl) ?_
    refine lv_icmp_gt (tgt := 14) hx hb dX10_in_7 (by decide) (fun c7 => ?_) (fun c7 => ?_)
    · refine lv_iconst (v := (0 : Int32)) hx hb dX10_in_14 (by decide) ?_
      refine zz_ti (show v1 = (0 : Int32) by rw [hv1, if_neg c2, if_pos c7]) ?_
      exact hK2 ls (lv_sub hl [] rfl)
    · refine lv_iconst (v := (1 : Int32)) hx hb dX10_in_10 (by decide) ?_
      refine lv_goto (tgt := 15) hx hb dX10_in_11 (by decide) ?_
      refine zz_ti (show v1 = (1 : Int32) by rw [hv1, if_neg c2, if_neg c7]) ?_
      exact hK2 ls (lv_sub hl [] rfl)
def rmX10_isIn : Room := { frames := 0, cells := 0, slots := 0, locals := 0 }
set_option maxHeartbeats 4000000 in
set_option maxRecDepth 100000 in
theorem zc_X10_isIn (l : Launch) (D : va_G) (tb : Nat → Nat)  (F : Nat) (u0 : Int32) (u1 : Int32)  (r : Int32) (hf : pX10_isIn F u0 u1 = some r) : zz_Mi l yX10_isIn wsX10_isIn rmX10_isIn D tb [] [.int u0, .int u1] zw_none zw_none r := by
  refine zz_ofz (cc := cX10_isIn) (maxL := 2) (by decide) rfl (Nat.le_of_ble_eq_true rfl) ?_
  intro p e s m args below meth c A Q hfx hK hA hE hret H locs hP hD hS ls hl
  obtain ⟨hx, hb, hml, hown, hts⟩ := id hfx
  have hl : lv_has ls 2 [(0, .int u0), (1, .int u1)] := hl
  unfold pX10_isIn at hf
  refine lv_iload_n hx hb dX10_isIn_0 rfl (lv_at hl 0 rfl) ?_
  refine lv_iload_n hx hb dX10_isIn_1 rfl (lv_at hl 1 rfl) ?_
  refine lv_ishr hx hb dX10_isIn_2 ?_
  refine lv_iconst (v := (1 : Int32)) hx hb dX10_isIn_3 (by decide) ?_
  refine lv_iand hx hb dX10_isIn_4 ?_
  refine lv_iconst (v := (1 : Int32)) hx hb dX10_isIn_5 (by decide) ?_
  obtain ⟨v1, hv1, hf⟩ := zz_lts hf
  have hK2 : ∀ ls : Array Slot, lv_has ls 2 [] → W p l e rmX10_isIn s m args below meth c H locs 0 0 Q (F0 m 14 ls [.int v1]) := by
    intro ls hl
    obtain rfl := zz_e1 hf
    exact hret _ _ _ _ (by rw [hv1]; (repeat' split) <;> rfl) dX10_isIn_14 hP hD hS
  refine lv_icmp_ne (tgt := 13) hx hb dX10_isIn_6 (by decide) (fun c6 => ?_) (fun c6 => ?_)
  · refine lv_iconst (v := (0 : Int32)) hx hb dX10_isIn_13 (by decide) ?_
    refine zz_ti (show v1 = (0 : Int32) by rw [hv1, if_neg c6]) ?_
    exact hK2 ls (lv_sub hl [] rfl)
  · refine lv_iconst (v := (1 : Int32)) hx hb dX10_isIn_9 (by decide) ?_
    refine lv_goto (tgt := 14) hx hb dX10_isIn_10 (by decide) ?_
    refine zz_ti (show v1 = (1 : Int32) by rw [hv1, if_pos c6]) ?_
    exact hK2 ls (lv_sub hl [] rfl)
def rmX10_no : Room := { frames := 0, cells := 0, slots := 0, locals := 0 }
set_option maxHeartbeats 4000000 in
set_option maxRecDepth 100000 in
theorem zc_X10_no (l : Launch) (D : va_G) (tb : Nat → Nat)  (F : Nat) (u0 : Int32)  (r : Int64) (hf : pX10_no F u0 = some r) : zz_Ml l yX10_no wsX10_no rmX10_no D tb [] [.int u0] zw_none zw_none r := by
  refine zz_ofl (cc := cX10_no) (maxL := 1) (by decide) rfl (Nat.le_of_ble_eq_true rfl) ?_
  intro p e s m args below meth c A Q hfx hK hA hE hret H locs hP hD hS ls hl
  obtain ⟨hx, hb, hml, hown, hts⟩ := id hfx
  have kc78 := hts (.constantLong RX10 78 (-9223372036854775808)) (by decide +kernel)
  have hl : lv_has ls 1 [(0, .int u0)] := hl
  unfold pX10_no at hf
  refine lv_ldc2 (v := (-9223372036854775808 : Int64)) hx hb hown kc78 dX10_no_0 ?_
  refine lv_iload_n hx hb dX10_no_3 rfl (lv_at hl 0 rfl) ?_
  refine lv_i2l (v := (Int32.toInt64 u0)) hx hb dX10_no_4 rfl ?_
  refine lv_lsub hx hb dX10_no_5 ?_
  obtain rfl := zz_e1 hf
  exact hret _ _ _ _ dX10_no_6 hP hD hS
def rmX10_lowest : Room := { frames := 0, cells := 0, slots := 0, locals := 0 }
set_option maxHeartbeats 4000000 in
set_option maxRecDepth 100000 in
theorem zc_X10_lowest (l : Launch) (D : va_G) (tb : Nat → Nat)  (F : Nat) (u0 : Int64) (u1 : Int64) (u2 : Int32)  (r : Int64) (hf : pX10_lowest F u0 u1 u2 = some r) : zz_Ml l yX10_lowest wsX10_lowest rmX10_lowest D tb [] [.long u0, .long u1, .int u2] zw_none zw_none r := by
  refine zz_ofl (cc := cX10_lowest) (maxL := 11) (by decide) rfl (Nat.le_of_ble_eq_true rfl) ?_
  intro p e s m args below meth c A Q hfx hK hA hE hret H locs hP hD hS ls hl
  obtain ⟨hx, hb, hml, hown, hts⟩ := id hfx
  have hl : lv_has ls 11 [(0, .long u0), (2, .long u1), (4, .int u2)] := hl
  unfold pX10_lowest at hf
  refine lv_lload_n hx hb dX10_lowest_0 rfl (lv_at hl 0 rfl) ?_
  refine lv_lstore (lv' := [(5, .long u0), (0, .long u0), (2, .long u1), (4, .int u2)]) hx hb dX10_lowest_1 hl (by decide) rfl (fun ls hl => ?_)
  refine lv_lload_n hx hb dX10_lowest_3 rfl (lv_at hl 2 rfl) ?_
  refine lv_lstore (lv' := [(7, .long u1), (5, .long u0), (0, .long u0), (2, .long u1), (4, .int u2)]) hx hb dX10_lowest_4 hl (by decide) rfl (fun ls hl => ?_)
  have hLkL6_2 : ∀ (n6_2 : Nat) (x1 : Int64) (x2 : Int64) (H : Heap) (locs : List Loc), va_P D vwCl zw_none H → va_D A zw_none → va_S A s.heap H locs → ∀ ls : Array Slot, lv_has ls 11 [(0, .long u0), (2, .long u1), (4, .int u2), (5, .long x1), (7, .long x2)] → pX10_lowest_L6_2 u0 u1 u2 n6_2 x1 x2 = some r → W p l e rmX10_lowest s m args below meth c H locs 0 0 Q (F0 m 6 ls []) := by
    intro n6_2
    induction n6_2 with
    | zero =>
      intro x1 x2 H locs hP hD hS ls hl hf
      exact nomatch (show (none : Option _) = some _ from hf)
    | succ n6_2 ihkL6_2 =>
      intro x1 x2 H locs hP hD hS ls hl hf
      rw [pX10_lowest_L6_2] at hf
      refine lv_lload hx hb dX10_lowest_6 (lv_at hl 4 rfl) ?_
      refine lv_lconst (v := (0 : Int64)) hx hb dX10_lowest_8 (by decide) ?_
      refine W.lcmp hx hb dX10_lowest_9 ?_
      refine lv_if_eq (tgt := 31) hx hb dX10_lowest_10 (by decide) (fun c10 => ?_) (fun c10 => ?_)
      · have hf := zz_ps hf c10
        refine lv_iload hx hb dX10_lowest_31 (lv_at hl 2 rfl) ?_
        obtain ⟨j47_5, hj47_5, hf⟩ := zz_lts hf
        have Kj47_5 : ∀ (y4 : Int64) (H : Heap) (locs : List Loc), va_P D vwCl zw_none H → va_D A zw_none → va_S A s.heap H locs → ∀ ls : Array Slot, lv_has ls 11 [] → j47_5 y4 = some r → W p l e rmX10_lowest s m args below meth c H locs 0 0 Q (F0 m 47 ls [.long y4]) := by
          intro y4 H locs hP hD hS ls hl hf
          rw [hj47_5] at hf
          obtain rfl := zz_e1 hf
          exact hret _ _ _ _ dX10_lowest_47 hP hD hS
        refine lv_if_ne (tgt := 43) hx hb dX10_lowest_33 (by decide) (fun c33 => ?_) (fun c33 => ?_)
        · have hf := zz_ng hf c33
          refine lv_lload_n hx hb dX10_lowest_43 rfl (lv_at hl 1 rfl) ?_
          refine lv_lload hx hb dX10_lowest_44 (lv_at hl 3 rfl) ?_
          obtain ⟨hg6, hf⟩ := zz_gd hf
          refine lv_ldiv hx hb dX10_lowest_46 hg6 ?_
          exact Kj47_5 (u1 / x1) _ _ hP hD hS ls (lv_sub hl [] rfl) hf
        · have hf := zz_ps hf c33
          refine lv_lload_n hx hb dX10_lowest_36 rfl (lv_at hl 0 rfl) ?_
          refine lv_lload hx hb dX10_lowest_37 (lv_at hl 3 rfl) ?_
          obtain ⟨hg7, hf⟩ := zz_gd hf
          refine lv_ldiv hx hb dX10_lowest_39 hg7 ?_
          refine lv_goto (tgt := 47) hx hb dX10_lowest_40 (by decide) ?_
          exact Kj47_5 (u0 / x1) _ _ hP hD hS ls (lv_sub hl [] rfl) hf
      · have hf := zz_ng hf c10
        refine lv_lload hx hb dX10_lowest_13 (lv_at hl 3 rfl) ?_
        refine lv_lload hx hb dX10_lowest_15 (lv_at hl 4 rfl) ?_
        obtain ⟨hg8, hf⟩ := zz_gd hf
        refine lv_lrem hx hb dX10_lowest_17 hg8 ?_
        obtain ⟨v9, hv9, hf⟩ := zz_lts hf
        refine zz_tl hv9 ?_
        refine lv_lstore (lv' := [(9, .long v9), (0, .long u0), (2, .long u1), (4, .int u2), (5, .long x1), (7, .long x2)]) hx hb dX10_lowest_18 hl (by decide) rfl (fun ls hl => ?_)
        refine lv_lload hx hb dX10_lowest_20 (lv_at hl 5 rfl) ?_
        refine lv_lstore (lv' := [(5, .long x2), (9, .long v9), (0, .long u0), (2, .long u1), (4, .int u2), (7, .long x2)]) hx hb dX10_lowest_22 hl (by decide) rfl (fun ls hl => ?_)
        refine lv_lload hx hb dX10_lowest_24 (lv_at hl 1 rfl) ?_
        refine lv_lstore (lv' := [(7, .long v9), (5, .long x2), (9, .long v9), (0, .long u0), (2, .long u1), (4, .int u2)]) hx hb dX10_lowest_26 hl (by decide) rfl (fun ls hl => ?_)
        refine lv_goto (tgt := 6) hx hb dX10_lowest_28 (by decide) ?_
        exact ihkL6_2 x2 v9 _ _ hP hD hS ls (lv_sub hl [3, 4, 5, 1, 0] rfl) hf
  exact hLkL6_2 F u0 u1 _ _ hP hD hS ls (lv_sub hl [2, 3, 4, 1, 0] rfl) hf
def rmX10_isText : Room := { frames := 1, cells := 0, slots := 0, locals := 22 }
set_option maxHeartbeats 4000000 in
set_option maxRecDepth 100000 in
theorem zc_X10_isText (l : Launch) (D : va_G) (tb : Nat → Nat)  (F : Nat) (u0 : Int32)  (r : Int32) (hf : pX10_isText F u0 = some r) : zz_Mi l yX10_isText wsX10_isText rmX10_isText D tb [] [.int u0] zw_none zw_none r := by
  refine zz_ofz (cc := cX10_isText) (maxL := 1) (by decide) rfl (Nat.le_of_ble_eq_true rfl) ?_
  intro p e s m args below meth c A Q hfx hK hA hE hret H locs hP hD hS ls hl
  obtain ⟨hx, hb, hml, hown, hts⟩ := id hfx
  have hl : lv_has ls 1 [(0, .int u0)] := hl
  unfold pX10_isText at hf
  refine lv_iload_n hx hb dX10_isText_0 rfl (lv_at hl 0 rfl) ?_
  refine lv_iconst (v := (0 : Int32)) hx hb dX10_isText_1 (by decide) ?_
  refine lv_iconst (v := (2 : Int32)) hx hb dX10_isText_2 (by decide) ?_
  obtain ⟨r1, hc2, hf⟩ := zz_b1s hf
  refine zz_ji (va_runS (As := [.int u0, .int (0 : Int32), .int (2 : Int32)]) (rest := []) hfx (zc_X10_in l D tb  F u0 (0 : Int32) (2 : Int32)  r1 hc2 H.size) (va_cwS 3 hts gX10_isText_X10_in rfl rfl rfl (by decide +kernel) ⟨Nat.le_of_ble_eq_true rfl, Nat.le_of_ble_eq_true rfl⟩) (zz_preS hK hP hD hS hA hE [] [] rfl (by decide) rfl) rfl rfl hl.1 rfl (lv_room (Nat.le_of_ble_eq_true rfl)) dX10_isText_3 ⟨Nat.zero_le _, Nat.zero_le _⟩) hP hD hS hA [] rfl rfl (fun H locs hP hD hS => ?_)
  have hP : va_P D vwCl zw_none H := hP
  have hD : va_D A zw_none := hD
  obtain ⟨hg3, hf⟩ := zz_gd hf
  obtain rfl := zz_e1 hf
  exact hret _ _ _ _ (zz_nb hg3) dX10_isText_6 hP hD hS
def rmX10_isNumber : Room := { frames := 1, cells := 0, slots := 0, locals := 22 }
set_option maxHeartbeats 4000000 in
set_option maxRecDepth 100000 in
theorem zc_X10_isNumber (l : Launch) (D : va_G) (tb : Nat → Nat)  (F : Nat) (u0 : Int32)  (r : Int32) (hf : pX10_isNumber F u0 = some r) : zz_Mi l yX10_isNumber wsX10_isNumber rmX10_isNumber D tb [] [.int u0] zw_none zw_none r := by
  refine zz_ofz (cc := cX10_isNumber) (maxL := 1) (by decide) rfl (Nat.le_of_ble_eq_true rfl) ?_
  intro p e s m args below meth c A Q hfx hK hA hE hret H locs hP hD hS ls hl
  obtain ⟨hx, hb, hml, hown, hts⟩ := id hfx
  have hl : lv_has ls 1 [(0, .int u0)] := hl
  unfold pX10_isNumber at hf
  refine lv_iload_n hx hb dX10_isNumber_0 rfl (lv_at hl 0 rfl) ?_
  refine lv_iconst (v := (0 : Int32)) hx hb dX10_isNumber_1 (by decide) ?_
  refine lv_bipush (v := (95 : Int32)) hx hb dX10_isNumber_2 (by decide) ?_
  obtain ⟨r1, hc2, hf⟩ := zz_b1s hf
  refine zz_ji (va_runS (As := [.int u0, .int (0 : Int32), .int (95 : Int32)]) (rest := []) hfx (zc_X10_in l D tb  F u0 (0 : Int32) (95 : Int32)  r1 hc2 H.size) (va_cwS 3 hts gX10_isNumber_X10_in rfl rfl rfl (by decide +kernel) ⟨Nat.le_of_ble_eq_true rfl, Nat.le_of_ble_eq_true rfl⟩) (zz_preS hK hP hD hS hA hE [] [] rfl (by decide) rfl) rfl rfl hl.1 rfl (lv_room (Nat.le_of_ble_eq_true rfl)) dX10_isNumber_4 ⟨Nat.zero_le _, Nat.zero_le _⟩) hP hD hS hA [] rfl rfl (fun H locs hP hD hS => ?_)
  have hP : va_P D vwCl zw_none H := hP
  have hD : va_D A zw_none := hD
  obtain ⟨hg3, hf⟩ := zz_gd hf
  obtain rfl := zz_e1 hf
  exact hret _ _ _ _ (zz_nb hg3) dX10_isNumber_7 hP hD hS
def rmX10_type : Room := { frames := 2, cells := 0, slots := 0, locals := 42 }
set_option maxHeartbeats 4000000 in
set_option maxRecDepth 100000 in
theorem zc_X10_type (l : Launch) (D : va_G) (tb : Nat → Nat) (q : Nat → Nat) (k : Nat → ClassId) (F : Nat) (u0 : Int32) (u1 : Int32) (S : zz_M) (r : Int32) (o1 : zz_M) (hf : pX10_type F u0 u1 S = some (r, o1)) : zz_Mi l yX10_type wsX10_type rmX10_type D tb [((k 1), .int), ((k 2), .int), ((k 3), .int), ((k 4), .int), ((k 5), .int), ((k 6), .int), ((k 7), .int), ((k 8), .boolean), ((k 9), .int), ((k 10), .int), ((k 11), .int), ((k 12), .int), ((k 13), .int), ((k 14), .int), ((k 15), .int), ((k 16), .boolean), ((k 17), .int), ((k 18), .int), ((k 19), .int), ((k 20), .int)] [.ref (q 0), .int u0, .int u1] (zw_10 q k S) (zw_10 q k o1) r := by
  refine zz_ofi (cc := cX10_type) (maxL := 3) (by decide) rfl (Nat.le_of_ble_eq_true rfl) ?_
  intro p e s m args below meth c A Q hfx hK hA hE hret H locs hP hD hS ls hl
  obtain ⟨hx, hb, hml, hown, hts⟩ := id hfx
  have inX10 : ∀ w ∈ u_ws RX10 TX10 34, w ∈ wsX10_type := by decide +kernel
  have lk7 := hts (.fieldLink RX10 7 "CatBeatModel" "typed" "[I") (by decide +kernel)
  have lk13 := hts (.fieldLink RX10 13 "CatBeatModel" "texts" "[I") (by decide +kernel)
  have hl : lv_has ls 3 [(0, .ref (q 0)), (1, .int u0), (2, .int u1)] := hl
  unfold pX10_type at hf
  refine lv_iload_n hx hb dX10_type_0 rfl (lv_at hl 1 rfl) ?_
  obtain ⟨r1, hc2, hf⟩ := zz_b1s hf
  refine zz_ji (va_runS (As := [.int u0]) (rest := []) hfx (zc_X10_isText l D tb  F u0  r1 hc2 H.size) (va_cwS 1 hts gX10_type_X10_isText rfl rfl rfl (by decide +kernel) ⟨Nat.le_of_ble_eq_true rfl, Nat.le_of_ble_eq_true rfl⟩) (zz_preS hK hP hD hS hA hE [] [] rfl (by decide) rfl) rfl rfl hl.1 rfl (lv_room (Nat.le_of_ble_eq_true rfl)) dX10_type_1 ⟨Nat.zero_le _, Nat.zero_le _⟩) hP hD hS hA [] rfl rfl (fun H locs hP hD hS => ?_)
  have hP : va_P D vwCl (zw_10 q k S) H := hP
  have hD : va_D A (zw_10 q k S) := hD
  obtain ⟨j18_3, hj18_3, hf⟩ := zz_lts hf
  have Kj18_3 : ∀  (H : Heap) (locs : List Loc), va_P D vwCl (zw_10 q k S) H → va_D A (zw_10 q k S) → va_S A s.heap H locs → ∀ ls : Array Slot, lv_has ls 3 [] → j18_3 () = some (r, o1) → W p l e rmX10_type s m args below meth c H locs 0 0 Q (F0 m 18 ls []) := by
    intro  H locs hP hD hS ls hl hf
    rw [hj18_3] at hf
    refine lv_bipush (v := (-2 : Int32)) hx hb dX10_type_18 (by decide) ?_
    obtain ⟨rfl, rfl⟩ := zz_e2 hf
    exact hret _ _ _ _ dX10_type_20 hP hD hS
  refine lv_if_eq (tgt := 18) hx hb dX10_type_4 (by decide) (fun c4 => ?_) (fun c4 => ?_)
  · have hf := zz_ps hf c4
    exact Kj18_3  _ _ hP hD hS ls (lv_sub hl [] rfl) hf
  · have hf := zz_ng hf c4
    refine lv_iload_n hx hb dX10_type_7 rfl (lv_at hl 2 rfl) ?_
    refine lv_iconst (v := (0 : Int32)) hx hb dX10_type_8 (by decide) ?_
    refine lv_sipush (v := (255 : Int32)) hx hb dX10_type_9 (by decide) ?_
    obtain ⟨r4, hc5, hf⟩ := zz_b1s hf
    refine zz_ji (va_runS (As := [.int u1, .int (0 : Int32), .int (255 : Int32)]) (rest := []) hfx (zc_X10_in l D tb  F u1 (0 : Int32) (255 : Int32)  r4 hc5 H.size) (va_cwS 3 hts gX10_type_X10_in rfl rfl rfl (by decide +kernel) ⟨Nat.le_of_ble_eq_true rfl, Nat.le_of_ble_eq_true rfl⟩) (zz_preS hK hP hD hS hA hE [] [] rfl (by decide) rfl) rfl rfl hl.1 rfl (lv_room (Nat.le_of_ble_eq_true rfl)) dX10_type_12 ⟨Nat.zero_le _, Nat.zero_le _⟩) hP hD hS hA [] rfl rfl (fun H locs hP hD hS => ?_)
    have hP : va_P D vwCl (zw_10 q k S) H := hP
    have hD : va_D A (zw_10 q k S) := hD
    refine lv_if_ne (tgt := 21) hx hb dX10_type_15 (by decide) (fun c15 => ?_) (fun c15 => ?_)
    · have hf := zz_ng hf c15
      refine lv_aload_n hx hb dX10_type_21 rfl (lv_at hl 0 rfl) ?_
      refine va_get (D := D) (ci := 10) (v := .ref (q 1)) (C := RX10) (T := TX10) (N := 34) hx hb hts inX10 hown hK hP 0 rfl rfl 0 (by decide) lk7 (fun _ h9 => h9) rfl dX10_type_22 ?_
      refine lv_iload_n hx hb dX10_type_25 rfl (lv_at hl 1 rfl) ?_
      obtain ⟨hg6, hf⟩ := zz_gd hf
      refine va_iald hx hb hK hP 1 0 rfl rfl hg6 dX10_type_26 ?_
      refine lv_iload_n hx hb dX10_type_27 rfl (lv_at hl 1 rfl) ?_
      obtain ⟨v7, hv7, hf⟩ := zz_lts hf
      have hK8 : ∀ ls : Array Slot, lv_has ls 3 [(0, .ref (q 0)), (1, .int u0), (2, .int u1)] → W p l e rmX10_type s m args below meth c H locs 0 0 Q (F0 m 48 ls [.int v7, .int ((zz_gA S 0) (Int32.toNatClampNeg u0))]) := by
        intro ls hl
        refine lv_icmp_ne (tgt := 54) hx hb dX10_type_48 (by decide) (fun c48 => ?_) (fun c48 => ?_)
        · have hf := zz_ng hf c48
          refine lv_aload_n hx hb dX10_type_54 rfl (lv_at hl 0 rfl) ?_
          refine va_get (D := D) (ci := 10) (v := .ref (q 2)) (C := RX10) (T := TX10) (N := 34) hx hb hts inX10 hown hK hP 0 rfl rfl 1 (by decide) lk13 (fun _ h9 => h9) rfl dX10_type_55 ?_
          refine lv_bipush (v := (41 : Int32)) hx hb dX10_type_58 (by decide) ?_
          refine lv_iload_n hx hb dX10_type_60 rfl (lv_at hl 1 rfl) ?_
          refine lv_imul hx hb dX10_type_61 ?_
          refine lv_aload_n hx hb dX10_type_62 rfl (lv_at hl 0 rfl) ?_
          refine va_get (D := D) (ci := 10) (v := .ref (q 1)) (C := RX10) (T := TX10) (N := 34) hx hb hts inX10 hown hK hP 0 rfl rfl 0 (by decide) lk7 (fun _ h9 => h9) rfl dX10_type_63 ?_
          refine lv_iload_n hx hb dX10_type_66 rfl (lv_at hl 1 rfl) ?_
          obtain ⟨hg9, hf⟩ := zz_gd hf
          refine va_iald hx hb hK hP 1 0 rfl rfl hg9 dX10_type_67 ?_
          refine lv_iadd hx hb dX10_type_68 ?_
          refine lv_iload_n hx hb dX10_type_69 rfl (lv_at hl 2 rfl) ?_
          obtain ⟨hg10, hf⟩ := zz_gd hf
          obtain ⟨S11, hS11, hf⟩ := zz_lts hf
          refine va_iast hx hb hK hP hD hS 2 1 rfl rfl hg10 dX10_type_70 (fun H locs hP hD hS => ?_)
          have hP : va_P D vwCl (zw_10 q k S11) H := by rw [hS11]; exact hP
          have hD : va_D A (zw_10 q k S11) := by rw [hS11]; exact hD
          refine lv_aload_n hx hb dX10_type_71 rfl (lv_at hl 0 rfl) ?_
          refine va_get (D := D) (ci := 10) (v := .ref (q 1)) (C := RX10) (T := TX10) (N := 34) hx hb hts inX10 hown hK hP 0 rfl rfl 0 (by decide) lk7 (fun _ h9 => h9) rfl dX10_type_72 ?_
          refine lv_iload_n hx hb dX10_type_75 rfl (lv_at hl 1 rfl) ?_
          refine lv_dup2_11 hx hb dX10_type_76 rfl rfl ?_
          obtain ⟨hg12, hf⟩ := zz_gd hf
          refine va_iald hx hb hK hP 1 0 rfl rfl hg12 dX10_type_77 ?_
          refine lv_iconst (v := (1 : Int32)) hx hb dX10_type_78 (by decide) ?_
          refine lv_iadd hx hb dX10_type_79 ?_
          obtain ⟨hg13, hf⟩ := zz_gd hf
          obtain ⟨S14, hS14, hf⟩ := zz_lts hf
          refine va_iast hx hb hK hP hD hS 1 0 rfl rfl hg13 dX10_type_80 (fun H locs hP hD hS => ?_)
          have hP : va_P D vwCl (zw_10 q k S14) H := by rw [hS14]; exact hP
          have hD : va_D A (zw_10 q k S14) := by rw [hS14]; exact hD
          refine lv_aload_n hx hb dX10_type_81 rfl (lv_at hl 0 rfl) ?_
          refine va_get (D := D) (ci := 10) (v := .ref (q 1)) (C := RX10) (T := TX10) (N := 34) hx hb hts inX10 hown hK hP 0 rfl rfl 0 (by decide) lk7 (fun _ h9 => h9) rfl dX10_type_82 ?_
          refine lv_iload_n hx hb dX10_type_85 rfl (lv_at hl 1 rfl) ?_
          obtain ⟨hg15, hf⟩ := zz_gd hf
          refine va_iald hx hb hK hP 1 0 rfl rfl hg15 dX10_type_86 ?_
          obtain ⟨rfl, rfl⟩ := zz_e2 hf
          exact hret _ _ _ _ dX10_type_87 hP hD hS
        · have hf := zz_ps hf c48
          refine lv_bipush (v := (-4 : Int32)) hx hb dX10_type_51 (by decide) ?_
          obtain ⟨rfl, rfl⟩ := zz_e2 hf
          exact hret _ _ _ _ dX10_type_53 hP hD hS
      refine lv_if_ne (tgt := 36) hx hb dX10_type_28 (by decide) (fun c28 => ?_) (fun c28 => ?_)
      · refine lv_iload_n hx hb dX10_type_36 rfl (lv_at hl 1 rfl) ?_
        refine lv_iconst (v := (1 : Int32)) hx hb dX10_type_37 (by decide) ?_
        refine lv_icmp_ne (tgt := 46) hx hb dX10_type_38 (by decide) (fun c38 => ?_) (fun c38 => ?_)
        · refine lv_bipush (v := (31 : Int32)) hx hb dX10_type_46 (by decide) ?_
          refine zz_ti (show v7 = (31 : Int32) by rw [hv7, if_neg c28, if_neg c38]) ?_
          exact hK8 ls (lv_sub hl [0, 1, 2] rfl)
        · refine lv_bipush (v := (24 : Int32)) hx hb dX10_type_41 (by decide) ?_
          refine lv_goto (tgt := 48) hx hb dX10_type_43 (by decide) ?_
          refine zz_ti (show v7 = (24 : Int32) by rw [hv7, if_neg c28, if_pos c38]) ?_
          exact hK8 ls (lv_sub hl [0, 1, 2] rfl)
      · refine lv_bipush (v := (41 : Int32)) hx hb dX10_type_31 (by decide) ?_
        refine lv_goto (tgt := 48) hx hb dX10_type_33 (by decide) ?_
        refine zz_ti (show v7 = (41 : Int32) by rw [hv7, if_pos c28]) ?_
        exact hK8 ls (lv_sub hl [0, 1, 2] rfl)
    · have hf := zz_ps hf c15
      exact Kj18_3  _ _ hP hD hS ls (lv_sub hl [] rfl) hf
def rmX10_wipe : Room := { frames := 2, cells := 0, slots := 0, locals := 42 }
set_option maxHeartbeats 4000000 in
set_option maxRecDepth 100000 in
theorem zc_X10_wipe (l : Launch) (D : va_G) (tb : Nat → Nat) (q : Nat → Nat) (k : Nat → ClassId) (F : Nat) (u0 : Int32) (S : zz_M) (r : Int32) (o1 : zz_M) (hf : pX10_wipe F u0 S = some (r, o1)) : zz_Mi l yX10_wipe wsX10_wipe rmX10_wipe D tb [((k 1), .int), ((k 2), .int), ((k 3), .int), ((k 4), .int), ((k 5), .int), ((k 6), .int), ((k 7), .int), ((k 8), .boolean), ((k 9), .int), ((k 10), .int), ((k 11), .int), ((k 12), .int), ((k 13), .int), ((k 14), .int), ((k 15), .int), ((k 16), .boolean), ((k 17), .int), ((k 18), .int), ((k 19), .int), ((k 20), .int)] [.ref (q 0), .int u0] (zw_10 q k S) (zw_10 q k o1) r := by
  refine zz_ofi (cc := cX10_wipe) (maxL := 3) (by decide) rfl (Nat.le_of_ble_eq_true rfl) ?_
  intro p e s m args below meth c A Q hfx hK hA hE hret H locs hP hD hS ls hl
  obtain ⟨hx, hb, hml, hown, hts⟩ := id hfx
  have inX10 : ∀ w ∈ u_ws RX10 TX10 34, w ∈ wsX10_wipe := by decide +kernel
  have lk7 := hts (.fieldLink RX10 7 "CatBeatModel" "typed" "[I") (by decide +kernel)
  have hl : lv_has ls 3 [(0, .ref (q 0)), (1, .int u0)] := hl
  unfold pX10_wipe at hf
  refine lv_iload_n hx hb dX10_wipe_0 rfl (lv_at hl 1 rfl) ?_
  obtain ⟨r1, hc2, hf⟩ := zz_b1s hf
  refine zz_ji (va_runS (As := [.int u0]) (rest := []) hfx (zc_X10_isText l D tb  F u0  r1 hc2 H.size) (va_cwS 1 hts gX10_wipe_X10_isText rfl rfl rfl (by decide +kernel) ⟨Nat.le_of_ble_eq_true rfl, Nat.le_of_ble_eq_true rfl⟩) (zz_preS hK hP hD hS hA hE [] [] rfl (by decide) rfl) rfl rfl hl.1 rfl (lv_room (Nat.le_of_ble_eq_true rfl)) dX10_wipe_1 ⟨Nat.zero_le _, Nat.zero_le _⟩) hP hD hS hA [] rfl rfl (fun H locs hP hD hS => ?_)
  have hP : va_P D vwCl (zw_10 q k S) H := hP
  have hD : va_D A (zw_10 q k S) := hD
  refine lv_if_ne (tgt := 10) hx hb dX10_wipe_4 (by decide) (fun c4 => ?_) (fun c4 => ?_)
  · have hf := zz_ng hf c4
    refine lv_aload_n hx hb dX10_wipe_10 rfl (lv_at hl 0 rfl) ?_
    refine va_get (D := D) (ci := 10) (v := .ref (q 1)) (C := RX10) (T := TX10) (N := 34) hx hb hts inX10 hown hK hP 0 rfl rfl 0 (by decide) lk7 (fun _ h9 => h9) rfl dX10_wipe_11 ?_
    refine lv_iload_n hx hb dX10_wipe_14 rfl (lv_at hl 1 rfl) ?_
    obtain ⟨hg3, hf⟩ := zz_gd hf
    refine va_iald hx hb hK hP 1 0 rfl rfl hg3 dX10_wipe_15 ?_
    obtain ⟨v4, hv4, hf⟩ := zz_lts hf
    refine zz_ti hv4 ?_
    refine lv_istore_n (lv' := [(2, .int v4), (0, .ref (q 0)), (1, .int u0)]) hx hb dX10_wipe_16 rfl hl (by decide) rfl (fun ls hl => ?_)
    refine lv_aload_n hx hb dX10_wipe_17 rfl (lv_at hl 1 rfl) ?_
    refine va_get (D := D) (ci := 10) (v := .ref (q 1)) (C := RX10) (T := TX10) (N := 34) hx hb hts inX10 hown hK hP 0 rfl rfl 0 (by decide) lk7 (fun _ h9 => h9) rfl dX10_wipe_18 ?_
    refine lv_iload_n hx hb dX10_wipe_21 rfl (lv_at hl 2 rfl) ?_
    refine lv_iconst (v := (0 : Int32)) hx hb dX10_wipe_22 (by decide) ?_
    obtain ⟨hg5, hf⟩ := zz_gd hf
    obtain ⟨S6, hS6, hf⟩ := zz_lts hf
    refine va_iast hx hb hK hP hD hS 1 0 rfl rfl hg5 dX10_wipe_23 (fun H locs hP hD hS => ?_)
    have hP : va_P D vwCl (zw_10 q k S6) H := by rw [hS6]; exact hP
    have hD : va_D A (zw_10 q k S6) := by rw [hS6]; exact hD
    refine lv_iload_n hx hb dX10_wipe_24 rfl (lv_at hl 0 rfl) ?_
    obtain ⟨rfl, rfl⟩ := zz_e2 hf
    exact hret _ _ _ _ dX10_wipe_25 hP hD hS
  · have hf := zz_ps hf c4
    refine lv_bipush (v := (-2 : Int32)) hx hb dX10_wipe_7 (by decide) ?_
    obtain ⟨rfl, rfl⟩ := zz_e2 hf
    exact hret _ _ _ _ dX10_wipe_9 hP hD hS
def rmX10_undo : Room := { frames := 2, cells := 0, slots := 0, locals := 42 }
set_option maxHeartbeats 4000000 in
set_option maxRecDepth 100000 in
theorem zc_X10_undo (l : Launch) (D : va_G) (tb : Nat → Nat) (q : Nat → Nat) (k : Nat → ClassId) (F : Nat) (u0 : Int32) (S : zz_M) (r : Int32) (o1 : zz_M) (hf : pX10_undo F u0 S = some (r, o1)) : zz_Mi l yX10_undo wsX10_undo rmX10_undo D tb [((k 1), .int), ((k 2), .int), ((k 3), .int), ((k 4), .int), ((k 5), .int), ((k 6), .int), ((k 7), .int), ((k 8), .boolean), ((k 9), .int), ((k 10), .int), ((k 11), .int), ((k 12), .int), ((k 13), .int), ((k 14), .int), ((k 15), .int), ((k 16), .boolean), ((k 17), .int), ((k 18), .int), ((k 19), .int), ((k 20), .int)] [.ref (q 0), .int u0] (zw_10 q k S) (zw_10 q k o1) r := by
  refine zz_ofi (cc := cX10_undo) (maxL := 2) (by decide) rfl (Nat.le_of_ble_eq_true rfl) ?_
  intro p e s m args below meth c A Q hfx hK hA hE hret H locs hP hD hS ls hl
  obtain ⟨hx, hb, hml, hown, hts⟩ := id hfx
  have inX10 : ∀ w ∈ u_ws RX10 TX10 34, w ∈ wsX10_undo := by decide +kernel
  have lk7 := hts (.fieldLink RX10 7 "CatBeatModel" "typed" "[I") (by decide +kernel)
  have hl : lv_has ls 2 [(0, .ref (q 0)), (1, .int u0)] := hl
  unfold pX10_undo at hf
  refine lv_iload_n hx hb dX10_undo_0 rfl (lv_at hl 1 rfl) ?_
  obtain ⟨r1, hc2, hf⟩ := zz_b1s hf
  refine zz_ji (va_runS (As := [.int u0]) (rest := []) hfx (zc_X10_isText l D tb  F u0  r1 hc2 H.size) (va_cwS 1 hts gX10_undo_X10_isText rfl rfl rfl (by decide +kernel) ⟨Nat.le_of_ble_eq_true rfl, Nat.le_of_ble_eq_true rfl⟩) (zz_preS hK hP hD hS hA hE [] [] rfl (by decide) rfl) rfl rfl hl.1 rfl (lv_room (Nat.le_of_ble_eq_true rfl)) dX10_undo_1 ⟨Nat.zero_le _, Nat.zero_le _⟩) hP hD hS hA [] rfl rfl (fun H locs hP hD hS => ?_)
  have hP : va_P D vwCl (zw_10 q k S) H := hP
  have hD : va_D A (zw_10 q k S) := hD
  refine lv_if_ne (tgt := 10) hx hb dX10_undo_4 (by decide) (fun c4 => ?_) (fun c4 => ?_)
  · have hf := zz_ng hf c4
    refine lv_aload_n hx hb dX10_undo_10 rfl (lv_at hl 0 rfl) ?_
    refine va_get (D := D) (ci := 10) (v := .ref (q 1)) (C := RX10) (T := TX10) (N := 34) hx hb hts inX10 hown hK hP 0 rfl rfl 0 (by decide) lk7 (fun _ h9 => h9) rfl dX10_undo_11 ?_
    refine lv_iload_n hx hb dX10_undo_14 rfl (lv_at hl 1 rfl) ?_
    obtain ⟨hg3, hf⟩ := zz_gd hf
    refine va_iald hx hb hK hP 1 0 rfl rfl hg3 dX10_undo_15 ?_
    refine lv_if_ne (tgt := 22) hx hb dX10_undo_16 (by decide) (fun c16 => ?_) (fun c16 => ?_)
    · have hf := zz_ng hf c16
      refine lv_aload_n hx hb dX10_undo_22 rfl (lv_at hl 0 rfl) ?_
      refine va_get (D := D) (ci := 10) (v := .ref (q 1)) (C := RX10) (T := TX10) (N := 34) hx hb hts inX10 hown hK hP 0 rfl rfl 0 (by decide) lk7 (fun _ h9 => h9) rfl dX10_undo_23 ?_
      refine lv_iload_n hx hb dX10_undo_26 rfl (lv_at hl 1 rfl) ?_
      refine lv_dup2_11 hx hb dX10_undo_27 rfl rfl ?_
      obtain ⟨hg4, hf⟩ := zz_gd hf
      refine va_iald hx hb hK hP 1 0 rfl rfl hg4 dX10_undo_28 ?_
      refine lv_iconst (v := (1 : Int32)) hx hb dX10_undo_29 (by decide) ?_
      refine lv_isub hx hb dX10_undo_30 ?_
      obtain ⟨hg5, hf⟩ := zz_gd hf
      obtain ⟨S6, hS6, hf⟩ := zz_lts hf
      refine va_iast hx hb hK hP hD hS 1 0 rfl rfl hg5 dX10_undo_31 (fun H locs hP hD hS => ?_)
      have hP : va_P D vwCl (zw_10 q k S6) H := by rw [hS6]; exact hP
      have hD : va_D A (zw_10 q k S6) := by rw [hS6]; exact hD
      refine lv_aload_n hx hb dX10_undo_32 rfl (lv_at hl 0 rfl) ?_
      refine va_get (D := D) (ci := 10) (v := .ref (q 1)) (C := RX10) (T := TX10) (N := 34) hx hb hts inX10 hown hK hP 0 rfl rfl 0 (by decide) lk7 (fun _ h9 => h9) rfl dX10_undo_33 ?_
      refine lv_iload_n hx hb dX10_undo_36 rfl (lv_at hl 1 rfl) ?_
      obtain ⟨hg7, hf⟩ := zz_gd hf
      refine va_iald hx hb hK hP 1 0 rfl rfl hg7 dX10_undo_37 ?_
      obtain ⟨rfl, rfl⟩ := zz_e2 hf
      exact hret _ _ _ _ dX10_undo_38 hP hD hS
    · have hf := zz_ps hf c16
      refine lv_bipush (v := (-3 : Int32)) hx hb dX10_undo_19 (by decide) ?_
      obtain ⟨rfl, rfl⟩ := zz_e2 hf
      exact hret _ _ _ _ dX10_undo_21 hP hD hS
  · have hf := zz_ps hf c4
    refine lv_bipush (v := (-2 : Int32)) hx hb dX10_undo_7 (by decide) ?_
    obtain ⟨rfl, rfl⟩ := zz_e2 hf
    exact hret _ _ _ _ dX10_undo_9 hP hD hS
def rmX10_kindOf : Room := { frames := 0, cells := 0, slots := 0, locals := 0 }
set_option maxHeartbeats 4000000 in
set_option maxRecDepth 100000 in
theorem zc_X10_kindOf (l : Launch) (D : va_G) (tb : Nat → Nat)  (F : Nat) (u0 : Int32)  (r : Int32) (hf : pX10_kindOf F u0 = some r) : zz_Mi l yX10_kindOf wsX10_kindOf rmX10_kindOf D tb [] [.int u0] zw_none zw_none r := by
  refine zz_ofi (cc := cX10_kindOf) (maxL := 1) (by decide) rfl (Nat.le_of_ble_eq_true rfl) ?_
  intro p e s m args below meth c A Q hfx hK hA hE hret H locs hP hD hS ls hl
  obtain ⟨hx, hb, hml, hown, hts⟩ := id hfx
  have hl : lv_has ls 1 [(0, .int u0)] := hl
  unfold pX10_kindOf at hf
  refine lv_iload_n hx hb dX10_kindOf_0 rfl (lv_at hl 0 rfl) ?_
  refine lv_bipush (v := (46 : Int32)) hx hb dX10_kindOf_1 (by decide) ?_
  obtain ⟨v1, hv1, hf⟩ := zz_lts hf
  have hK2 : ∀ ls : Array Slot, lv_has ls 1 [] → W p l e rmX10_kindOf s m args below meth c H locs 0 0 Q (F0 m 51 ls [.int v1]) := by
    intro ls hl
    obtain rfl := zz_e1 hf
    exact hret _ _ _ _ dX10_kindOf_51 hP hD hS
  refine lv_icmp_ne (tgt := 10) hx hb dX10_kindOf_3 (by decide) (fun c3 => ?_) (fun c3 => ?_)
  · refine lv_iload_n hx hb dX10_kindOf_10 rfl (lv_at hl 0 rfl) ?_
    refine lv_bipush (v := (35 : Int32)) hx hb dX10_kindOf_11 (by decide) ?_
    refine lv_icmp_ne (tgt := 20) hx hb dX10_kindOf_13 (by decide) (fun c13 => ?_) (fun c13 => ?_)
    · refine lv_iload_n hx hb dX10_kindOf_20 rfl (lv_at hl 0 rfl) ?_
      refine lv_bipush (v := (115 : Int32)) hx hb dX10_kindOf_21 (by decide) ?_
      refine lv_icmp_ne (tgt := 30) hx hb dX10_kindOf_23 (by decide) (fun c23 => ?_) (fun c23 => ?_)
      · refine lv_iload_n hx hb dX10_kindOf_30 rfl (lv_at hl 0 rfl) ?_
        refine lv_bipush (v := (108 : Int32)) hx hb dX10_kindOf_31 (by decide) ?_
        refine lv_icmp_ne (tgt := 40) hx hb dX10_kindOf_33 (by decide) (fun c33 => ?_) (fun c33 => ?_)
        · refine lv_iload_n hx hb dX10_kindOf_40 rfl (lv_at hl 0 rfl) ?_
          refine lv_bipush (v := (100 : Int32)) hx hb dX10_kindOf_41 (by decide) ?_
          refine lv_icmp_ne (tgt := 50) hx hb dX10_kindOf_43 (by decide) (fun c43 => ?_) (fun c43 => ?_)
          · refine lv_iconst (v := (-1 : Int32)) hx hb dX10_kindOf_50 (by decide) ?_
            refine zz_ti (show v1 = (-1 : Int32) by rw [hv1, if_neg c3, if_neg c13, if_neg c23, if_neg c33, if_neg c43]) ?_
            exact hK2 ls (lv_sub hl [] rfl)
          · refine lv_iconst (v := (4 : Int32)) hx hb dX10_kindOf_46 (by decide) ?_
            refine lv_goto (tgt := 51) hx hb dX10_kindOf_47 (by decide) ?_
            refine zz_ti (show v1 = (4 : Int32) by rw [hv1, if_neg c3, if_neg c13, if_neg c23, if_neg c33, if_pos c43]) ?_
            exact hK2 ls (lv_sub hl [] rfl)
        · refine lv_iconst (v := (3 : Int32)) hx hb dX10_kindOf_36 (by decide) ?_
          refine lv_goto (tgt := 51) hx hb dX10_kindOf_37 (by decide) ?_
          refine zz_ti (show v1 = (3 : Int32) by rw [hv1, if_neg c3, if_neg c13, if_neg c23, if_pos c33]) ?_
          exact hK2 ls (lv_sub hl [] rfl)
      · refine lv_iconst (v := (2 : Int32)) hx hb dX10_kindOf_26 (by decide) ?_
        refine lv_goto (tgt := 51) hx hb dX10_kindOf_27 (by decide) ?_
        refine zz_ti (show v1 = (2 : Int32) by rw [hv1, if_neg c3, if_neg c13, if_pos c23]) ?_
        exact hK2 ls (lv_sub hl [] rfl)
    · refine lv_iconst (v := (1 : Int32)) hx hb dX10_kindOf_16 (by decide) ?_
      refine lv_goto (tgt := 51) hx hb dX10_kindOf_17 (by decide) ?_
      refine zz_ti (show v1 = (1 : Int32) by rw [hv1, if_neg c3, if_pos c13]) ?_
      exact hK2 ls (lv_sub hl [] rfl)
  · refine lv_iconst (v := (0 : Int32)) hx hb dX10_kindOf_6 (by decide) ?_
    refine lv_goto (tgt := 51) hx hb dX10_kindOf_7 (by decide) ?_
    refine zz_ti (show v1 = (0 : Int32) by rw [hv1, if_pos c3]) ?_
    exact hK2 ls (lv_sub hl [] rfl)
def rmX10_readsWard : Room := { frames := 1, cells := 0, slots := 0, locals := 20 }
set_option maxHeartbeats 4000000 in
set_option maxRecDepth 100000 in
theorem zc_X10_readsWard (l : Launch) (D : va_G) (tb : Nat → Nat) (q : Nat → Nat) (k : Nat → ClassId) (F : Nat)  (S : zz_M) (r : Int32) (o1 : zz_M) (hf : pX10_readsWard F S = some (r, o1)) : zz_Mi l yX10_readsWard wsX10_readsWard rmX10_readsWard D tb [((k 1), .int), ((k 2), .int), ((k 3), .int), ((k 4), .int), ((k 5), .int), ((k 6), .int), ((k 7), .int), ((k 8), .boolean), ((k 9), .int), ((k 10), .int), ((k 11), .int), ((k 12), .int), ((k 13), .int), ((k 14), .int), ((k 15), .int), ((k 16), .boolean), ((k 17), .int), ((k 18), .int), ((k 19), .int), ((k 20), .int)] [.ref (q 0)] (zw_10 q k S) (zw_10 q k o1) r := by
  refine zz_ofi (cc := cX10_readsWard) (maxL := 6) (by decide) rfl (Nat.le_of_ble_eq_true rfl) ?_
  intro p e s m args below meth c A Q hfx hK hA hE hret H locs hP hD hS ls hl
  obtain ⟨hx, hb, hml, hown, hts⟩ := id hfx
  have inX10 : ∀ w ∈ u_ws RX10 TX10 34, w ∈ wsX10_readsWard := by decide +kernel
  have lk88 := hts (.fieldLink RX10 88 "CatBeatModel" "cells" "I") (by decide +kernel)
  have lk91 := hts (.fieldLink RX10 91 "CatBeatModel" "rows" "I") (by decide +kernel)
  have lk94 := hts (.fieldLink RX10 94 "CatBeatModel" "wide" "I") (by decide +kernel)
  have lk7 := hts (.fieldLink RX10 7 "CatBeatModel" "typed" "[I") (by decide +kernel)
  have lk13 := hts (.fieldLink RX10 13 "CatBeatModel" "texts" "[I") (by decide +kernel)
  have lk16 := hts (.fieldLink RX10 16 "CatBeatModel" "kinds" "[I") (by decide +kernel)
  have hl : lv_has ls 6 [(0, .ref (q 0))] := hl
  unfold pX10_readsWard at hf
  refine lv_iconst (v := (0 : Int32)) hx hb dX10_readsWard_0 (by decide) ?_
  refine lv_istore_n (lv' := [(1, .int (0 : Int32)), (0, .ref (q 0))]) hx hb dX10_readsWard_1 rfl hl (by decide) rfl (fun ls hl => ?_)
  refine lv_iconst (v := (0 : Int32)) hx hb dX10_readsWard_2 (by decide) ?_
  refine lv_istore_n (lv' := [(2, .int (0 : Int32)), (1, .int (0 : Int32)), (0, .ref (q 0))]) hx hb dX10_readsWard_3 rfl hl (by decide) rfl (fun ls hl => ?_)
  refine lv_iconst (v := (0 : Int32)) hx hb dX10_readsWard_4 (by decide) ?_
  refine lv_istore_n (lv' := [(3, .int (0 : Int32)), (2, .int (0 : Int32)), (1, .int (0 : Int32)), (0, .ref (q 0))]) hx hb dX10_readsWard_5 rfl hl (by decide) rfl (fun ls hl => ?_)
  refine lv_aload_n hx hb dX10_readsWard_6 rfl (lv_at hl 3 rfl) ?_
  refine lv_iconst (v := (0 : Int32)) hx hb dX10_readsWard_7 (by decide) ?_
  obtain ⟨S1, hS1, hf⟩ := zz_lts hf
  refine va_put (D := D) (ci := 10) (v := .int (0 : Int32)) (ty := .int) (C := RX10) (T := TX10) (N := 34) hx hb hts inX10 tyX10 tyX10_ok nmX10 hown hK hP hD hS 0 rfl rfl 4 (by decide) lk88 (fun _ h9 => h9) rfl (by decide +kernel) rfl rfl (Nat.le_of_ble_eq_true rfl) dX10_readsWard_8 (fun H locs hP hD hS => ?_)
  have hP : va_P D vwCl (zw_10 q k S1) H := by rw [hS1]; exact hP
  have hD : va_D A (zw_10 q k S1) := by rw [hS1]; exact hD
  refine lv_aload_n hx hb dX10_readsWard_11 rfl (lv_at hl 3 rfl) ?_
  refine lv_iconst (v := (0 : Int32)) hx hb dX10_readsWard_12 (by decide) ?_
  obtain ⟨S2, hS2, hf⟩ := zz_lts hf
  refine va_put (D := D) (ci := 10) (v := .int (0 : Int32)) (ty := .int) (C := RX10) (T := TX10) (N := 34) hx hb hts inX10 tyX10 tyX10_ok nmX10 hown hK hP hD hS 0 rfl rfl 3 (by decide) lk91 (fun _ h9 => h9) rfl (by decide +kernel) rfl rfl (Nat.le_of_ble_eq_true rfl) dX10_readsWard_13 (fun H locs hP hD hS => ?_)
  have hP : va_P D vwCl (zw_10 q k S2) H := by rw [hS2]; exact hP
  have hD : va_D A (zw_10 q k S2) := by rw [hS2]; exact hD
  refine lv_aload_n hx hb dX10_readsWard_16 rfl (lv_at hl 3 rfl) ?_
  refine lv_bipush (v := (6 : Int32)) hx hb dX10_readsWard_17 (by decide) ?_
  obtain ⟨S3, hS3, hf⟩ := zz_lts hf
  refine va_put (D := D) (ci := 10) (v := .int (6 : Int32)) (ty := .int) (C := RX10) (T := TX10) (N := 34) hx hb hts inX10 tyX10 tyX10_ok nmX10 hown hK hP hD hS 0 rfl rfl 2 (by decide) lk94 (fun _ h9 => h9) rfl (by decide +kernel) rfl rfl (Nat.le_of_ble_eq_true rfl) dX10_readsWard_19 (fun H locs hP hD hS => ?_)
  have hP : va_P D vwCl (zw_10 q k S3) H := by rw [hS3]; exact hP
  have hD : va_D A (zw_10 q k S3) := by rw [hS3]; exact hD
  refine lv_iconst (v := (0 : Int32)) hx hb dX10_readsWard_22 (by decide) ?_
  refine lv_istore (lv' := [(4, .int (0 : Int32)), (3, .int (0 : Int32)), (2, .int (0 : Int32)), (1, .int (0 : Int32)), (0, .ref (q 0))]) hx hb dX10_readsWard_23 hl (by decide) rfl (fun ls hl => ?_)
  have hLkL25_8 : ∀ (n25_8 : Nat) (x4 : Int32) (x5 : Int32) (x6 : Int32) (x7 : Int32) (z8 : zz_M) (H : Heap) (locs : List Loc), va_P D vwCl (zw_10 q k z8) H → va_D A (zw_10 q k z8) → va_S A s.heap H locs → ∀ ls : Array Slot, lv_has ls 6 [(0, .ref (q 0)), (1, .int x4), (2, .int x5), (3, .int x6), (4, .int x7)] → pX10_readsWard_L25_8 F n25_8 x4 x5 x6 x7 z8 = some (r, o1) → W p l e rmX10_readsWard s m args below meth c H locs 0 0 Q (F0 m 25 ls []) := by
    intro n25_8
    induction n25_8 with
    | zero =>
      intro x4 x5 x6 x7 z8 H locs hP hD hS ls hl hf
      exact nomatch (show (none : Option _) = some _ from hf)
    | succ n25_8 ihkL25_8 =>
      intro x4 x5 x6 x7 z8 H locs hP hD hS ls hl hf
      rw [pX10_readsWard_L25_8] at hf
      refine lv_iload hx hb dX10_readsWard_25 (lv_at hl 4 rfl) ?_
      refine lv_aload_n hx hb dX10_readsWard_27 rfl (lv_at hl 0 rfl) ?_
      refine va_get (D := D) (ci := 10) (v := .ref (q 1)) (C := RX10) (T := TX10) (N := 34) hx hb hts inX10 hown hK hP 0 rfl rfl 0 (by decide) lk7 (fun _ h9 => h9) rfl dX10_readsWard_28 ?_
      refine lv_iconst (v := (0 : Int32)) hx hb dX10_readsWard_31 (by decide) ?_
      refine va_iald hx hb hK hP 1 0 rfl rfl (show zz_in (0 : Int32) 3 by decide) dX10_readsWard_32 ?_
      refine lv_icmp_ge (tgt := 149) hx hb dX10_readsWard_33 (by decide) (fun c33 => ?_) (fun c33 => ?_)
      · have hf := zz_ps hf c33
        refine lv_aload_n hx hb dX10_readsWard_149 rfl (lv_at hl 0 rfl) ?_
        refine va_get (D := D) (ci := 10) (v := .ref (q 1)) (C := RX10) (T := TX10) (N := 34) hx hb hts inX10 hown hK hP 0 rfl rfl 0 (by decide) lk7 (fun _ h9 => h9) rfl dX10_readsWard_150 ?_
        refine lv_iconst (v := (0 : Int32)) hx hb dX10_readsWard_153 (by decide) ?_
        refine va_iald hx hb hK hP 1 0 rfl rfl (show zz_in (0 : Int32) 3 by decide) dX10_readsWard_154 ?_
        obtain ⟨j181_10, hj181_10, hf⟩ := zz_lts hf
        have Kj181_10 : ∀  (H : Heap) (locs : List Loc), va_P D vwCl (zw_10 q k z8) H → va_D A (zw_10 q k z8) → va_S A s.heap H locs → ∀ ls : Array Slot, lv_has ls 6 [(0, .ref (q 0)), (1, .int x4), (2, .int x5), (3, .int x6)] → j181_10 () = some (r, o1) → W p l e rmX10_readsWard s m args below meth c H locs 0 0 Q (F0 m 181 ls []) := by
          intro  H locs hP hD hS ls hl hf
          rw [hj181_10] at hf
          refine lv_aload_n hx hb dX10_readsWard_181 rfl (lv_at hl 0 rfl) ?_
          refine lv_iload_n hx hb dX10_readsWard_182 rfl (lv_at hl 1 rfl) ?_
          obtain ⟨v11, hv11, hf⟩ := zz_lts hf
          have hK12 : ∀ ls : Array Slot, lv_has ls 6 [(0, .ref (q 0)), (1, .int x4), (3, .int x6)] → W p l e rmX10_readsWard s m args below meth c H locs 0 0 Q (F0 m 194 ls [.int v11, .ref (q 0)]) := by
            intro ls hl
            obtain ⟨S13, hS13, hf⟩ := zz_lts hf
            refine va_put (D := D) (ci := 10) (v := .int v11) (ty := .int) (C := RX10) (T := TX10) (N := 34) hx hb hts inX10 tyX10 tyX10_ok nmX10 hown hK hP hD hS 0 rfl rfl 2 (by decide) lk94 (fun _ h9 => h9) rfl (by decide +kernel) rfl rfl (Nat.le_of_ble_eq_true rfl) dX10_readsWard_194 (fun H locs hP hD hS => ?_)
            have hP : va_P D vwCl (zw_10 q k S13) H := by rw [hS13]; exact hP
            have hD : va_D A (zw_10 q k S13) := by rw [hS13]; exact hD
            refine lv_aload_n hx hb dX10_readsWard_197 rfl (lv_at hl 0 rfl) ?_
            refine lv_aload_n hx hb dX10_readsWard_198 rfl (lv_at hl 0 rfl) ?_
            refine va_get (D := D) (ci := 10) (v := .ref (q 1)) (C := RX10) (T := TX10) (N := 34) hx hb hts inX10 hown hK hP 0 rfl rfl 0 (by decide) lk7 (fun _ h9 => h9) rfl dX10_readsWard_199 ?_
            refine lv_iconst (v := (0 : Int32)) hx hb dX10_readsWard_202 (by decide) ?_
            refine va_iald hx hb hK hP 1 0 rfl rfl (show zz_in (0 : Int32) 3 by decide) dX10_readsWard_203 ?_
            obtain ⟨v14, hv14, hf⟩ := zz_lts hf
            have hK15 : ∀ ls : Array Slot, lv_has ls 6 [(0, .ref (q 0)), (3, .int x6)] → W p l e rmX10_readsWard s m args below meth c H locs 0 0 Q (F0 m 214 ls [.int v14, .ref (q 0)]) := by
              intro ls hl
              obtain ⟨S16, hS16, hf⟩ := zz_lts hf
              refine va_put (D := D) (ci := 10) (v := .int v14) (ty := .int) (C := RX10) (T := TX10) (N := 34) hx hb hts inX10 tyX10 tyX10_ok nmX10 hown hK hP hD hS 0 rfl rfl 3 (by decide) lk91 (fun _ h9 => h9) rfl (by decide +kernel) rfl rfl (Nat.le_of_ble_eq_true rfl) dX10_readsWard_214 (fun H locs hP hD hS => ?_)
              have hP : va_P D vwCl (zw_10 q k S16) H := by rw [hS16]; exact hP
              have hD : va_D A (zw_10 q k S16) := by rw [hS16]; exact hD
              refine lv_aload_n hx hb dX10_readsWard_217 rfl (lv_at hl 0 rfl) ?_
              refine lv_iload_n hx hb dX10_readsWard_218 rfl (lv_at hl 1 rfl) ?_
              obtain ⟨S17, hS17, hf⟩ := zz_lts hf
              refine va_put (D := D) (ci := 10) (v := .int x6) (ty := .int) (C := RX10) (T := TX10) (N := 34) hx hb hts inX10 tyX10 tyX10_ok nmX10 hown hK hP hD hS 0 rfl rfl 4 (by decide) lk88 (fun _ h9 => h9) rfl (by decide +kernel) rfl rfl (Nat.le_of_ble_eq_true rfl) dX10_readsWard_219 (fun H locs hP hD hS => ?_)
              have hP : va_P D vwCl (zw_10 q k S17) H := by rw [hS17]; exact hP
              have hD : va_D A (zw_10 q k S17) := by rw [hS17]; exact hD
              refine lv_iconst (v := (-1 : Int32)) hx hb dX10_readsWard_222 (by decide) ?_
              obtain ⟨rfl, rfl⟩ := zz_e2 hf
              exact hret _ _ _ _ dX10_readsWard_223 hP hD hS
            refine lv_if_ne (tgt := 211) hx hb dX10_readsWard_204 (by decide) (fun c204 => ?_) (fun c204 => ?_)
            · refine lv_iload_n hx hb dX10_readsWard_211 rfl (lv_at hl 1 rfl) ?_
              refine lv_iconst (v := (1 : Int32)) hx hb dX10_readsWard_212 (by decide) ?_
              refine lv_iadd hx hb dX10_readsWard_213 ?_
              refine zz_ti (show v14 = (x4 + (1 : Int32)) by rw [hv14, if_neg c204]) ?_
              exact hK15 ls (lv_sub hl [0, 2] rfl)
            · refine lv_iconst (v := (0 : Int32)) hx hb dX10_readsWard_207 (by decide) ?_
              refine lv_goto (tgt := 214) hx hb dX10_readsWard_208 (by decide) ?_
              refine zz_ti (show v14 = (0 : Int32) by rw [hv14, if_pos c204]) ?_
              exact hK15 ls (lv_sub hl [0, 2] rfl)
          refine lv_if_ne (tgt := 190) hx hb dX10_readsWard_183 (by decide) (fun c183 => ?_) (fun c183 => ?_)
          · refine lv_aload_n hx hb dX10_readsWard_190 rfl (lv_at hl 0 rfl) ?_
            refine va_get (D := D) (ci := 10) (v := .int (zz_gI z8 0)) (C := RX10) (T := TX10) (N := 34) hx hb hts inX10 hown hK hP 0 rfl rfl 2 (by decide) lk94 (fun _ h9 => h9) rfl dX10_readsWard_191 ?_
            refine zz_ti (show v11 = (zz_gI z8 0) by rw [hv11, if_neg c183]) ?_
            exact hK12 ls (lv_sub hl [0, 1, 3] rfl)
          · refine lv_iload_n hx hb dX10_readsWard_186 rfl (lv_at hl 2 rfl) ?_
            refine lv_goto (tgt := 194) hx hb dX10_readsWard_187 (by decide) ?_
            refine zz_ti (show v11 = x5 by rw [hv11, if_pos c183]) ?_
            exact hK12 ls (lv_sub hl [0, 1, 3] rfl)
        refine lv_if_le (tgt := 181) hx hb dX10_readsWard_155 (by decide) (fun c155 => ?_) (fun c155 => ?_)
        · have hf := zz_ps hf c155
          exact Kj181_10  _ _ hP hD hS ls (lv_sub hl [0, 1, 2, 3] rfl) hf
        · have hf := zz_ng hf c155
          refine lv_iload_n hx hb dX10_readsWard_158 rfl (lv_at hl 2 rfl) ?_
          obtain ⟨j174_18, hj174_18, hf⟩ := zz_lts hf
          have Kj174_18 : ∀  (H : Heap) (locs : List Loc), va_P D vwCl (zw_10 q k z8) H → va_D A (zw_10 q k z8) → va_S A s.heap H locs → ∀ ls : Array Slot, lv_has ls 6 [(0, .ref (q 0))] → j174_18 () = some (r, o1) → W p l e rmX10_readsWard s m args below meth c H locs 0 0 Q (F0 m 174 ls []) := by
            intro  H locs hP hD hS ls hl hf
            rw [hj174_18] at hf
            refine lv_aload_n hx hb dX10_readsWard_174 rfl (lv_at hl 0 rfl) ?_
            refine va_get (D := D) (ci := 10) (v := .ref (q 1)) (C := RX10) (T := TX10) (N := 34) hx hb hts inX10 hown hK hP 0 rfl rfl 0 (by decide) lk7 (fun _ h9 => h9) rfl dX10_readsWard_175 ?_
            refine lv_iconst (v := (0 : Int32)) hx hb dX10_readsWard_178 (by decide) ?_
            refine va_iald hx hb hK hP 1 0 rfl rfl (show zz_in (0 : Int32) 3 by decide) dX10_readsWard_179 ?_
            obtain ⟨rfl, rfl⟩ := zz_e2 hf
            exact hret _ _ _ _ dX10_readsWard_180 hP hD hS
          refine lv_if_eq (tgt := 174) hx hb dX10_readsWard_159 (by decide) (fun c159 => ?_) (fun c159 => ?_)
          · have hf := zz_ps hf c159
            exact Kj174_18  _ _ hP hD hS ls (lv_sub hl [0] rfl) hf
          · have hf := zz_ng hf c159
            refine lv_iload_n hx hb dX10_readsWard_162 rfl (lv_at hl 1 rfl) ?_
            refine lv_if_le (tgt := 181) hx hb dX10_readsWard_163 (by decide) (fun c163 => ?_) (fun c163 => ?_)
            · have hf := zz_ps hf c163
              exact Kj181_10  _ _ hP hD hS ls (lv_sub hl [0, 1, 2, 3] rfl) hf
            · have hf := zz_ng hf c163
              refine lv_iload_n hx hb dX10_readsWard_166 rfl (lv_at hl 2 rfl) ?_
              refine lv_aload_n hx hb dX10_readsWard_167 rfl (lv_at hl 0 rfl) ?_
              refine va_get (D := D) (ci := 10) (v := .int (zz_gI z8 0)) (C := RX10) (T := TX10) (N := 34) hx hb hts inX10 hown hK hP 0 rfl rfl 2 (by decide) lk94 (fun _ h9 => h9) rfl dX10_readsWard_168 ?_
              refine lv_icmp_ge (tgt := 181) hx hb dX10_readsWard_171 (by decide) (fun c171 => ?_) (fun c171 => ?_)
              · have hf := zz_ps hf c171
                exact Kj181_10  _ _ hP hD hS ls (lv_sub hl [0, 1, 2, 3] rfl) hf
              · have hf := zz_ng hf c171
                exact Kj174_18  _ _ hP hD hS ls (lv_sub hl [0] rfl) hf
      · have hf := zz_ng hf c33
        refine lv_iload_n hx hb dX10_readsWard_36 rfl (lv_at hl 1 rfl) ?_
        refine lv_bipush (v := (6 : Int32)) hx hb dX10_readsWard_37 (by decide) ?_
        refine lv_icmp_ne (tgt := 45) hx hb dX10_readsWard_39 (by decide) (fun c39 => ?_) (fun c39 => ?_)
        · have hf := zz_ng hf c39
          refine lv_aload_n hx hb dX10_readsWard_45 rfl (lv_at hl 0 rfl) ?_
          refine va_get (D := D) (ci := 10) (v := .ref (q 2)) (C := RX10) (T := TX10) (N := 34) hx hb hts inX10 hown hK hP 0 rfl rfl 1 (by decide) lk13 (fun _ h9 => h9) rfl dX10_readsWard_46 ?_
          refine lv_iload hx hb dX10_readsWard_49 (lv_at hl 4 rfl) ?_
          obtain ⟨hg19, hf⟩ := zz_gd hf
          refine va_iald hx hb hK hP 2 1 rfl rfl hg19 dX10_readsWard_51 ?_
          refine lv_bipush (v := (59 : Int32)) hx hb dX10_readsWard_52 (by decide) ?_
          obtain ⟨j143_24, hj143_24, hf⟩ := zz_lts hf
          have Kj143_24 : ∀ (x20 : Int32) (x21 : Int32) (x22 : Int32) (z23 : zz_M) (H : Heap) (locs : List Loc), va_P D vwCl (zw_10 q k z23) H → va_D A (zw_10 q k z23) → va_S A s.heap H locs → ∀ ls : Array Slot, lv_has ls 6 [(0, .ref (q 0)), (4, .int x7), (1, .int x20), (2, .int x21), (3, .int x22)] → j143_24 x20 x21 x22 z23 = some (r, o1) → W p l e rmX10_readsWard s m args below meth c H locs 0 0 Q (F0 m 143 ls []) := by
            intro x20 x21 x22 z23 H locs hP hD hS ls hl hf
            rw [hj143_24] at hf
            obtain ⟨v25, hv25, hf⟩ := zz_lts hf
            refine lv_iinc (v := v25) (lv' := [(4, .int v25), (0, .ref (q 0)), (1, .int x20), (2, .int x21), (3, .int x22)]) hx hb dX10_readsWard_143 hl (k := 1) rfl (by rw [hv25]; rfl) (by decide) rfl (fun ls hl => ?_)
            refine lv_goto (tgt := 25) hx hb dX10_readsWard_146 (by decide) ?_
            exact ihkL25_8 x20 x21 x22 v25 z23 _ _ hP hD hS ls (lv_sub hl [1, 2, 3, 4, 0] rfl) hf
          refine lv_icmp_ne (tgt := 100) hx hb dX10_readsWard_54 (by decide) (fun c54 => ?_) (fun c54 => ?_)
          · have hf := zz_ng hf c54
            refine lv_aload_n hx hb dX10_readsWard_100 rfl (lv_at hl 0 rfl) ?_
            refine va_get (D := D) (ci := 10) (v := .ref (q 2)) (C := RX10) (T := TX10) (N := 34) hx hb hts inX10 hown hK hP 0 rfl rfl 1 (by decide) lk13 (fun _ h9 => h9) rfl dX10_readsWard_101 ?_
            refine lv_iload hx hb dX10_readsWard_104 (lv_at hl 4 rfl) ?_
            obtain ⟨hg26, hf⟩ := zz_gd hf
            refine va_iald hx hb hK hP 2 1 rfl rfl hg26 dX10_readsWard_106 ?_
            obtain ⟨r27, hc28, hf⟩ := zz_b1s hf
            refine zz_ji (va_runS (As := [.int ((zz_gA z8 1) (Int32.toNatClampNeg x7))]) (rest := []) hfx (zc_X10_kindOf l D tb  F ((zz_gA z8 1) (Int32.toNatClampNeg x7))  r27 hc28 H.size) (va_cwS 1 hts gX10_readsWard_X10_kindOf rfl rfl rfl (by decide +kernel) ⟨Nat.le_of_ble_eq_true rfl, Nat.le_of_ble_eq_true rfl⟩) (zz_preS hK hP hD hS hA hE [] [] rfl (by decide) rfl) rfl rfl hl.1 rfl (lv_room (Nat.le_of_ble_eq_true rfl)) dX10_readsWard_107 ⟨Nat.zero_le _, Nat.zero_le _⟩) hP hD hS hA [] rfl rfl (fun H locs hP hD hS => ?_)
            have hP : va_P D vwCl (zw_10 q k z8) H := hP
            have hD : va_D A (zw_10 q k z8) := hD
            refine lv_istore (lv' := [(5, .int r27), (0, .ref (q 0)), (1, .int x4), (2, .int x5), (3, .int x6), (4, .int x7)]) hx hb dX10_readsWard_110 hl (by decide) rfl (fun ls hl => ?_)
            refine lv_iload hx hb dX10_readsWard_112 (lv_at hl 0 rfl) ?_
            refine lv_iconst (v := (-1 : Int32)) hx hb dX10_readsWard_114 (by decide) ?_
            obtain ⟨j126_29, hj126_29, hf⟩ := zz_lts hf
            have Kj126_29 : ∀  (H : Heap) (locs : List Loc), va_P D vwCl (zw_10 q k z8) H → va_D A (zw_10 q k z8) → va_S A s.heap H locs → ∀ ls : Array Slot, lv_has ls 6 [(4, .int x7)] → j126_29 () = some (r, o1) → W p l e rmX10_readsWard s m args below meth c H locs 0 0 Q (F0 m 126 ls []) := by
              intro  H locs hP hD hS ls hl hf
              rw [hj126_29] at hf
              refine lv_iload hx hb dX10_readsWard_126 (lv_at hl 0 rfl) ?_
              obtain ⟨rfl, rfl⟩ := zz_e2 hf
              exact hret _ _ _ _ dX10_readsWard_128 hP hD hS
            refine lv_icmp_eq (tgt := 126) hx hb dX10_readsWard_115 (by decide) (fun c115 => ?_) (fun c115 => ?_)
            · have hf := zz_ps hf c115
              exact Kj126_29  _ _ hP hD hS ls (lv_sub hl [5] rfl) hf
            · have hf := zz_ng hf c115
              refine lv_iload_n hx hb dX10_readsWard_118 rfl (lv_at hl 3 rfl) ?_
              refine lv_aload_n hx hb dX10_readsWard_119 rfl (lv_at hl 1 rfl) ?_
              refine va_get (D := D) (ci := 10) (v := .int (zz_gI z8 0)) (C := RX10) (T := TX10) (N := 34) hx hb hts inX10 hown hK hP 0 rfl rfl 2 (by decide) lk94 (fun _ h9 => h9) rfl dX10_readsWard_120 ?_
              refine lv_icmp_ne (tgt := 129) hx hb dX10_readsWard_123 (by decide) (fun c123 => ?_) (fun c123 => ?_)
              · have hf := zz_ng hf c123
                refine lv_aload_n hx hb dX10_readsWard_129 rfl (lv_at hl 1 rfl) ?_
                refine va_get (D := D) (ci := 10) (v := .ref (q 3)) (C := RX10) (T := TX10) (N := 34) hx hb hts inX10 hown hK hP 0 rfl rfl 5 (by decide) lk16 (fun _ h9 => h9) rfl dX10_readsWard_130 ?_
                refine lv_iload_n hx hb dX10_readsWard_133 rfl (lv_at hl 4 rfl) ?_
                refine lv_iload hx hb dX10_readsWard_134 (lv_at hl 0 rfl) ?_
                obtain ⟨hg30, hf⟩ := zz_gd hf
                obtain ⟨S31, hS31, hf⟩ := zz_lts hf
                refine va_iast hx hb hK hP hD hS 3 2 rfl rfl hg30 dX10_readsWard_136 (fun H locs hP hD hS => ?_)
                have hP : va_P D vwCl (zw_10 q k S31) H := by rw [hS31]; exact hP
                have hD : va_D A (zw_10 q k S31) := by rw [hS31]; exact hD
                obtain ⟨v32, hv32, hf⟩ := zz_lts hf
                refine lv_iinc (v := v32) (lv' := [(3, .int v32), (5, .int r27), (0, .ref (q 0)), (1, .int x4), (2, .int x5), (4, .int x7)]) hx hb dX10_readsWard_137 hl (k := 4) rfl (by rw [hv32]; rfl) (by decide) rfl (fun ls hl => ?_)
                obtain ⟨v33, hv33, hf⟩ := zz_lts hf
                refine lv_iinc (v := v33) (lv' := [(2, .int v33), (3, .int v32), (5, .int r27), (0, .ref (q 0)), (1, .int x4), (4, .int x7)]) hx hb dX10_readsWard_140 hl (k := 4) rfl (by rw [hv33]; rfl) (by decide) rfl (fun ls hl => ?_)
                exact Kj143_24 x4 v33 v32 S31 _ _ hP hD hS ls (lv_sub hl [3, 5, 4, 0, 1] rfl) hf
              · have hf := zz_ps hf c123
                exact Kj126_29  _ _ hP hD hS ls (lv_sub hl [5] rfl) hf
          · have hf := zz_ps hf c54
            refine lv_iload_n hx hb dX10_readsWard_57 rfl (lv_at hl 2 rfl) ?_
            obtain ⟨j73_34, hj73_34, hf⟩ := zz_lts hf
            have Kj73_34 : ∀  (H : Heap) (locs : List Loc), va_P D vwCl (zw_10 q k z8) H → va_D A (zw_10 q k z8) → va_S A s.heap H locs → ∀ ls : Array Slot, lv_has ls 6 [(4, .int x7)] → j73_34 () = some (r, o1) → W p l e rmX10_readsWard s m args below meth c H locs 0 0 Q (F0 m 73 ls []) := by
              intro  H locs hP hD hS ls hl hf
              rw [hj73_34] at hf
              refine lv_iload hx hb dX10_readsWard_73 (lv_at hl 0 rfl) ?_
              obtain ⟨rfl, rfl⟩ := zz_e2 hf
              exact hret _ _ _ _ dX10_readsWard_75 hP hD hS
            refine lv_if_eq (tgt := 73) hx hb dX10_readsWard_58 (by decide) (fun c58 => ?_) (fun c58 => ?_)
            · have hf := zz_ps hf c58
              exact Kj73_34  _ _ hP hD hS ls (lv_sub hl [4] rfl) hf
            · have hf := zz_ng hf c58
              refine lv_iload_n hx hb dX10_readsWard_61 rfl (lv_at hl 1 rfl) ?_
              obtain ⟨j76_35, hj76_35, hf⟩ := zz_lts hf
              have Kj76_35 : ∀  (H : Heap) (locs : List Loc), va_P D vwCl (zw_10 q k z8) H → va_D A (zw_10 q k z8) → va_S A s.heap H locs → ∀ ls : Array Slot, lv_has ls 6 [(0, .ref (q 0)), (1, .int x4), (2, .int x5), (3, .int x6), (4, .int x7)] → j76_35 () = some (r, o1) → W p l e rmX10_readsWard s m args below meth c H locs 0 0 Q (F0 m 76 ls []) := by
                intro  H locs hP hD hS ls hl hf
                rw [hj76_35] at hf
                refine lv_aload_n hx hb dX10_readsWard_76 rfl (lv_at hl 0 rfl) ?_
                refine lv_iload_n hx hb dX10_readsWard_77 rfl (lv_at hl 1 rfl) ?_
                obtain ⟨v36, hv36, hf⟩ := zz_lts hf
                have hK37 : ∀ ls : Array Slot, lv_has ls 6 [(0, .ref (q 0)), (1, .int x4), (3, .int x6), (4, .int x7)] → W p l e rmX10_readsWard s m args below meth c H locs 0 0 Q (F0 m 89 ls [.int v36, .ref (q 0)]) := by
                  intro ls hl
                  obtain ⟨S38, hS38, hf⟩ := zz_lts hf
                  refine va_put (D := D) (ci := 10) (v := .int v36) (ty := .int) (C := RX10) (T := TX10) (N := 34) hx hb hts inX10 tyX10 tyX10_ok nmX10 hown hK hP hD hS 0 rfl rfl 2 (by decide) lk94 (fun _ h9 => h9) rfl (by decide +kernel) rfl rfl (Nat.le_of_ble_eq_true rfl) dX10_readsWard_89 (fun H locs hP hD hS => ?_)
                  have hP : va_P D vwCl (zw_10 q k S38) H := by rw [hS38]; exact hP
                  have hD : va_D A (zw_10 q k S38) := by rw [hS38]; exact hD
                  obtain ⟨v39, hv39, hf⟩ := zz_lts hf
                  refine lv_iinc (v := v39) (lv' := [(1, .int v39), (0, .ref (q 0)), (3, .int x6), (4, .int x7)]) hx hb dX10_readsWard_92 hl (k := 1) rfl (by rw [hv39]; rfl) (by decide) rfl (fun ls hl => ?_)
                  refine lv_iconst (v := (0 : Int32)) hx hb dX10_readsWard_95 (by decide) ?_
                  refine lv_istore_n (lv' := [(2, .int (0 : Int32)), (1, .int v39), (0, .ref (q 0)), (3, .int x6), (4, .int x7)]) hx hb dX10_readsWard_96 rfl hl (by decide) rfl (fun ls hl => ?_)
                  refine lv_goto (tgt := 143) hx hb dX10_readsWard_97 (by decide) ?_
                  exact Kj143_24 v39 (0 : Int32) x6 S38 _ _ hP hD hS ls (lv_sub hl [2, 4, 1, 0, 3] rfl) hf
                refine lv_if_ne (tgt := 85) hx hb dX10_readsWard_78 (by decide) (fun c78 => ?_) (fun c78 => ?_)
                · refine lv_aload_n hx hb dX10_readsWard_85 rfl (lv_at hl 0 rfl) ?_
                  refine va_get (D := D) (ci := 10) (v := .int (zz_gI z8 0)) (C := RX10) (T := TX10) (N := 34) hx hb hts inX10 hown hK hP 0 rfl rfl 2 (by decide) lk94 (fun _ h9 => h9) rfl dX10_readsWard_86 ?_
                  refine zz_ti (show v36 = (zz_gI z8 0) by rw [hv36, if_neg c78]) ?_
                  exact hK37 ls (lv_sub hl [0, 1, 3, 4] rfl)
                · refine lv_iload_n hx hb dX10_readsWard_81 rfl (lv_at hl 2 rfl) ?_
                  refine lv_goto (tgt := 89) hx hb dX10_readsWard_82 (by decide) ?_
                  refine zz_ti (show v36 = x5 by rw [hv36, if_pos c78]) ?_
                  exact hK37 ls (lv_sub hl [0, 1, 3, 4] rfl)
              refine lv_if_le (tgt := 76) hx hb dX10_readsWard_62 (by decide) (fun c62 => ?_) (fun c62 => ?_)
              · have hf := zz_ps hf c62
                exact Kj76_35  _ _ hP hD hS ls (lv_sub hl [0, 1, 2, 3, 4] rfl) hf
              · have hf := zz_ng hf c62
                refine lv_iload_n hx hb dX10_readsWard_65 rfl (lv_at hl 2 rfl) ?_
                refine lv_aload_n hx hb dX10_readsWard_66 rfl (lv_at hl 0 rfl) ?_
                refine va_get (D := D) (ci := 10) (v := .int (zz_gI z8 0)) (C := RX10) (T := TX10) (N := 34) hx hb hts inX10 hown hK hP 0 rfl rfl 2 (by decide) lk94 (fun _ h9 => h9) rfl dX10_readsWard_67 ?_
                refine lv_icmp_ge (tgt := 76) hx hb dX10_readsWard_70 (by decide) (fun c70 => ?_) (fun c70 => ?_)
                · have hf := zz_ps hf c70
                  exact Kj76_35  _ _ hP hD hS ls (lv_sub hl [0, 1, 2, 3, 4] rfl) hf
                · have hf := zz_ng hf c70
                  exact Kj73_34  _ _ hP hD hS ls (lv_sub hl [4] rfl) hf
        · have hf := zz_ps hf c39
          refine lv_iload hx hb dX10_readsWard_42 (lv_at hl 4 rfl) ?_
          obtain ⟨rfl, rfl⟩ := zz_e2 hf
          exact hret _ _ _ _ dX10_readsWard_44 hP hD hS
  exact hLkL25_8 F (0 : Int32) (0 : Int32) (0 : Int32) (0 : Int32) S3 _ _ hP hD hS ls (lv_sub hl [4, 3, 2, 1, 0] rfl) hf
def rmX10_byteAt : Room := { frames := 0, cells := 0, slots := 0, locals := 0 }
set_option maxHeartbeats 4000000 in
set_option maxRecDepth 100000 in
theorem zc_X10_byteAt (l : Launch) (D : va_G) (tb : Nat → Nat) (q : Nat → Nat) (k : Nat → ClassId) (F : Nat) (u0 : Int32) (u1 : Int32) (S : zz_M) (r : Int32) (hf : pX10_byteAt F u0 u1 S = some r) : zz_Mi l yX10_byteAt wsX10_byteAt rmX10_byteAt D tb [((k 1), .int), ((k 2), .int), ((k 3), .int), ((k 4), .int), ((k 5), .int), ((k 6), .int), ((k 7), .int), ((k 8), .boolean), ((k 9), .int), ((k 10), .int), ((k 11), .int), ((k 12), .int), ((k 13), .int), ((k 14), .int), ((k 15), .int), ((k 16), .boolean), ((k 17), .int), ((k 18), .int), ((k 19), .int), ((k 20), .int)] [.ref (q 0), .int u0, .int u1] (zw_10 q k S) (zw_10 q k S) r := by
  refine zz_ofi (cc := cX10_byteAt) (maxL := 3) (by decide) rfl (Nat.le_of_ble_eq_true rfl) ?_
  intro p e s m args below meth c A Q hfx hK hA hE hret H locs hP hD hS ls hl
  obtain ⟨hx, hb, hml, hown, hts⟩ := id hfx
  have inX10 : ∀ w ∈ u_ws RX10 TX10 34, w ∈ wsX10_byteAt := by decide +kernel
  have lk7 := hts (.fieldLink RX10 7 "CatBeatModel" "typed" "[I") (by decide +kernel)
  have lk13 := hts (.fieldLink RX10 13 "CatBeatModel" "texts" "[I") (by decide +kernel)
  have hl : lv_has ls 3 [(0, .ref (q 0)), (1, .int u0), (2, .int u1)] := hl
  unfold pX10_byteAt at hf
  refine lv_iload_n hx hb dX10_byteAt_0 rfl (lv_at hl 2 rfl) ?_
  refine lv_aload_n hx hb dX10_byteAt_1 rfl (lv_at hl 0 rfl) ?_
  refine va_get (D := D) (ci := 10) (v := .ref (q 1)) (C := RX10) (T := TX10) (N := 34) hx hb hts inX10 hown hK hP 0 rfl rfl 0 (by decide) lk7 (fun _ h9 => h9) rfl dX10_byteAt_2 ?_
  refine lv_iload_n hx hb dX10_byteAt_5 rfl (lv_at hl 1 rfl) ?_
  obtain ⟨hg1, hf⟩ := zz_gd hf
  refine va_iald hx hb hK hP 1 0 rfl rfl hg1 dX10_byteAt_6 ?_
  obtain ⟨j25_3, hj25_3, hf⟩ := zz_lts hf
  have Kj25_3 : ∀ (y2 : Int32) (H : Heap) (locs : List Loc), va_P D vwCl (zw_10 q k S) H → va_D A (zw_10 q k S) → va_S A s.heap H locs → ∀ ls : Array Slot, lv_has ls 3 [] → j25_3 y2 = some r → W p l e rmX10_byteAt s m args below meth c H locs 0 0 Q (F0 m 25 ls [.int y2]) := by
    intro y2 H locs hP hD hS ls hl hf
    rw [hj25_3] at hf
    obtain rfl := zz_e1 hf
    exact hret _ _ _ _ dX10_byteAt_25 hP hD hS
  refine lv_icmp_ge (tgt := 24) hx hb dX10_byteAt_7 (by decide) (fun c7 => ?_) (fun c7 => ?_)
  · have hf := zz_ps hf c7
    refine lv_iconst (v := (-1 : Int32)) hx hb dX10_byteAt_24 (by decide) ?_
    exact Kj25_3 (-1 : Int32) _ _ hP hD hS ls (lv_sub hl [] rfl) hf
  · have hf := zz_ng hf c7
    refine lv_aload_n hx hb dX10_byteAt_10 rfl (lv_at hl 0 rfl) ?_
    refine va_get (D := D) (ci := 10) (v := .ref (q 2)) (C := RX10) (T := TX10) (N := 34) hx hb hts inX10 hown hK hP 0 rfl rfl 1 (by decide) lk13 (fun _ h9 => h9) rfl dX10_byteAt_11 ?_
    refine lv_bipush (v := (41 : Int32)) hx hb dX10_byteAt_14 (by decide) ?_
    refine lv_iload_n hx hb dX10_byteAt_16 rfl (lv_at hl 1 rfl) ?_
    refine lv_imul hx hb dX10_byteAt_17 ?_
    refine lv_iload_n hx hb dX10_byteAt_18 rfl (lv_at hl 2 rfl) ?_
    refine lv_iadd hx hb dX10_byteAt_19 ?_
    obtain ⟨hg4, hf⟩ := zz_gd hf
    refine va_iald hx hb hK hP 2 1 rfl rfl hg4 dX10_byteAt_20 ?_
    refine lv_goto (tgt := 25) hx hb dX10_byteAt_21 (by decide) ?_
    exact Kj25_3 ((zz_gA S 1) (Int32.toNatClampNeg (((41 : Int32) * u0) + u1))) _ _ hP hD hS ls (lv_sub hl [] rfl) hf
def rmX10_wayOf : Room := { frames := 0, cells := 0, slots := 0, locals := 0 }
set_option maxHeartbeats 4000000 in
set_option maxRecDepth 100000 in
theorem zc_X10_wayOf (l : Launch) (D : va_G) (tb : Nat → Nat)  (F : Nat) (u0 : Int32)  (r : Int32) (hf : pX10_wayOf F u0 = some r) : zz_Mi l yX10_wayOf wsX10_wayOf rmX10_wayOf D tb [] [.int u0] zw_none zw_none r := by
  refine zz_ofi (cc := cX10_wayOf) (maxL := 1) (by decide) rfl (Nat.le_of_ble_eq_true rfl) ?_
  intro p e s m args below meth c A Q hfx hK hA hE hret H locs hP hD hS ls hl
  obtain ⟨hx, hb, hml, hown, hts⟩ := id hfx
  have hl : lv_has ls 1 [(0, .int u0)] := hl
  unfold pX10_wayOf at hf
  refine lv_iload_n hx hb dX10_wayOf_0 rfl (lv_at hl 0 rfl) ?_
  refine lv_bipush (v := (110 : Int32)) hx hb dX10_wayOf_1 (by decide) ?_
  obtain ⟨v1, hv1, hf⟩ := zz_lts hf
  have hK2 : ∀ ls : Array Slot, lv_has ls 1 [] → W p l e rmX10_wayOf s m args below meth c H locs 0 0 Q (F0 m 51 ls [.int v1]) := by
    intro ls hl
    obtain rfl := zz_e1 hf
    exact hret _ _ _ _ dX10_wayOf_51 hP hD hS
  refine lv_icmp_ne (tgt := 10) hx hb dX10_wayOf_3 (by decide) (fun c3 => ?_) (fun c3 => ?_)
  · refine lv_iload_n hx hb dX10_wayOf_10 rfl (lv_at hl 0 rfl) ?_
    refine lv_bipush (v := (101 : Int32)) hx hb dX10_wayOf_11 (by decide) ?_
    refine lv_icmp_ne (tgt := 20) hx hb dX10_wayOf_13 (by decide) (fun c13 => ?_) (fun c13 => ?_)
    · refine lv_iload_n hx hb dX10_wayOf_20 rfl (lv_at hl 0 rfl) ?_
      refine lv_bipush (v := (115 : Int32)) hx hb dX10_wayOf_21 (by decide) ?_
      refine lv_icmp_ne (tgt := 30) hx hb dX10_wayOf_23 (by decide) (fun c23 => ?_) (fun c23 => ?_)
      · refine lv_iload_n hx hb dX10_wayOf_30 rfl (lv_at hl 0 rfl) ?_
        refine lv_bipush (v := (119 : Int32)) hx hb dX10_wayOf_31 (by decide) ?_
        refine lv_icmp_ne (tgt := 40) hx hb dX10_wayOf_33 (by decide) (fun c33 => ?_) (fun c33 => ?_)
        · refine lv_iload_n hx hb dX10_wayOf_40 rfl (lv_at hl 0 rfl) ?_
          refine lv_bipush (v := (46 : Int32)) hx hb dX10_wayOf_41 (by decide) ?_
          refine lv_icmp_ne (tgt := 50) hx hb dX10_wayOf_43 (by decide) (fun c43 => ?_) (fun c43 => ?_)
          · refine lv_iconst (v := (-1 : Int32)) hx hb dX10_wayOf_50 (by decide) ?_
            refine zz_ti (show v1 = (-1 : Int32) by rw [hv1, if_neg c3, if_neg c13, if_neg c23, if_neg c33, if_neg c43]) ?_
            exact hK2 ls (lv_sub hl [] rfl)
          · refine lv_iconst (v := (4 : Int32)) hx hb dX10_wayOf_46 (by decide) ?_
            refine lv_goto (tgt := 51) hx hb dX10_wayOf_47 (by decide) ?_
            refine zz_ti (show v1 = (4 : Int32) by rw [hv1, if_neg c3, if_neg c13, if_neg c23, if_neg c33, if_pos c43]) ?_
            exact hK2 ls (lv_sub hl [] rfl)
        · refine lv_iconst (v := (3 : Int32)) hx hb dX10_wayOf_36 (by decide) ?_
          refine lv_goto (tgt := 51) hx hb dX10_wayOf_37 (by decide) ?_
          refine zz_ti (show v1 = (3 : Int32) by rw [hv1, if_neg c3, if_neg c13, if_neg c23, if_pos c33]) ?_
          exact hK2 ls (lv_sub hl [] rfl)
      · refine lv_iconst (v := (2 : Int32)) hx hb dX10_wayOf_26 (by decide) ?_
        refine lv_goto (tgt := 51) hx hb dX10_wayOf_27 (by decide) ?_
        refine zz_ti (show v1 = (2 : Int32) by rw [hv1, if_neg c3, if_neg c13, if_pos c23]) ?_
        exact hK2 ls (lv_sub hl [] rfl)
    · refine lv_iconst (v := (1 : Int32)) hx hb dX10_wayOf_16 (by decide) ?_
      refine lv_goto (tgt := 51) hx hb dX10_wayOf_17 (by decide) ?_
      refine zz_ti (show v1 = (1 : Int32) by rw [hv1, if_neg c3, if_pos c13]) ?_
      exact hK2 ls (lv_sub hl [] rfl)
  · refine lv_iconst (v := (0 : Int32)) hx hb dX10_wayOf_6 (by decide) ?_
    refine lv_goto (tgt := 51) hx hb dX10_wayOf_7 (by decide) ?_
    refine zz_ti (show v1 = (0 : Int32) by rw [hv1, if_pos c3]) ?_
    exact hK2 ls (lv_sub hl [] rfl)
def rmX10_readsBeat : Room := { frames := 1, cells := 0, slots := 0, locals := 22 }
set_option maxHeartbeats 4000000 in
set_option maxRecDepth 100000 in
theorem zc_X10_readsBeat (l : Launch) (D : va_G) (tb : Nat → Nat) (q : Nat → Nat) (k : Nat → ClassId) (F : Nat)  (S : zz_M) (r : Int32) (o1 : zz_M) (hf : pX10_readsBeat F S = some (r, o1)) : zz_Mi l yX10_readsBeat wsX10_readsBeat rmX10_readsBeat D tb [((k 1), .int), ((k 2), .int), ((k 3), .int), ((k 4), .int), ((k 5), .int), ((k 6), .int), ((k 7), .int), ((k 8), .boolean), ((k 9), .int), ((k 10), .int), ((k 11), .int), ((k 12), .int), ((k 13), .int), ((k 14), .int), ((k 15), .int), ((k 16), .boolean), ((k 17), .int), ((k 18), .int), ((k 19), .int), ((k 20), .int)] [.ref (q 0)] (zw_10 q k S) (zw_10 q k o1) r := by
  refine zz_ofi (cc := cX10_readsBeat) (maxL := 3) (by decide) rfl (Nat.le_of_ble_eq_true rfl) ?_
  intro p e s m args below meth c A Q hfx hK hA hE hret H locs hP hD hS ls hl
  obtain ⟨hx, hb, hml, hown, hts⟩ := id hfx
  have inX10 : ∀ w ∈ u_ws RX10 TX10 34, w ∈ wsX10_readsBeat := by decide +kernel
  have lk101 := hts (.fieldLink RX10 101 "CatBeatModel" "steps" "I") (by decide +kernel)
  have lk7 := hts (.fieldLink RX10 7 "CatBeatModel" "typed" "[I") (by decide +kernel)
  have lk19 := hts (.fieldLink RX10 19 "CatBeatModel" "beatTold" "[I") (by decide +kernel)
  have hl : lv_has ls 3 [(0, .ref (q 0))] := hl
  unfold pX10_readsBeat at hf
  refine lv_aload_n hx hb dX10_readsBeat_0 rfl (lv_at hl 0 rfl) ?_
  refine lv_iconst (v := (0 : Int32)) hx hb dX10_readsBeat_1 (by decide) ?_
  obtain ⟨S1, hS1, hf⟩ := zz_lts hf
  refine va_put (D := D) (ci := 10) (v := .int (0 : Int32)) (ty := .int) (C := RX10) (T := TX10) (N := 34) hx hb hts inX10 tyX10 tyX10_ok nmX10 hown hK hP hD hS 0 rfl rfl 6 (by decide) lk101 (fun _ h9 => h9) rfl (by decide +kernel) rfl rfl (Nat.le_of_ble_eq_true rfl) dX10_readsBeat_2 (fun H locs hP hD hS => ?_)
  have hP : va_P D vwCl (zw_10 q k S1) H := by rw [hS1]; exact hP
  have hD : va_D A (zw_10 q k S1) := by rw [hS1]; exact hD
  refine lv_iconst (v := (0 : Int32)) hx hb dX10_readsBeat_5 (by decide) ?_
  refine lv_istore_n (lv' := [(1, .int (0 : Int32)), (0, .ref (q 0))]) hx hb dX10_readsBeat_6 rfl hl (by decide) rfl (fun ls hl => ?_)
  have hLkL7_3 : ∀ (n7_3 : Nat) (x2 : Int32) (z3 : zz_M) (H : Heap) (locs : List Loc), va_P D vwCl (zw_10 q k z3) H → va_D A (zw_10 q k z3) → va_S A s.heap H locs → ∀ ls : Array Slot, lv_has ls 3 [(0, .ref (q 0)), (1, .int x2)] → pX10_readsBeat_L7_3 F n7_3 x2 z3 = some (r, o1) → W p l e rmX10_readsBeat s m args below meth c H locs 0 0 Q (F0 m 7 ls []) := by
    intro n7_3
    induction n7_3 with
    | zero =>
      intro x2 z3 H locs hP hD hS ls hl hf
      exact nomatch (show (none : Option _) = some _ from hf)
    | succ n7_3 ihkL7_3 =>
      intro x2 z3 H locs hP hD hS ls hl hf
      rw [pX10_readsBeat_L7_3] at hf
      refine lv_iload_n hx hb dX10_readsBeat_7 rfl (lv_at hl 1 rfl) ?_
      refine lv_aload_n hx hb dX10_readsBeat_8 rfl (lv_at hl 0 rfl) ?_
      refine va_get (D := D) (ci := 10) (v := .ref (q 1)) (C := RX10) (T := TX10) (N := 34) hx hb hts inX10 hown hK hP 0 rfl rfl 0 (by decide) lk7 (fun _ h9 => h9) rfl dX10_readsBeat_9 ?_
      refine lv_iconst (v := (1 : Int32)) hx hb dX10_readsBeat_12 (by decide) ?_
      refine va_iald hx hb hK hP 1 0 rfl rfl (show zz_in (1 : Int32) 3 by decide) dX10_readsBeat_13 ?_
      refine lv_icmp_ge (tgt := 47) hx hb dX10_readsBeat_14 (by decide) (fun c14 => ?_) (fun c14 => ?_)
      · have hf := zz_ps hf c14
        refine lv_aload_n hx hb dX10_readsBeat_47 rfl (lv_at hl 0 rfl) ?_
        refine lv_aload_n hx hb dX10_readsBeat_48 rfl (lv_at hl 0 rfl) ?_
        refine va_get (D := D) (ci := 10) (v := .ref (q 1)) (C := RX10) (T := TX10) (N := 34) hx hb hts inX10 hown hK hP 0 rfl rfl 0 (by decide) lk7 (fun _ h9 => h9) rfl dX10_readsBeat_49 ?_
        refine lv_iconst (v := (1 : Int32)) hx hb dX10_readsBeat_52 (by decide) ?_
        refine va_iald hx hb hK hP 1 0 rfl rfl (show zz_in (1 : Int32) 3 by decide) dX10_readsBeat_53 ?_
        obtain ⟨S5, hS5, hf⟩ := zz_lts hf
        refine va_put (D := D) (ci := 10) (v := .int ((zz_gA z3 0) (Int32.toNatClampNeg (1 : Int32)))) (ty := .int) (C := RX10) (T := TX10) (N := 34) hx hb hts inX10 tyX10 tyX10_ok nmX10 hown hK hP hD hS 0 rfl rfl 6 (by decide) lk101 (fun _ h9 => h9) rfl (by decide +kernel) rfl rfl (Nat.le_of_ble_eq_true rfl) dX10_readsBeat_54 (fun H locs hP hD hS => ?_)
        have hP : va_P D vwCl (zw_10 q k S5) H := by rw [hS5]; exact hP
        have hD : va_D A (zw_10 q k S5) := by rw [hS5]; exact hD
        refine lv_iconst (v := (-1 : Int32)) hx hb dX10_readsBeat_57 (by decide) ?_
        obtain ⟨rfl, rfl⟩ := zz_e2 hf
        exact hret _ _ _ _ dX10_readsBeat_58 hP hD hS
      · have hf := zz_ng hf c14
        refine lv_aload_n hx hb dX10_readsBeat_17 rfl (lv_at hl 0 rfl) ?_
        refine lv_iconst (v := (1 : Int32)) hx hb dX10_readsBeat_18 (by decide) ?_
        refine lv_iload_n hx hb dX10_readsBeat_19 rfl (lv_at hl 1 rfl) ?_
        obtain ⟨r6, hc7, hf⟩ := zz_b1s hf
        refine zz_ji0 (va_runV (As := [.int (1 : Int32), .int x2]) (rest := []) hfx (zc_X10_byteAt l D tb q k F (1 : Int32) x2 z3 r6 hc7 H.size) (cwV 2 hts gX10_readsBeat_X10_byteAt rfl rfl rfl (by decide +kernel) ⟨Nat.le_of_ble_eq_true rfl, Nat.le_of_ble_eq_true rfl⟩) (zz_pre0V hK hP hD hS hA hE 0 rfl rfl rfl) rfl rfl hl.1 rfl (lv_room (Nat.le_of_ble_eq_true rfl)) dX10_readsBeat_20 ⟨Nat.zero_le _, Nat.zero_le _⟩) hD hS hA (fun H locs hP hD hS => ?_)
        obtain ⟨r8, hc9, hf⟩ := zz_b1s hf
        refine zz_ji (va_runS (As := [.int r6]) (rest := []) hfx (zc_X10_wayOf l D tb  F r6  r8 hc9 H.size) (va_cwS 1 hts gX10_readsBeat_X10_wayOf rfl rfl rfl (by decide +kernel) ⟨Nat.le_of_ble_eq_true rfl, Nat.le_of_ble_eq_true rfl⟩) (zz_preS hK hP hD hS hA hE [] [] rfl (by decide) rfl) rfl rfl hl.1 rfl (lv_room (Nat.le_of_ble_eq_true rfl)) dX10_readsBeat_23 ⟨Nat.zero_le _, Nat.zero_le _⟩) hP hD hS hA [] rfl rfl (fun H locs hP hD hS => ?_)
        have hP : va_P D vwCl (zw_10 q k z3) H := hP
        have hD : va_D A (zw_10 q k z3) := hD
        refine lv_istore_n (lv' := [(2, .int r8), (0, .ref (q 0)), (1, .int x2)]) hx hb dX10_readsBeat_26 rfl hl (by decide) rfl (fun ls hl => ?_)
        refine lv_iload_n hx hb dX10_readsBeat_27 rfl (lv_at hl 0 rfl) ?_
        refine lv_iconst (v := (-1 : Int32)) hx hb dX10_readsBeat_28 (by decide) ?_
        refine lv_icmp_ne (tgt := 34) hx hb dX10_readsBeat_29 (by decide) (fun c29 => ?_) (fun c29 => ?_)
        · have hf := zz_ng hf c29
          refine lv_aload_n hx hb dX10_readsBeat_34 rfl (lv_at hl 1 rfl) ?_
          refine va_get (D := D) (ci := 10) (v := .ref (q 4)) (C := RX10) (T := TX10) (N := 34) hx hb hts inX10 hown hK hP 0 rfl rfl 7 (by decide) lk19 (fun _ h9 => h9) rfl dX10_readsBeat_35 ?_
          refine lv_iload_n hx hb dX10_readsBeat_38 rfl (lv_at hl 2 rfl) ?_
          refine lv_iload_n hx hb dX10_readsBeat_39 rfl (lv_at hl 0 rfl) ?_
          obtain ⟨hg10, hf⟩ := zz_gd hf
          obtain ⟨S11, hS11, hf⟩ := zz_lts hf
          refine va_iast hx hb hK hP hD hS 4 3 rfl rfl hg10 dX10_readsBeat_40 (fun H locs hP hD hS => ?_)
          have hP : va_P D vwCl (zw_10 q k S11) H := by rw [hS11]; exact hP
          have hD : va_D A (zw_10 q k S11) := by rw [hS11]; exact hD
          obtain ⟨v12, hv12, hf⟩ := zz_lts hf
          refine lv_iinc (v := v12) (lv' := [(1, .int v12), (2, .int r8), (0, .ref (q 0))]) hx hb dX10_readsBeat_41 hl (k := 2) rfl (by rw [hv12]; rfl) (by decide) rfl (fun ls hl => ?_)
          refine lv_goto (tgt := 7) hx hb dX10_readsBeat_44 (by decide) ?_
          exact ihkL7_3 v12 S11 _ _ hP hD hS ls (lv_sub hl [2, 0] rfl) hf
        · have hf := zz_ps hf c29
          refine lv_iload_n hx hb dX10_readsBeat_32 rfl (lv_at hl 2 rfl) ?_
          obtain ⟨rfl, rfl⟩ := zz_e2 hf
          exact hret _ _ _ _ dX10_readsBeat_33 hP hD hS
  exact hLkL7_3 F (0 : Int32) S1 _ _ hP hD hS ls (lv_sub hl [1, 0] rfl) hf
def rmX10_readsThief : Room := { frames := 1, cells := 0, slots := 0, locals := 22 }
set_option maxHeartbeats 4000000 in
set_option maxRecDepth 100000 in
theorem zc_X10_readsThief (l : Launch) (D : va_G) (tb : Nat → Nat) (q : Nat → Nat) (k : Nat → ClassId) (F : Nat) (u0 : Int32) (u1 : Int32) (S : zz_M) (r : Int32) (o1 : zz_M) (hf : pX10_readsThief F u0 u1 S = some (r, o1)) : zz_Mi l yX10_readsThief wsX10_readsThief rmX10_readsThief D tb [((k 1), .int), ((k 2), .int), ((k 3), .int), ((k 4), .int), ((k 5), .int), ((k 6), .int), ((k 7), .int), ((k 8), .boolean), ((k 9), .int), ((k 10), .int), ((k 11), .int), ((k 12), .int), ((k 13), .int), ((k 14), .int), ((k 15), .int), ((k 16), .boolean), ((k 17), .int), ((k 18), .int), ((k 19), .int), ((k 20), .int)] [.ref (q 0), .int u0, .int u1] (zw_10 q k S) (zw_10 q k o1) r := by
  refine zz_ofi (cc := cX10_readsThief) (maxL := 6) (by decide) rfl (Nat.le_of_ble_eq_true rfl) ?_
  intro p e s m args below meth c A Q hfx hK hA hE hret H locs hP hD hS ls hl
  obtain ⟨hx, hb, hml, hown, hts⟩ := id hfx
  have inX10 : ∀ w ∈ u_ws RX10 TX10 34, w ∈ wsX10_readsThief := by decide +kernel
  have lk22 := hts (.fieldLink RX10 22 "CatBeatModel" "wants" "[I") (by decide +kernel)
  have lk25 := hts (.fieldLink RX10 25 "CatBeatModel" "needs" "[I") (by decide +kernel)
  have hl : lv_has ls 6 [(0, .ref (q 0)), (1, .int u0), (2, .int u1)] := hl
  unfold pX10_readsThief at hf
  refine lv_aload_n hx hb dX10_readsThief_0 rfl (lv_at hl 0 rfl) ?_
  refine lv_iconst (v := (2 : Int32)) hx hb dX10_readsThief_1 (by decide) ?_
  refine lv_iload_n hx hb dX10_readsThief_2 rfl (lv_at hl 2 rfl) ?_
  obtain ⟨r1, hc2, hf⟩ := zz_b1s hf
  refine zz_ji0 (va_runV (As := [.int (2 : Int32), .int u1]) (rest := []) hfx (zc_X10_byteAt l D tb q k F (2 : Int32) u1 S r1 hc2 H.size) (cwV 2 hts gX10_readsThief_X10_byteAt rfl rfl rfl (by decide +kernel) ⟨Nat.le_of_ble_eq_true rfl, Nat.le_of_ble_eq_true rfl⟩) (zz_pre0V hK hP hD hS hA hE 0 rfl rfl rfl) rfl rfl hl.1 rfl (lv_room (Nat.le_of_ble_eq_true rfl)) dX10_readsThief_3 ⟨Nat.zero_le _, Nat.zero_le _⟩) hD hS hA (fun H locs hP hD hS => ?_)
  refine lv_bipush (v := (48 : Int32)) hx hb dX10_readsThief_6 (by decide) ?_
  refine lv_isub hx hb dX10_readsThief_8 ?_
  obtain ⟨v3, hv3, hf⟩ := zz_lts hf
  refine zz_ti hv3 ?_
  refine lv_istore_n (lv' := [(3, .int v3), (0, .ref (q 0)), (1, .int u0), (2, .int u1)]) hx hb dX10_readsThief_9 rfl hl (by decide) rfl (fun ls hl => ?_)
  refine lv_aload_n hx hb dX10_readsThief_10 rfl (lv_at hl 1 rfl) ?_
  refine lv_iconst (v := (2 : Int32)) hx hb dX10_readsThief_11 (by decide) ?_
  refine lv_iload_n hx hb dX10_readsThief_12 rfl (lv_at hl 3 rfl) ?_
  refine lv_iconst (v := (1 : Int32)) hx hb dX10_readsThief_13 (by decide) ?_
  refine lv_iadd hx hb dX10_readsThief_14 ?_
  obtain ⟨r4, hc5, hf⟩ := zz_b1s hf
  refine zz_ji0 (va_runV (As := [.int (2 : Int32), .int (u1 + (1 : Int32))]) (rest := []) hfx (zc_X10_byteAt l D tb q k F (2 : Int32) (u1 + (1 : Int32)) S r4 hc5 H.size) (cwV 2 hts gX10_readsThief_X10_byteAt rfl rfl rfl (by decide +kernel) ⟨Nat.le_of_ble_eq_true rfl, Nat.le_of_ble_eq_true rfl⟩) (zz_pre0V hK hP hD hS hA hE 0 rfl rfl rfl) rfl rfl hl.1 rfl (lv_room (Nat.le_of_ble_eq_true rfl)) dX10_readsThief_15 ⟨Nat.zero_le _, Nat.zero_le _⟩) hD hS hA (fun H locs hP hD hS => ?_)
  refine lv_bipush (v := (48 : Int32)) hx hb dX10_readsThief_18 (by decide) ?_
  refine lv_isub hx hb dX10_readsThief_20 ?_
  obtain ⟨v6, hv6, hf⟩ := zz_lts hf
  refine zz_ti hv6 ?_
  refine lv_istore (lv' := [(4, .int v6), (3, .int v3), (0, .ref (q 0)), (1, .int u0), (2, .int u1)]) hx hb dX10_readsThief_21 hl (by decide) rfl (fun ls hl => ?_)
  refine lv_aload_n hx hb dX10_readsThief_23 rfl (lv_at hl 2 rfl) ?_
  refine lv_iconst (v := (2 : Int32)) hx hb dX10_readsThief_24 (by decide) ?_
  refine lv_iload_n hx hb dX10_readsThief_25 rfl (lv_at hl 4 rfl) ?_
  refine lv_iconst (v := (2 : Int32)) hx hb dX10_readsThief_26 (by decide) ?_
  refine lv_iadd hx hb dX10_readsThief_27 ?_
  obtain ⟨r7, hc8, hf⟩ := zz_b1s hf
  refine zz_ji0 (va_runV (As := [.int (2 : Int32), .int (u1 + (2 : Int32))]) (rest := []) hfx (zc_X10_byteAt l D tb q k F (2 : Int32) (u1 + (2 : Int32)) S r7 hc8 H.size) (cwV 2 hts gX10_readsThief_X10_byteAt rfl rfl rfl (by decide +kernel) ⟨Nat.le_of_ble_eq_true rfl, Nat.le_of_ble_eq_true rfl⟩) (zz_pre0V hK hP hD hS hA hE 0 rfl rfl rfl) rfl rfl hl.1 rfl (lv_room (Nat.le_of_ble_eq_true rfl)) dX10_readsThief_28 ⟨Nat.zero_le _, Nat.zero_le _⟩) hD hS hA (fun H locs hP hD hS => ?_)
  refine lv_bipush (v := (48 : Int32)) hx hb dX10_readsThief_31 (by decide) ?_
  refine lv_isub hx hb dX10_readsThief_33 ?_
  obtain ⟨v9, hv9, hf⟩ := zz_lts hf
  refine zz_ti hv9 ?_
  refine lv_istore (lv' := [(5, .int v9), (4, .int v6), (3, .int v3), (0, .ref (q 0)), (1, .int u0), (2, .int u1)]) hx hb dX10_readsThief_34 hl (by decide) rfl (fun ls hl => ?_)
  refine lv_iload_n hx hb dX10_readsThief_36 rfl (lv_at hl 2 rfl) ?_
  refine lv_iconst (v := (0 : Int32)) hx hb dX10_readsThief_37 (by decide) ?_
  refine lv_iconst (v := (3 : Int32)) hx hb dX10_readsThief_38 (by decide) ?_
  obtain ⟨r10, hc11, hf⟩ := zz_b1s hf
  refine zz_ji (va_runS (As := [.int v3, .int (0 : Int32), .int (3 : Int32)]) (rest := []) hfx (zc_X10_in l D tb  F v3 (0 : Int32) (3 : Int32)  r10 hc11 H.size) (va_cwS 3 hts gX10_readsThief_X10_in rfl rfl rfl (by decide +kernel) ⟨Nat.le_of_ble_eq_true rfl, Nat.le_of_ble_eq_true rfl⟩) (zz_preS hK hP hD hS hA hE [] [] rfl (by decide) rfl) rfl rfl hl.1 rfl (lv_room (Nat.le_of_ble_eq_true rfl)) dX10_readsThief_39 ⟨Nat.zero_le _, Nat.zero_le _⟩) hP hD hS hA [] rfl rfl (fun H locs hP hD hS => ?_)
  have hP : va_P D vwCl (zw_10 q k S) H := hP
  have hD : va_D A (zw_10 q k S) := hD
  refine lv_if_ne (tgt := 47) hx hb dX10_readsThief_42 (by decide) (fun c42 => ?_) (fun c42 => ?_)
  · have hf := zz_ng hf c42
    refine lv_iload hx hb dX10_readsThief_47 (lv_at hl 1 rfl) ?_
    refine lv_iconst (v := (0 : Int32)) hx hb dX10_readsThief_49 (by decide) ?_
    refine lv_bipush (v := (9 : Int32)) hx hb dX10_readsThief_50 (by decide) ?_
    obtain ⟨r12, hc13, hf⟩ := zz_b1s hf
    refine zz_ji (va_runS (As := [.int v6, .int (0 : Int32), .int (9 : Int32)]) (rest := []) hfx (zc_X10_in l D tb  F v6 (0 : Int32) (9 : Int32)  r12 hc13 H.size) (va_cwS 3 hts gX10_readsThief_X10_in rfl rfl rfl (by decide +kernel) ⟨Nat.le_of_ble_eq_true rfl, Nat.le_of_ble_eq_true rfl⟩) (zz_preS hK hP hD hS hA hE [] [] rfl (by decide) rfl) rfl rfl hl.1 rfl (lv_room (Nat.le_of_ble_eq_true rfl)) dX10_readsThief_52 ⟨Nat.zero_le _, Nat.zero_le _⟩) hP hD hS hA [] rfl rfl (fun H locs hP hD hS => ?_)
    have hP : va_P D vwCl (zw_10 q k S) H := hP
    have hD : va_D A (zw_10 q k S) := hD
    refine lv_if_ne (tgt := 60) hx hb dX10_readsThief_55 (by decide) (fun c55 => ?_) (fun c55 => ?_)
    · have hf := zz_ng hf c55
      refine lv_iload hx hb dX10_readsThief_60 (lv_at hl 0 rfl) ?_
      refine lv_iconst (v := (1 : Int32)) hx hb dX10_readsThief_62 (by decide) ?_
      refine lv_bipush (v := (9 : Int32)) hx hb dX10_readsThief_63 (by decide) ?_
      obtain ⟨r14, hc15, hf⟩ := zz_b1s hf
      refine zz_ji (va_runS (As := [.int v9, .int (1 : Int32), .int (9 : Int32)]) (rest := []) hfx (zc_X10_in l D tb  F v9 (1 : Int32) (9 : Int32)  r14 hc15 H.size) (va_cwS 3 hts gX10_readsThief_X10_in rfl rfl rfl (by decide +kernel) ⟨Nat.le_of_ble_eq_true rfl, Nat.le_of_ble_eq_true rfl⟩) (zz_preS hK hP hD hS hA hE [] [] rfl (by decide) rfl) rfl rfl hl.1 rfl (lv_room (Nat.le_of_ble_eq_true rfl)) dX10_readsThief_65 ⟨Nat.zero_le _, Nat.zero_le _⟩) hP hD hS hA [] rfl rfl (fun H locs hP hD hS => ?_)
      have hP : va_P D vwCl (zw_10 q k S) H := hP
      have hD : va_D A (zw_10 q k S) := hD
      refine lv_if_ne (tgt := 73) hx hb dX10_readsThief_68 (by decide) (fun c68 => ?_) (fun c68 => ?_)
      · have hf := zz_ng hf c68
        refine lv_aload_n hx hb dX10_readsThief_73 rfl (lv_at hl 3 rfl) ?_
        refine va_get (D := D) (ci := 10) (v := .ref (q 5)) (C := RX10) (T := TX10) (N := 34) hx hb hts inX10 hown hK hP 0 rfl rfl 9 (by decide) lk22 (fun _ h9 => h9) rfl dX10_readsThief_74 ?_
        refine lv_iload_n hx hb dX10_readsThief_77 rfl (lv_at hl 4 rfl) ?_
        refine lv_bipush (v := (10 : Int32)) hx hb dX10_readsThief_78 (by decide) ?_
        refine lv_iload_n hx hb dX10_readsThief_80 rfl (lv_at hl 2 rfl) ?_
        refine lv_imul hx hb dX10_readsThief_81 ?_
        refine lv_iload hx hb dX10_readsThief_82 (lv_at hl 1 rfl) ?_
        refine lv_iadd hx hb dX10_readsThief_84 ?_
        obtain ⟨hg16, hf⟩ := zz_gd hf
        obtain ⟨S17, hS17, hf⟩ := zz_lts hf
        refine va_iast hx hb hK hP hD hS 5 4 rfl rfl hg16 dX10_readsThief_85 (fun H locs hP hD hS => ?_)
        have hP : va_P D vwCl (zw_10 q k S17) H := by rw [hS17]; exact hP
        have hD : va_D A (zw_10 q k S17) := by rw [hS17]; exact hD
        refine lv_aload_n hx hb dX10_readsThief_86 rfl (lv_at hl 3 rfl) ?_
        refine va_get (D := D) (ci := 10) (v := .ref (q 6)) (C := RX10) (T := TX10) (N := 34) hx hb hts inX10 hown hK hP 0 rfl rfl 10 (by decide) lk25 (fun _ h9 => h9) rfl dX10_readsThief_87 ?_
        refine lv_iload_n hx hb dX10_readsThief_90 rfl (lv_at hl 4 rfl) ?_
        refine lv_iload hx hb dX10_readsThief_91 (lv_at hl 0 rfl) ?_
        obtain ⟨hg18, hf⟩ := zz_gd hf
        obtain ⟨S19, hS19, hf⟩ := zz_lts hf
        refine va_iast hx hb hK hP hD hS 6 5 rfl rfl hg18 dX10_readsThief_93 (fun H locs hP hD hS => ?_)
        have hP : va_P D vwCl (zw_10 q k S19) H := by rw [hS19]; exact hP
        have hD : va_D A (zw_10 q k S19) := by rw [hS19]; exact hD
        refine lv_iconst (v := (3 : Int32)) hx hb dX10_readsThief_94 (by decide) ?_
        obtain ⟨rfl, rfl⟩ := zz_e2 hf
        exact hret _ _ _ _ dX10_readsThief_95 hP hD hS
      · have hf := zz_ps hf c68
        refine lv_iconst (v := (2 : Int32)) hx hb dX10_readsThief_71 (by decide) ?_
        obtain ⟨rfl, rfl⟩ := zz_e2 hf
        exact hret _ _ _ _ dX10_readsThief_72 hP hD hS
    · have hf := zz_ps hf c55
      refine lv_iconst (v := (1 : Int32)) hx hb dX10_readsThief_58 (by decide) ?_
      obtain ⟨rfl, rfl⟩ := zz_e2 hf
      exact hret _ _ _ _ dX10_readsThief_59 hP hD hS
  · have hf := zz_ps hf c42
    refine lv_iconst (v := (0 : Int32)) hx hb dX10_readsThief_45 (by decide) ?_
    obtain ⟨rfl, rfl⟩ := zz_e2 hf
    exact hret _ _ _ _ dX10_readsThief_46 hP hD hS
def rmX10_readsThieves : Room := { frames := 2, cells := 0, slots := 0, locals := 47 }
set_option maxHeartbeats 4000000 in
set_option maxRecDepth 100000 in
theorem zc_X10_readsThieves (l : Launch) (D : va_G) (tb : Nat → Nat) (q : Nat → Nat) (k : Nat → ClassId) (F : Nat)  (S : zz_M) (r : Int32) (o1 : zz_M) (hf : pX10_readsThieves F S = some (r, o1)) : zz_Mi l yX10_readsThieves wsX10_readsThieves rmX10_readsThieves D tb [((k 1), .int), ((k 2), .int), ((k 3), .int), ((k 4), .int), ((k 5), .int), ((k 6), .int), ((k 7), .int), ((k 8), .boolean), ((k 9), .int), ((k 10), .int), ((k 11), .int), ((k 12), .int), ((k 13), .int), ((k 14), .int), ((k 15), .int), ((k 16), .boolean), ((k 17), .int), ((k 18), .int), ((k 19), .int), ((k 20), .int)] [.ref (q 0)] (zw_10 q k S) (zw_10 q k o1) r := by
  refine zz_ofi (cc := cX10_readsThieves) (maxL := 4) (by decide) rfl (Nat.le_of_ble_eq_true rfl) ?_
  intro p e s m args below meth c A Q hfx hK hA hE hret H locs hP hD hS ls hl
  obtain ⟨hx, hb, hml, hown, hts⟩ := id hfx
  have inX10 : ∀ w ∈ u_ws RX10 TX10 34, w ∈ wsX10_readsThieves := by decide +kernel
  have lk111 := hts (.fieldLink RX10 111 "CatBeatModel" "thieves" "I") (by decide +kernel)
  have lk7 := hts (.fieldLink RX10 7 "CatBeatModel" "typed" "[I") (by decide +kernel)
  have hl : lv_has ls 4 [(0, .ref (q 0))] := hl
  unfold pX10_readsThieves at hf
  refine lv_iconst (v := (0 : Int32)) hx hb dX10_readsThieves_0 (by decide) ?_
  refine lv_istore_n (lv' := [(1, .int (0 : Int32)), (0, .ref (q 0))]) hx hb dX10_readsThieves_1 rfl hl (by decide) rfl (fun ls hl => ?_)
  refine lv_iconst (v := (0 : Int32)) hx hb dX10_readsThieves_2 (by decide) ?_
  refine lv_istore_n (lv' := [(2, .int (0 : Int32)), (1, .int (0 : Int32)), (0, .ref (q 0))]) hx hb dX10_readsThieves_3 rfl hl (by decide) rfl (fun ls hl => ?_)
  refine lv_aload_n hx hb dX10_readsThieves_4 rfl (lv_at hl 2 rfl) ?_
  refine lv_iconst (v := (0 : Int32)) hx hb dX10_readsThieves_5 (by decide) ?_
  obtain ⟨S1, hS1, hf⟩ := zz_lts hf
  refine va_put (D := D) (ci := 10) (v := .int (0 : Int32)) (ty := .int) (C := RX10) (T := TX10) (N := 34) hx hb hts inX10 tyX10 tyX10_ok nmX10 hown hK hP hD hS 0 rfl rfl 8 (by decide) lk111 (fun _ h9 => h9) rfl (by decide +kernel) rfl rfl (Nat.le_of_ble_eq_true rfl) dX10_readsThieves_6 (fun H locs hP hD hS => ?_)
  have hP : va_P D vwCl (zw_10 q k S1) H := by rw [hS1]; exact hP
  have hD : va_D A (zw_10 q k S1) := by rw [hS1]; exact hD
  have hLkL9_4 : ∀ (n9_4 : Nat) (x2 : Int32) (x3 : Int32) (z4 : zz_M) (H : Heap) (locs : List Loc), va_P D vwCl (zw_10 q k z4) H → va_D A (zw_10 q k z4) → va_S A s.heap H locs → ∀ ls : Array Slot, lv_has ls 4 [(0, .ref (q 0)), (1, .int x2), (2, .int x3)] → pX10_readsThieves_L9_4 F n9_4 x2 x3 z4 = some (r, o1) → W p l e rmX10_readsThieves s m args below meth c H locs 0 0 Q (F0 m 9 ls []) := by
    intro n9_4
    induction n9_4 with
    | zero =>
      intro x2 x3 z4 H locs hP hD hS ls hl hf
      exact nomatch (show (none : Option _) = some _ from hf)
    | succ n9_4 ihkL9_4 =>
      intro x2 x3 z4 H locs hP hD hS ls hl hf
      rw [pX10_readsThieves_L9_4] at hf
      refine lv_iload_n hx hb dX10_readsThieves_9 rfl (lv_at hl 2 rfl) ?_
      refine lv_aload_n hx hb dX10_readsThieves_10 rfl (lv_at hl 0 rfl) ?_
      refine va_get (D := D) (ci := 10) (v := .ref (q 1)) (C := RX10) (T := TX10) (N := 34) hx hb hts inX10 hown hK hP 0 rfl rfl 0 (by decide) lk7 (fun _ h9 => h9) rfl dX10_readsThieves_11 ?_
      refine lv_iconst (v := (2 : Int32)) hx hb dX10_readsThieves_14 (by decide) ?_
      refine va_iald hx hb hK hP 1 0 rfl rfl (show zz_in (2 : Int32) 3 by decide) dX10_readsThieves_15 ?_
      obtain ⟨j23_6, hj23_6, hf⟩ := zz_lts hf
      have Kj23_6 : ∀  (H : Heap) (locs : List Loc), va_P D vwCl (zw_10 q k z4) H → va_D A (zw_10 q k z4) → va_S A s.heap H locs → ∀ ls : Array Slot, lv_has ls 4 [(0, .ref (q 0)), (1, .int x2), (2, .int x3)] → j23_6 () = some (r, o1) → W p l e rmX10_readsThieves s m args below meth c H locs 0 0 Q (F0 m 23 ls []) := by
        intro  H locs hP hD hS ls hl hf
        rw [hj23_6] at hf
        refine lv_iload_n hx hb dX10_readsThieves_23 rfl (lv_at hl 1 rfl) ?_
        refine lv_bipush (v := (8 : Int32)) hx hb dX10_readsThieves_24 (by decide) ?_
        obtain ⟨j39_9, hj39_9, hf⟩ := zz_lts hf
        have Kj39_9 : ∀ (y7 : Int32) (z8 : zz_M) (H : Heap) (locs : List Loc), va_P D vwCl (zw_10 q k z8) H → va_D A (zw_10 q k z8) → va_S A s.heap H locs → ∀ ls : Array Slot, lv_has ls 4 [(0, .ref (q 0)), (1, .int x2), (2, .int x3)] → j39_9 y7 z8 = some (r, o1) → W p l e rmX10_readsThieves s m args below meth c H locs 0 0 Q (F0 m 39 ls [.int y7]) := by
          intro y7 z8 H locs hP hD hS ls hl hf
          rw [hj39_9] at hf
          refine lv_istore_n (lv' := [(3, .int y7), (0, .ref (q 0)), (1, .int x2), (2, .int x3)]) hx hb dX10_readsThieves_39 rfl hl (by decide) rfl (fun ls hl => ?_)
          refine lv_iload_n hx hb dX10_readsThieves_40 rfl (lv_at hl 0 rfl) ?_
          refine lv_iconst (v := (3 : Int32)) hx hb dX10_readsThieves_41 (by decide) ?_
          refine lv_icmp_ge (tgt := 49) hx hb dX10_readsThieves_42 (by decide) (fun c42 => ?_) (fun c42 => ?_)
          · have hf := zz_ps hf c42
            obtain ⟨v10, hv10, hf⟩ := zz_lts hf
            refine lv_iinc (v := v10) (lv' := [(1, .int v10), (3, .int y7), (0, .ref (q 0)), (2, .int x3)]) hx hb dX10_readsThieves_49 hl (k := 2) rfl (by rw [hv10]; rfl) (by decide) rfl (fun ls hl => ?_)
            obtain ⟨v11, hv11, hf⟩ := zz_lts hf
            refine lv_iinc (v := v11) (lv' := [(2, .int v11), (1, .int v10), (3, .int y7), (0, .ref (q 0))]) hx hb dX10_readsThieves_52 hl (k := 3) rfl (by rw [hv11]; rfl) (by decide) rfl (fun ls hl => ?_)
            refine lv_iload_n hx hb dX10_readsThieves_55 rfl (lv_at hl 0 rfl) ?_
            refine lv_aload_n hx hb dX10_readsThieves_56 rfl (lv_at hl 3 rfl) ?_
            refine va_get (D := D) (ci := 10) (v := .ref (q 1)) (C := RX10) (T := TX10) (N := 34) hx hb hts inX10 hown hK hP 0 rfl rfl 0 (by decide) lk7 (fun _ h9 => h9) rfl dX10_readsThieves_57 ?_
            refine lv_iconst (v := (2 : Int32)) hx hb dX10_readsThieves_60 (by decide) ?_
            refine va_iald hx hb hK hP 1 0 rfl rfl (show zz_in (2 : Int32) 3 by decide) dX10_readsThieves_61 ?_
            refine lv_icmp_ne (tgt := 72) hx hb dX10_readsThieves_62 (by decide) (fun c62 => ?_) (fun c62 => ?_)
            · have hf := zz_ng hf c62
              refine lv_aload_n hx hb dX10_readsThieves_72 rfl (lv_at hl 3 rfl) ?_
              refine lv_iconst (v := (2 : Int32)) hx hb dX10_readsThieves_73 (by decide) ?_
              refine lv_iload_n hx hb dX10_readsThieves_74 rfl (lv_at hl 0 rfl) ?_
              obtain ⟨r12, hc13, hf⟩ := zz_b1s hf
              refine zz_ji0 (va_runV (As := [.int (2 : Int32), .int v11]) (rest := []) hfx (zc_X10_byteAt l D tb q k F (2 : Int32) v11 z8 r12 hc13 H.size) (cwV 2 hts gX10_readsThieves_X10_byteAt rfl rfl rfl (by decide +kernel) ⟨Nat.le_of_ble_eq_true rfl, Nat.le_of_ble_eq_true rfl⟩) (zz_pre0V hK hP hD hS hA hE 0 rfl rfl rfl) rfl rfl hl.1 rfl (lv_room (Nat.le_of_ble_eq_true rfl)) dX10_readsThieves_75 ⟨Nat.zero_le _, Nat.zero_le _⟩) hD hS hA (fun H locs hP hD hS => ?_)
              refine lv_bipush (v := (59 : Int32)) hx hb dX10_readsThieves_78 (by decide) ?_
              refine lv_icmp_eq (tgt := 85) hx hb dX10_readsThieves_80 (by decide) (fun c80 => ?_) (fun c80 => ?_)
              · have hf := zz_ps hf c80
                obtain ⟨v14, hv14, hf⟩ := zz_lts hf
                refine lv_iinc (v := v14) (lv' := [(2, .int v14), (1, .int v10), (3, .int y7), (0, .ref (q 0))]) hx hb dX10_readsThieves_85 hl (k := 0) rfl (by rw [hv14]; rfl) (by decide) rfl (fun ls hl => ?_)
                refine lv_goto (tgt := 9) hx hb dX10_readsThieves_88 (by decide) ?_
                exact ihkL9_4 v10 v14 z8 _ _ hP hD hS ls (lv_sub hl [3, 1, 0] rfl) hf
              · have hf := zz_ng hf c80
                refine lv_iload_n hx hb dX10_readsThieves_83 rfl (lv_at hl 0 rfl) ?_
                obtain ⟨rfl, rfl⟩ := zz_e2 hf
                exact hret _ _ _ _ dX10_readsThieves_84 hP hD hS
            · have hf := zz_ps hf c62
              refine lv_aload_n hx hb dX10_readsThieves_65 rfl (lv_at hl 3 rfl) ?_
              refine lv_iload_n hx hb dX10_readsThieves_66 rfl (lv_at hl 1 rfl) ?_
              obtain ⟨S15, hS15, hf⟩ := zz_lts hf
              refine va_put (D := D) (ci := 10) (v := .int v10) (ty := .int) (C := RX10) (T := TX10) (N := 34) hx hb hts inX10 tyX10 tyX10_ok nmX10 hown hK hP hD hS 0 rfl rfl 8 (by decide) lk111 (fun _ h9 => h9) rfl (by decide +kernel) rfl rfl (Nat.le_of_ble_eq_true rfl) dX10_readsThieves_67 (fun H locs hP hD hS => ?_)
              have hP : va_P D vwCl (zw_10 q k S15) H := by rw [hS15]; exact hP
              have hD : va_D A (zw_10 q k S15) := by rw [hS15]; exact hD
              refine lv_iconst (v := (-1 : Int32)) hx hb dX10_readsThieves_70 (by decide) ?_
              obtain ⟨rfl, rfl⟩ := zz_e2 hf
              exact hret _ _ _ _ dX10_readsThieves_71 hP hD hS
          · have hf := zz_ng hf c42
            refine lv_iload_n hx hb dX10_readsThieves_45 rfl (lv_at hl 3 rfl) ?_
            refine lv_iload_n hx hb dX10_readsThieves_46 rfl (lv_at hl 0 rfl) ?_
            refine lv_iadd hx hb dX10_readsThieves_47 ?_
            obtain ⟨rfl, rfl⟩ := zz_e2 hf
            exact hret _ _ _ _ dX10_readsThieves_48 hP hD hS
        refine lv_icmp_ne (tgt := 33) hx hb dX10_readsThieves_26 (by decide) (fun c26 => ?_) (fun c26 => ?_)
        · have hf := zz_ng hf c26
          refine lv_aload_n hx hb dX10_readsThieves_33 rfl (lv_at hl 0 rfl) ?_
          refine lv_iload_n hx hb dX10_readsThieves_34 rfl (lv_at hl 1 rfl) ?_
          refine lv_iload_n hx hb dX10_readsThieves_35 rfl (lv_at hl 2 rfl) ?_
          obtain ⟨r16, S17, hc18, hf⟩ := zz_b2s hf
          refine zz_ji0 (va_runV (As := [.int x2, .int x3]) (rest := []) hfx (zc_X10_readsThief l D tb q k F x2 x3 z4 r16 S17 hc18 H.size) (cwV 2 hts gX10_readsThieves_X10_readsThief rfl rfl rfl (by decide +kernel) ⟨Nat.le_of_ble_eq_true rfl, Nat.le_of_ble_eq_true rfl⟩) (zz_pre0V hK hP hD hS hA hE 0 rfl rfl rfl) rfl rfl hl.1 rfl (lv_room (Nat.le_of_ble_eq_true rfl)) dX10_readsThieves_36 ⟨Nat.zero_le _, Nat.zero_le _⟩) hD hS hA (fun H locs hP hD hS => ?_)
          exact Kj39_9 r16 S17 _ _ hP hD hS ls (lv_sub hl [0, 1, 2] rfl) hf
        · have hf := zz_ps hf c26
          refine lv_iconst (v := (0 : Int32)) hx hb dX10_readsThieves_29 (by decide) ?_
          refine lv_goto (tgt := 39) hx hb dX10_readsThieves_30 (by decide) ?_
          exact Kj39_9 (0 : Int32) z4 _ _ hP hD hS ls (lv_sub hl [0, 1, 2] rfl) hf
      refine lv_icmp_lt (tgt := 23) hx hb dX10_readsThieves_16 (by decide) (fun c16 => ?_) (fun c16 => ?_)
      · have hf := zz_ps hf c16
        exact Kj23_6  _ _ hP hD hS ls (lv_sub hl [0, 1, 2] rfl) hf
      · have hf := zz_ng hf c16
        refine lv_iload_n hx hb dX10_readsThieves_19 rfl (lv_at hl 2 rfl) ?_
        refine lv_if_le (tgt := 91) hx hb dX10_readsThieves_20 (by decide) (fun c20 => ?_) (fun c20 => ?_)
        · have hf := zz_ps hf c20
          refine lv_iconst (v := (-1 : Int32)) hx hb dX10_readsThieves_91 (by decide) ?_
          obtain ⟨rfl, rfl⟩ := zz_e2 hf
          exact hret _ _ _ _ dX10_readsThieves_92 hP hD hS
        · have hf := zz_ng hf c20
          exact Kj23_6  _ _ hP hD hS ls (lv_sub hl [0, 1, 2] rfl) hf
  exact hLkL9_4 F (0 : Int32) (0 : Int32) S1 _ _ hP hD hS ls (lv_sub hl [2, 1, 0] rfl) hf
def rmX10_faultOf : Room := { frames := 3, cells := 0, slots := 0, locals := 70 }
set_option maxHeartbeats 4000000 in
set_option maxRecDepth 100000 in
theorem zc_X10_faultOf (l : Launch) (D : va_G) (tb : Nat → Nat) (q : Nat → Nat) (k : Nat → ClassId) (F : Nat) (u0 : Int32) (S : zz_M) (r : Int32) (o1 : zz_M) (hf : pX10_faultOf F u0 S = some (r, o1)) : zz_Mi l yX10_faultOf wsX10_faultOf rmX10_faultOf D tb [((k 1), .int), ((k 2), .int), ((k 3), .int), ((k 4), .int), ((k 5), .int), ((k 6), .int), ((k 7), .int), ((k 8), .boolean), ((k 9), .int), ((k 10), .int), ((k 11), .int), ((k 12), .int), ((k 13), .int), ((k 14), .int), ((k 15), .int), ((k 16), .boolean), ((k 17), .int), ((k 18), .int), ((k 19), .int), ((k 20), .int)] [.ref (q 0), .int u0] (zw_10 q k S) (zw_10 q k o1) r := by
  refine zz_ofi (cc := cX10_faultOf) (maxL := 5) (by decide) rfl (Nat.le_of_ble_eq_true rfl) ?_
  intro p e s m args below meth c A Q hfx hK hA hE hret H locs hP hD hS ls hl
  obtain ⟨hx, hb, hml, hown, hts⟩ := id hfx
  have hl : lv_has ls 5 [(0, .ref (q 0)), (1, .int u0)] := hl
  unfold pX10_faultOf at hf
  refine lv_aload_n hx hb dX10_faultOf_0 rfl (lv_at hl 0 rfl) ?_
  obtain ⟨r1, S2, hc3, hf⟩ := zz_b2s hf
  refine zz_ji0 (va_runV (As := []) (rest := []) hfx (zc_X10_readsWard l D tb q k F  S r1 S2 hc3 H.size) (cwV 0 hts gX10_faultOf_X10_readsWard rfl rfl rfl (by decide +kernel) ⟨Nat.le_of_ble_eq_true rfl, Nat.le_of_ble_eq_true rfl⟩) (zz_pre0V hK hP hD hS hA hE 0 rfl rfl rfl) rfl rfl hl.1 rfl (lv_room (Nat.le_of_ble_eq_true rfl)) dX10_faultOf_1 ⟨Nat.zero_le _, Nat.zero_le _⟩) hD hS hA (fun H locs hP hD hS => ?_)
  refine lv_istore_n (lv' := [(2, .int r1), (0, .ref (q 0)), (1, .int u0)]) hx hb dX10_faultOf_4 rfl hl (by decide) rfl (fun ls hl => ?_)
  refine lv_aload_n hx hb dX10_faultOf_5 rfl (lv_at hl 1 rfl) ?_
  obtain ⟨r4, S5, hc6, hf⟩ := zz_b2s hf
  refine zz_ji0 (va_runV (As := []) (rest := []) hfx (zc_X10_readsBeat l D tb q k F  S2 r4 S5 hc6 H.size) (cwV 0 hts gX10_faultOf_X10_readsBeat rfl rfl rfl (by decide +kernel) ⟨Nat.le_of_ble_eq_true rfl, Nat.le_of_ble_eq_true rfl⟩) (zz_pre0V hK hP hD hS hA hE 0 rfl rfl rfl) rfl rfl hl.1 rfl (lv_room (Nat.le_of_ble_eq_true rfl)) dX10_faultOf_6 ⟨Nat.zero_le _, Nat.zero_le _⟩) hD hS hA (fun H locs hP hD hS => ?_)
  refine lv_istore_n (lv' := [(3, .int r4), (2, .int r1), (0, .ref (q 0)), (1, .int u0)]) hx hb dX10_faultOf_9 rfl hl (by decide) rfl (fun ls hl => ?_)
  refine lv_aload_n hx hb dX10_faultOf_10 rfl (lv_at hl 2 rfl) ?_
  obtain ⟨r7, S8, hc9, hf⟩ := zz_b2s hf
  refine zz_ji0 (va_runV (As := []) (rest := []) hfx (zc_X10_readsThieves l D tb q k F  S5 r7 S8 hc9 H.size) (cwV 0 hts gX10_faultOf_X10_readsThieves rfl rfl rfl (by decide +kernel) ⟨Nat.le_of_ble_eq_true rfl, Nat.le_of_ble_eq_true rfl⟩) (zz_pre0V hK hP hD hS hA hE 0 rfl rfl rfl) rfl rfl hl.1 rfl (lv_room (Nat.le_of_ble_eq_true rfl)) dX10_faultOf_11 ⟨Nat.zero_le _, Nat.zero_le _⟩) hD hS hA (fun H locs hP hD hS => ?_)
  refine lv_istore (lv' := [(4, .int r7), (3, .int r4), (2, .int r1), (0, .ref (q 0)), (1, .int u0)]) hx hb dX10_faultOf_14 hl (by decide) rfl (fun ls hl => ?_)
  refine lv_iload_n hx hb dX10_faultOf_16 rfl (lv_at hl 4 rfl) ?_
  obtain ⟨v10, hv10, hf⟩ := zz_lts hf
  have hK11 : ∀ ls : Array Slot, lv_has ls 5 [] → W p l e rmX10_faultOf s m args below meth c H locs 0 0 Q (F0 m 35 ls [.int v10]) := by
    intro ls hl
    obtain ⟨rfl, rfl⟩ := zz_e2 hf
    exact hret _ _ _ _ dX10_faultOf_35 hP hD hS
  refine lv_if_ne (tgt := 24) hx hb dX10_faultOf_17 (by decide) (fun c17 => ?_) (fun c17 => ?_)
  · refine lv_iload_n hx hb dX10_faultOf_24 rfl (lv_at hl 4 rfl) ?_
    refine lv_iconst (v := (1 : Int32)) hx hb dX10_faultOf_25 (by decide) ?_
    refine lv_icmp_ne (tgt := 33) hx hb dX10_faultOf_26 (by decide) (fun c26 => ?_) (fun c26 => ?_)
    · refine lv_iload hx hb dX10_faultOf_33 (lv_at hl 0 rfl) ?_
      refine zz_ti (show v10 = r7 by rw [hv10, if_neg c17, if_neg c26]) ?_
      exact hK11 ls (lv_sub hl [] rfl)
    · refine lv_iload_n hx hb dX10_faultOf_29 rfl (lv_at hl 1 rfl) ?_
      refine lv_goto (tgt := 35) hx hb dX10_faultOf_30 (by decide) ?_
      refine zz_ti (show v10 = r4 by rw [hv10, if_neg c17, if_pos c26]) ?_
      exact hK11 ls (lv_sub hl [] rfl)
  · refine lv_iload_n hx hb dX10_faultOf_20 rfl (lv_at hl 2 rfl) ?_
    refine lv_goto (tgt := 35) hx hb dX10_faultOf_21 (by decide) ?_
    refine zz_ti (show v10 = r1 by rw [hv10, if_pos c17]) ?_
    exact hK11 ls (lv_sub hl [] rfl)
def rmX10_reads : Room := { frames := 4, cells := 0, slots := 0, locals := 94 }
set_option maxHeartbeats 4000000 in
set_option maxRecDepth 100000 in
theorem zc_X10_reads (l : Launch) (D : va_G) (tb : Nat → Nat) (q : Nat → Nat) (k : Nat → ClassId) (F : Nat)  (S : zz_M) (o0 : zz_M) (hf : pX10_reads F S = some o0) : zz_Mv l yX10_reads wsX10_reads rmX10_reads D tb [((k 1), .int), ((k 2), .int), ((k 3), .int), ((k 4), .int), ((k 5), .int), ((k 6), .int), ((k 7), .int), ((k 8), .boolean), ((k 9), .int), ((k 10), .int), ((k 11), .int), ((k 12), .int), ((k 13), .int), ((k 14), .int), ((k 15), .int), ((k 16), .boolean), ((k 17), .int), ((k 18), .int), ((k 19), .int), ((k 20), .int)] [.ref (q 0)] (zw_10 q k S) (zw_10 q k o0)  := by
  refine zz_ofv (cc := cX10_reads) (maxL := 2) (by decide) rfl (Nat.le_of_ble_eq_true rfl) ?_
  intro p e s m args below meth c A Q hfx hK hA hE hret H locs hP hD hS ls hl
  obtain ⟨hx, hb, hml, hown, hts⟩ := id hfx
  have hl : lv_has ls 2 [(0, .ref (q 0))] := hl
  unfold pX10_reads at hf
  refine lv_aload_n hx hb dX10_reads_0 rfl (lv_at hl 0 rfl) ?_
  refine lv_iconst (v := (0 : Int32)) hx hb dX10_reads_1 (by decide) ?_
  obtain ⟨r1, S2, hc3, hf⟩ := zz_b2s hf
  refine zz_ji0 (va_runV (As := [.int (0 : Int32)]) (rest := []) hfx (zc_X10_faultOf l D tb q k F (0 : Int32) S r1 S2 hc3 H.size) (cwV 1 hts gX10_reads_X10_faultOf rfl rfl rfl (by decide +kernel) ⟨Nat.le_of_ble_eq_true rfl, Nat.le_of_ble_eq_true rfl⟩) (zz_pre0V hK hP hD hS hA hE 0 rfl rfl rfl) rfl rfl hl.1 rfl (lv_room (Nat.le_of_ble_eq_true rfl)) dX10_reads_2 ⟨Nat.zero_le _, Nat.zero_le _⟩) hD hS hA (fun H locs hP hD hS => ?_)
  refine lv_istore_n (lv' := [(1, .int r1), (0, .ref (q 0))]) hx hb dX10_reads_5 rfl hl (by decide) rfl (fun ls hl => ?_)
  obtain rfl := zz_e1 hf
  exact hret _ _ _ _ dX10_reads_6 hP hD hS
def rmX10_fault : Room := { frames := 4, cells := 0, slots := 0, locals := 94 }
set_option maxHeartbeats 4000000 in
set_option maxRecDepth 100000 in
theorem zc_X10_fault (l : Launch) (D : va_G) (tb : Nat → Nat) (q : Nat → Nat) (k : Nat → ClassId) (F : Nat) (u0 : Int32) (S : zz_M) (r : Int32) (o1 : zz_M) (hf : pX10_fault F u0 S = some (r, o1)) : zz_Mi l yX10_fault wsX10_fault rmX10_fault D tb [((k 1), .int), ((k 2), .int), ((k 3), .int), ((k 4), .int), ((k 5), .int), ((k 6), .int), ((k 7), .int), ((k 8), .boolean), ((k 9), .int), ((k 10), .int), ((k 11), .int), ((k 12), .int), ((k 13), .int), ((k 14), .int), ((k 15), .int), ((k 16), .boolean), ((k 17), .int), ((k 18), .int), ((k 19), .int), ((k 20), .int)] [.ref (q 0), .int u0] (zw_10 q k S) (zw_10 q k o1) r := by
  refine zz_ofi (cc := cX10_fault) (maxL := 2) (by decide) rfl (Nat.le_of_ble_eq_true rfl) ?_
  intro p e s m args below meth c A Q hfx hK hA hE hret H locs hP hD hS ls hl
  obtain ⟨hx, hb, hml, hown, hts⟩ := id hfx
  have hl : lv_has ls 2 [(0, .ref (q 0)), (1, .int u0)] := hl
  unfold pX10_fault at hf
  refine lv_iload_n hx hb dX10_fault_0 rfl (lv_at hl 1 rfl) ?_
  obtain ⟨r1, hc2, hf⟩ := zz_b1s hf
  refine zz_ji (va_runS (As := [.int u0]) (rest := []) hfx (zc_X10_isText l D tb  F u0  r1 hc2 H.size) (va_cwS 1 hts gX10_fault_X10_isText rfl rfl rfl (by decide +kernel) ⟨Nat.le_of_ble_eq_true rfl, Nat.le_of_ble_eq_true rfl⟩) (zz_preS hK hP hD hS hA hE [] [] rfl (by decide) rfl) rfl rfl hl.1 rfl (lv_room (Nat.le_of_ble_eq_true rfl)) dX10_fault_1 ⟨Nat.zero_le _, Nat.zero_le _⟩) hP hD hS hA [] rfl rfl (fun H locs hP hD hS => ?_)
  have hP : va_P D vwCl (zw_10 q k S) H := hP
  have hD : va_D A (zw_10 q k S) := hD
  obtain ⟨j17_5, hj17_5, hf⟩ := zz_lts hf
  have Kj17_5 : ∀ (y3 : Int32) (z4 : zz_M) (H : Heap) (locs : List Loc), va_P D vwCl (zw_10 q k z4) H → va_D A (zw_10 q k z4) → va_S A s.heap H locs → ∀ ls : Array Slot, lv_has ls 2 [] → j17_5 y3 z4 = some (r, o1) → W p l e rmX10_fault s m args below meth c H locs 0 0 Q (F0 m 17 ls [.int y3]) := by
    intro y3 z4 H locs hP hD hS ls hl hf
    rw [hj17_5] at hf
    obtain ⟨rfl, rfl⟩ := zz_e2 hf
    exact hret _ _ _ _ dX10_fault_17 hP hD hS
  refine lv_if_eq (tgt := 15) hx hb dX10_fault_4 (by decide) (fun c4 => ?_) (fun c4 => ?_)
  · have hf := zz_ps hf c4
    refine lv_bipush (v := (-2 : Int32)) hx hb dX10_fault_15 (by decide) ?_
    exact Kj17_5 (-2 : Int32) S _ _ hP hD hS ls (lv_sub hl [] rfl) hf
  · have hf := zz_ng hf c4
    refine lv_aload_n hx hb dX10_fault_7 rfl (lv_at hl 0 rfl) ?_
    refine lv_iload_n hx hb dX10_fault_8 rfl (lv_at hl 1 rfl) ?_
    obtain ⟨r6, S7, hc8, hf⟩ := zz_b2s hf
    refine zz_ji0 (va_runV (As := [.int u0]) (rest := []) hfx (zc_X10_faultOf l D tb q k F u0 S r6 S7 hc8 H.size) (cwV 1 hts gX10_fault_X10_faultOf rfl rfl rfl (by decide +kernel) ⟨Nat.le_of_ble_eq_true rfl, Nat.le_of_ble_eq_true rfl⟩) (zz_pre0V hK hP hD hS hA hE 0 rfl rfl rfl) rfl rfl hl.1 rfl (lv_room (Nat.le_of_ble_eq_true rfl)) dX10_fault_9 ⟨Nat.zero_le _, Nat.zero_le _⟩) hD hS hA (fun H locs hP hD hS => ?_)
    refine lv_goto (tgt := 17) hx hb dX10_fault_12 (by decide) ?_
    exact Kj17_5 r6 S7 _ _ hP hD hS ls (lv_sub hl [] rfl) hf
def rmX10_isCell : Room := { frames := 5, cells := 0, slots := 0, locals := 115 }
set_option maxHeartbeats 4000000 in
set_option maxRecDepth 100000 in
theorem zc_X10_isCell (l : Launch) (D : va_G) (tb : Nat → Nat) (q : Nat → Nat) (k : Nat → ClassId) (F : Nat) (u0 : Int32) (S : zz_M) (r : Int32) (o1 : zz_M) (hf : pX10_isCell F u0 S = some (r, o1)) : zz_Mi l yX10_isCell wsX10_isCell rmX10_isCell D tb [((k 1), .int), ((k 2), .int), ((k 3), .int), ((k 4), .int), ((k 5), .int), ((k 6), .int), ((k 7), .int), ((k 8), .boolean), ((k 9), .int), ((k 10), .int), ((k 11), .int), ((k 12), .int), ((k 13), .int), ((k 14), .int), ((k 15), .int), ((k 16), .boolean), ((k 17), .int), ((k 18), .int), ((k 19), .int), ((k 20), .int)] [.ref (q 0), .int u0] (zw_10 q k S) (zw_10 q k o1) r := by
  refine zz_ofz (cc := cX10_isCell) (maxL := 2) (by decide) rfl (Nat.le_of_ble_eq_true rfl) ?_
  intro p e s m args below meth c A Q hfx hK hA hE hret H locs hP hD hS ls hl
  obtain ⟨hx, hb, hml, hown, hts⟩ := id hfx
  have inX10 : ∀ w ∈ u_ws RX10 TX10 34, w ∈ wsX10_isCell := by decide +kernel
  have lk88 := hts (.fieldLink RX10 88 "CatBeatModel" "cells" "I") (by decide +kernel)
  have hl : lv_has ls 2 [(0, .ref (q 0)), (1, .int u0)] := hl
  unfold pX10_isCell at hf
  refine lv_aload_n hx hb dX10_isCell_0 rfl (lv_at hl 0 rfl) ?_
  obtain ⟨S1, hc2, hf⟩ := zz_b1s hf
  refine zz_jv0 (va_runV (As := []) (rest := []) hfx (zc_X10_reads l D tb q k F  S S1 hc2 H.size) (cwV 0 hts gX10_isCell_X10_reads rfl rfl rfl (by decide +kernel) ⟨Nat.le_of_ble_eq_true rfl, Nat.le_of_ble_eq_true rfl⟩) (zz_pre0V hK hP hD hS hA hE 0 rfl rfl rfl) rfl rfl hl.1 rfl (lv_room (Nat.le_of_ble_eq_true rfl)) dX10_isCell_1 ⟨Nat.zero_le _, Nat.zero_le _⟩) hD hS hA (fun H locs hP hD hS => ?_)
  refine lv_iload_n hx hb dX10_isCell_4 rfl (lv_at hl 1 rfl) ?_
  refine lv_iconst (v := (0 : Int32)) hx hb dX10_isCell_5 (by decide) ?_
  refine lv_aload_n hx hb dX10_isCell_6 rfl (lv_at hl 0 rfl) ?_
  refine va_get (D := D) (ci := 10) (v := .int (zz_gI S1 2)) (C := RX10) (T := TX10) (N := 34) hx hb hts inX10 hown hK hP 0 rfl rfl 4 (by decide) lk88 (fun _ h9 => h9) rfl dX10_isCell_7 ?_
  refine lv_iconst (v := (1 : Int32)) hx hb dX10_isCell_10 (by decide) ?_
  refine lv_isub hx hb dX10_isCell_11 ?_
  obtain ⟨r3, hc4, hf⟩ := zz_b1s hf
  refine zz_ji (va_runS (As := [.int u0, .int (0 : Int32), .int ((zz_gI S1 2) - (1 : Int32))]) (rest := []) hfx (zc_X10_in l D tb  F u0 (0 : Int32) ((zz_gI S1 2) - (1 : Int32))  r3 hc4 H.size) (va_cwS 3 hts gX10_isCell_X10_in rfl rfl rfl (by decide +kernel) ⟨Nat.le_of_ble_eq_true rfl, Nat.le_of_ble_eq_true rfl⟩) (zz_preS hK hP hD hS hA hE [] [] rfl (by decide) rfl) rfl rfl hl.1 rfl (lv_room (Nat.le_of_ble_eq_true rfl)) dX10_isCell_12 ⟨Nat.zero_le _, Nat.zero_le _⟩) hP hD hS hA [] rfl rfl (fun H locs hP hD hS => ?_)
  have hP : va_P D vwCl (zw_10 q k S1) H := hP
  have hD : va_D A (zw_10 q k S1) := hD
  obtain ⟨hg5, hf⟩ := zz_gd hf
  obtain ⟨rfl, rfl⟩ := zz_e2 hf
  exact hret _ _ _ _ (zz_nb hg5) dX10_isCell_15 hP hD hS
def rmX10_isThief : Room := { frames := 5, cells := 0, slots := 0, locals := 115 }
set_option maxHeartbeats 4000000 in
set_option maxRecDepth 100000 in
theorem zc_X10_isThief (l : Launch) (D : va_G) (tb : Nat → Nat) (q : Nat → Nat) (k : Nat → ClassId) (F : Nat) (u0 : Int32) (S : zz_M) (r : Int32) (o1 : zz_M) (hf : pX10_isThief F u0 S = some (r, o1)) : zz_Mi l yX10_isThief wsX10_isThief rmX10_isThief D tb [((k 1), .int), ((k 2), .int), ((k 3), .int), ((k 4), .int), ((k 5), .int), ((k 6), .int), ((k 7), .int), ((k 8), .boolean), ((k 9), .int), ((k 10), .int), ((k 11), .int), ((k 12), .int), ((k 13), .int), ((k 14), .int), ((k 15), .int), ((k 16), .boolean), ((k 17), .int), ((k 18), .int), ((k 19), .int), ((k 20), .int)] [.ref (q 0), .int u0] (zw_10 q k S) (zw_10 q k o1) r := by
  refine zz_ofz (cc := cX10_isThief) (maxL := 2) (by decide) rfl (Nat.le_of_ble_eq_true rfl) ?_
  intro p e s m args below meth c A Q hfx hK hA hE hret H locs hP hD hS ls hl
  obtain ⟨hx, hb, hml, hown, hts⟩ := id hfx
  have inX10 : ∀ w ∈ u_ws RX10 TX10 34, w ∈ wsX10_isThief := by decide +kernel
  have lk111 := hts (.fieldLink RX10 111 "CatBeatModel" "thieves" "I") (by decide +kernel)
  have hl : lv_has ls 2 [(0, .ref (q 0)), (1, .int u0)] := hl
  unfold pX10_isThief at hf
  refine lv_aload_n hx hb dX10_isThief_0 rfl (lv_at hl 0 rfl) ?_
  obtain ⟨S1, hc2, hf⟩ := zz_b1s hf
  refine zz_jv0 (va_runV (As := []) (rest := []) hfx (zc_X10_reads l D tb q k F  S S1 hc2 H.size) (cwV 0 hts gX10_isThief_X10_reads rfl rfl rfl (by decide +kernel) ⟨Nat.le_of_ble_eq_true rfl, Nat.le_of_ble_eq_true rfl⟩) (zz_pre0V hK hP hD hS hA hE 0 rfl rfl rfl) rfl rfl hl.1 rfl (lv_room (Nat.le_of_ble_eq_true rfl)) dX10_isThief_1 ⟨Nat.zero_le _, Nat.zero_le _⟩) hD hS hA (fun H locs hP hD hS => ?_)
  refine lv_iload_n hx hb dX10_isThief_4 rfl (lv_at hl 1 rfl) ?_
  refine lv_iconst (v := (0 : Int32)) hx hb dX10_isThief_5 (by decide) ?_
  refine lv_aload_n hx hb dX10_isThief_6 rfl (lv_at hl 0 rfl) ?_
  refine va_get (D := D) (ci := 10) (v := .int (zz_gI S1 4)) (C := RX10) (T := TX10) (N := 34) hx hb hts inX10 hown hK hP 0 rfl rfl 8 (by decide) lk111 (fun _ h9 => h9) rfl dX10_isThief_7 ?_
  refine lv_iconst (v := (1 : Int32)) hx hb dX10_isThief_10 (by decide) ?_
  refine lv_isub hx hb dX10_isThief_11 ?_
  obtain ⟨r3, hc4, hf⟩ := zz_b1s hf
  refine zz_ji (va_runS (As := [.int u0, .int (0 : Int32), .int ((zz_gI S1 4) - (1 : Int32))]) (rest := []) hfx (zc_X10_in l D tb  F u0 (0 : Int32) ((zz_gI S1 4) - (1 : Int32))  r3 hc4 H.size) (va_cwS 3 hts gX10_isThief_X10_in rfl rfl rfl (by decide +kernel) ⟨Nat.le_of_ble_eq_true rfl, Nat.le_of_ble_eq_true rfl⟩) (zz_preS hK hP hD hS hA hE [] [] rfl (by decide) rfl) rfl rfl hl.1 rfl (lv_room (Nat.le_of_ble_eq_true rfl)) dX10_isThief_12 ⟨Nat.zero_le _, Nat.zero_le _⟩) hP hD hS hA [] rfl rfl (fun H locs hP hD hS => ?_)
  have hP : va_P D vwCl (zw_10 q k S1) H := hP
  have hD : va_D A (zw_10 q k S1) := hD
  obtain ⟨hg5, hf⟩ := zz_gd hf
  obtain ⟨rfl, rfl⟩ := zz_e2 hf
  exact hret _ _ _ _ (zz_nb hg5) dX10_isThief_15 hP hD hS
def rmX10_cell : Room := { frames := 6, cells := 0, slots := 0, locals := 136 }
set_option maxHeartbeats 4000000 in
set_option maxRecDepth 100000 in
theorem zc_X10_cell (l : Launch) (D : va_G) (tb : Nat → Nat) (q : Nat → Nat) (k : Nat → ClassId) (F : Nat) (u0 : Int32) (S : zz_M) (r : Int32) (o1 : zz_M) (hf : pX10_cell F u0 S = some (r, o1)) : zz_Mi l yX10_cell wsX10_cell rmX10_cell D tb [((k 1), .int), ((k 2), .int), ((k 3), .int), ((k 4), .int), ((k 5), .int), ((k 6), .int), ((k 7), .int), ((k 8), .boolean), ((k 9), .int), ((k 10), .int), ((k 11), .int), ((k 12), .int), ((k 13), .int), ((k 14), .int), ((k 15), .int), ((k 16), .boolean), ((k 17), .int), ((k 18), .int), ((k 19), .int), ((k 20), .int)] [.ref (q 0), .int u0] (zw_10 q k S) (zw_10 q k o1) r := by
  refine zz_ofi (cc := cX10_cell) (maxL := 2) (by decide) rfl (Nat.le_of_ble_eq_true rfl) ?_
  intro p e s m args below meth c A Q hfx hK hA hE hret H locs hP hD hS ls hl
  obtain ⟨hx, hb, hml, hown, hts⟩ := id hfx
  have inX10 : ∀ w ∈ u_ws RX10 TX10 34, w ∈ wsX10_cell := by decide +kernel
  have lk16 := hts (.fieldLink RX10 16 "CatBeatModel" "kinds" "[I") (by decide +kernel)
  have hl : lv_has ls 2 [(0, .ref (q 0)), (1, .int u0)] := hl
  unfold pX10_cell at hf
  refine lv_iload_n hx hb dX10_cell_0 rfl (lv_at hl 1 rfl) ?_
  refine lv_iconst (v := (0 : Int32)) hx hb dX10_cell_1 (by decide) ?_
  refine lv_bipush (v := (35 : Int32)) hx hb dX10_cell_2 (by decide) ?_
  obtain ⟨r1, hc2, hf⟩ := zz_b1s hf
  refine zz_ji (va_runS (As := [.int u0, .int (0 : Int32), .int (35 : Int32)]) (rest := []) hfx (zc_X10_in l D tb  F u0 (0 : Int32) (35 : Int32)  r1 hc2 H.size) (va_cwS 3 hts gX10_cell_X10_in rfl rfl rfl (by decide +kernel) ⟨Nat.le_of_ble_eq_true rfl, Nat.le_of_ble_eq_true rfl⟩) (zz_preS hK hP hD hS hA hE [] [] rfl (by decide) rfl) rfl rfl hl.1 rfl (lv_room (Nat.le_of_ble_eq_true rfl)) dX10_cell_4 ⟨Nat.zero_le _, Nat.zero_le _⟩) hP hD hS hA [] rfl rfl (fun H locs hP hD hS => ?_)
  have hP : va_P D vwCl (zw_10 q k S) H := hP
  have hD : va_D A (zw_10 q k S) := hD
  obtain ⟨j33_5, hj33_5, hf⟩ := zz_lts hf
  have Kj33_5 : ∀ (y3 : Int32) (z4 : zz_M) (H : Heap) (locs : List Loc), va_P D vwCl (zw_10 q k z4) H → va_D A (zw_10 q k z4) → va_S A s.heap H locs → ∀ ls : Array Slot, lv_has ls 2 [] → j33_5 y3 z4 = some (r, o1) → W p l e rmX10_cell s m args below meth c H locs 0 0 Q (F0 m 33 ls [.int y3]) := by
    intro y3 z4 H locs hP hD hS ls hl hf
    rw [hj33_5] at hf
    obtain ⟨rfl, rfl⟩ := zz_e2 hf
    exact hret _ _ _ _ dX10_cell_33 hP hD hS
  refine lv_if_eq (tgt := 31) hx hb dX10_cell_7 (by decide) (fun c7 => ?_) (fun c7 => ?_)
  · have hf := zz_ps hf c7
    refine lv_bipush (v := (-2 : Int32)) hx hb dX10_cell_31 (by decide) ?_
    exact Kj33_5 (-2 : Int32) S _ _ hP hD hS ls (lv_sub hl [] rfl) hf
  · have hf := zz_ng hf c7
    refine lv_aload_n hx hb dX10_cell_10 rfl (lv_at hl 0 rfl) ?_
    refine lv_iload_n hx hb dX10_cell_11 rfl (lv_at hl 1 rfl) ?_
    obtain ⟨r6, S7, hc8, hf⟩ := zz_b2s hf
    refine zz_ji0 (va_runV (As := [.int u0]) (rest := []) hfx (zc_X10_isCell l D tb q k F u0 S r6 S7 hc8 H.size) (cwV 1 hts gX10_cell_X10_isCell rfl rfl rfl (by decide +kernel) ⟨Nat.le_of_ble_eq_true rfl, Nat.le_of_ble_eq_true rfl⟩) (zz_pre0V hK hP hD hS hA hE 0 rfl rfl rfl) rfl rfl hl.1 rfl (lv_room (Nat.le_of_ble_eq_true rfl)) dX10_cell_12 ⟨Nat.zero_le _, Nat.zero_le _⟩) hD hS hA (fun H locs hP hD hS => ?_)
    refine lv_if_eq (tgt := 27) hx hb dX10_cell_15 (by decide) (fun c15 => ?_) (fun c15 => ?_)
    · have hf := zz_ps hf c15
      refine lv_iconst (v := (-1 : Int32)) hx hb dX10_cell_27 (by decide) ?_
      refine lv_goto (tgt := 33) hx hb dX10_cell_28 (by decide) ?_
      exact Kj33_5 (-1 : Int32) S7 _ _ hP hD hS ls (lv_sub hl [] rfl) hf
    · have hf := zz_ng hf c15
      refine lv_aload_n hx hb dX10_cell_18 rfl (lv_at hl 0 rfl) ?_
      refine va_get (D := D) (ci := 10) (v := .ref (q 3)) (C := RX10) (T := TX10) (N := 34) hx hb hts inX10 hown hK hP 0 rfl rfl 5 (by decide) lk16 (fun _ h9 => h9) rfl dX10_cell_19 ?_
      refine lv_iload_n hx hb dX10_cell_22 rfl (lv_at hl 1 rfl) ?_
      obtain ⟨hg9, hf⟩ := zz_gd hf
      refine va_iald hx hb hK hP 3 2 rfl rfl hg9 dX10_cell_23 ?_
      refine lv_goto (tgt := 33) hx hb dX10_cell_24 (by decide) ?_
      exact Kj33_5 ((zz_gA S7 2) (Int32.toNatClampNeg u0)) S7 _ _ hP hD hS ls (lv_sub hl [] rfl) hf
def rmX10_beatOf : Room := { frames := 5, cells := 0, slots := 0, locals := 115 }
set_option maxHeartbeats 4000000 in
set_option maxRecDepth 100000 in
theorem zc_X10_beatOf (l : Launch) (D : va_G) (tb : Nat → Nat) (q : Nat → Nat) (k : Nat → ClassId) (F : Nat) (u0 : Int32) (S : zz_M) (r : Int32) (o1 : zz_M) (hf : pX10_beatOf F u0 S = some (r, o1)) : zz_Mi l yX10_beatOf wsX10_beatOf rmX10_beatOf D tb [((k 1), .int), ((k 2), .int), ((k 3), .int), ((k 4), .int), ((k 5), .int), ((k 6), .int), ((k 7), .int), ((k 8), .boolean), ((k 9), .int), ((k 10), .int), ((k 11), .int), ((k 12), .int), ((k 13), .int), ((k 14), .int), ((k 15), .int), ((k 16), .boolean), ((k 17), .int), ((k 18), .int), ((k 19), .int), ((k 20), .int)] [.ref (q 0), .int u0] (zw_10 q k S) (zw_10 q k o1) r := by
  refine zz_ofi (cc := cX10_beatOf) (maxL := 2) (by decide) rfl (Nat.le_of_ble_eq_true rfl) ?_
  intro p e s m args below meth c A Q hfx hK hA hE hret H locs hP hD hS ls hl
  obtain ⟨hx, hb, hml, hown, hts⟩ := id hfx
  have inX10 : ∀ w ∈ u_ws RX10 TX10 34, w ∈ wsX10_beatOf := by decide +kernel
  have lk101 := hts (.fieldLink RX10 101 "CatBeatModel" "steps" "I") (by decide +kernel)
  have lk19 := hts (.fieldLink RX10 19 "CatBeatModel" "beatTold" "[I") (by decide +kernel)
  have hl : lv_has ls 2 [(0, .ref (q 0)), (1, .int u0)] := hl
  unfold pX10_beatOf at hf
  refine lv_aload_n hx hb dX10_beatOf_0 rfl (lv_at hl 0 rfl) ?_
  obtain ⟨S1, hc2, hf⟩ := zz_b1s hf
  refine zz_jv0 (va_runV (As := []) (rest := []) hfx (zc_X10_reads l D tb q k F  S S1 hc2 H.size) (cwV 0 hts gX10_beatOf_X10_reads rfl rfl rfl (by decide +kernel) ⟨Nat.le_of_ble_eq_true rfl, Nat.le_of_ble_eq_true rfl⟩) (zz_pre0V hK hP hD hS hA hE 0 rfl rfl rfl) rfl rfl hl.1 rfl (lv_room (Nat.le_of_ble_eq_true rfl)) dX10_beatOf_1 ⟨Nat.zero_le _, Nat.zero_le _⟩) hD hS hA (fun H locs hP hD hS => ?_)
  refine lv_iload_n hx hb dX10_beatOf_4 rfl (lv_at hl 1 rfl) ?_
  refine lv_aload_n hx hb dX10_beatOf_5 rfl (lv_at hl 0 rfl) ?_
  refine va_get (D := D) (ci := 10) (v := .int (zz_gI S1 3)) (C := RX10) (T := TX10) (N := 34) hx hb hts inX10 hown hK hP 0 rfl rfl 6 (by decide) lk101 (fun _ h9 => h9) rfl dX10_beatOf_6 ?_
  obtain ⟨j22_4, hj22_4, hf⟩ := zz_lts hf
  have Kj22_4 : ∀ (y3 : Int32) (H : Heap) (locs : List Loc), va_P D vwCl (zw_10 q k S1) H → va_D A (zw_10 q k S1) → va_S A s.heap H locs → ∀ ls : Array Slot, lv_has ls 2 [] → j22_4 y3 = some (r, o1) → W p l e rmX10_beatOf s m args below meth c H locs 0 0 Q (F0 m 22 ls [.int y3]) := by
    intro y3 H locs hP hD hS ls hl hf
    rw [hj22_4] at hf
    obtain ⟨rfl, rfl⟩ := zz_e2 hf
    exact hret _ _ _ _ dX10_beatOf_22 hP hD hS
  refine lv_icmp_ge (tgt := 21) hx hb dX10_beatOf_9 (by decide) (fun c9 => ?_) (fun c9 => ?_)
  · have hf := zz_ps hf c9
    refine lv_iconst (v := (-1 : Int32)) hx hb dX10_beatOf_21 (by decide) ?_
    exact Kj22_4 (-1 : Int32) _ _ hP hD hS ls (lv_sub hl [] rfl) hf
  · have hf := zz_ng hf c9
    refine lv_aload_n hx hb dX10_beatOf_12 rfl (lv_at hl 0 rfl) ?_
    refine va_get (D := D) (ci := 10) (v := .ref (q 4)) (C := RX10) (T := TX10) (N := 34) hx hb hts inX10 hown hK hP 0 rfl rfl 7 (by decide) lk19 (fun _ h9 => h9) rfl dX10_beatOf_13 ?_
    refine lv_iload_n hx hb dX10_beatOf_16 rfl (lv_at hl 1 rfl) ?_
    obtain ⟨hg5, hf⟩ := zz_gd hf
    refine va_iald hx hb hK hP 4 3 rfl rfl hg5 dX10_beatOf_17 ?_
    refine lv_goto (tgt := 22) hx hb dX10_beatOf_18 (by decide) ?_
    exact Kj22_4 ((zz_gA S1 3) (Int32.toNatClampNeg u0)) _ _ hP hD hS ls (lv_sub hl [] rfl) hf
def rmX10_beat : Room := { frames := 6, cells := 0, slots := 0, locals := 136 }
set_option maxHeartbeats 4000000 in
set_option maxRecDepth 100000 in
theorem zc_X10_beat (l : Launch) (D : va_G) (tb : Nat → Nat) (q : Nat → Nat) (k : Nat → ClassId) (F : Nat) (u0 : Int32) (S : zz_M) (r : Int32) (o1 : zz_M) (hf : pX10_beat F u0 S = some (r, o1)) : zz_Mi l yX10_beat wsX10_beat rmX10_beat D tb [((k 1), .int), ((k 2), .int), ((k 3), .int), ((k 4), .int), ((k 5), .int), ((k 6), .int), ((k 7), .int), ((k 8), .boolean), ((k 9), .int), ((k 10), .int), ((k 11), .int), ((k 12), .int), ((k 13), .int), ((k 14), .int), ((k 15), .int), ((k 16), .boolean), ((k 17), .int), ((k 18), .int), ((k 19), .int), ((k 20), .int)] [.ref (q 0), .int u0] (zw_10 q k S) (zw_10 q k o1) r := by
  refine zz_ofi (cc := cX10_beat) (maxL := 2) (by decide) rfl (Nat.le_of_ble_eq_true rfl) ?_
  intro p e s m args below meth c A Q hfx hK hA hE hret H locs hP hD hS ls hl
  obtain ⟨hx, hb, hml, hown, hts⟩ := id hfx
  have hl : lv_has ls 2 [(0, .ref (q 0)), (1, .int u0)] := hl
  unfold pX10_beat at hf
  refine lv_iload_n hx hb dX10_beat_0 rfl (lv_at hl 1 rfl) ?_
  refine lv_iconst (v := (0 : Int32)) hx hb dX10_beat_1 (by decide) ?_
  refine lv_bipush (v := (23 : Int32)) hx hb dX10_beat_2 (by decide) ?_
  obtain ⟨r1, hc2, hf⟩ := zz_b1s hf
  refine zz_ji (va_runS (As := [.int u0, .int (0 : Int32), .int (23 : Int32)]) (rest := []) hfx (zc_X10_in l D tb  F u0 (0 : Int32) (23 : Int32)  r1 hc2 H.size) (va_cwS 3 hts gX10_beat_X10_in rfl rfl rfl (by decide +kernel) ⟨Nat.le_of_ble_eq_true rfl, Nat.le_of_ble_eq_true rfl⟩) (zz_preS hK hP hD hS hA hE [] [] rfl (by decide) rfl) rfl rfl hl.1 rfl (lv_room (Nat.le_of_ble_eq_true rfl)) dX10_beat_4 ⟨Nat.zero_le _, Nat.zero_le _⟩) hP hD hS hA [] rfl rfl (fun H locs hP hD hS => ?_)
  have hP : va_P D vwCl (zw_10 q k S) H := hP
  have hD : va_D A (zw_10 q k S) := hD
  obtain ⟨j20_5, hj20_5, hf⟩ := zz_lts hf
  have Kj20_5 : ∀ (y3 : Int32) (z4 : zz_M) (H : Heap) (locs : List Loc), va_P D vwCl (zw_10 q k z4) H → va_D A (zw_10 q k z4) → va_S A s.heap H locs → ∀ ls : Array Slot, lv_has ls 2 [] → j20_5 y3 z4 = some (r, o1) → W p l e rmX10_beat s m args below meth c H locs 0 0 Q (F0 m 20 ls [.int y3]) := by
    intro y3 z4 H locs hP hD hS ls hl hf
    rw [hj20_5] at hf
    obtain ⟨rfl, rfl⟩ := zz_e2 hf
    exact hret _ _ _ _ dX10_beat_20 hP hD hS
  refine lv_if_eq (tgt := 18) hx hb dX10_beat_7 (by decide) (fun c7 => ?_) (fun c7 => ?_)
  · have hf := zz_ps hf c7
    refine lv_bipush (v := (-2 : Int32)) hx hb dX10_beat_18 (by decide) ?_
    exact Kj20_5 (-2 : Int32) S _ _ hP hD hS ls (lv_sub hl [] rfl) hf
  · have hf := zz_ng hf c7
    refine lv_aload_n hx hb dX10_beat_10 rfl (lv_at hl 0 rfl) ?_
    refine lv_iload_n hx hb dX10_beat_11 rfl (lv_at hl 1 rfl) ?_
    obtain ⟨r6, S7, hc8, hf⟩ := zz_b2s hf
    refine zz_ji0 (va_runV (As := [.int u0]) (rest := []) hfx (zc_X10_beatOf l D tb q k F u0 S r6 S7 hc8 H.size) (cwV 1 hts gX10_beat_X10_beatOf rfl rfl rfl (by decide +kernel) ⟨Nat.le_of_ble_eq_true rfl, Nat.le_of_ble_eq_true rfl⟩) (zz_pre0V hK hP hD hS hA hE 0 rfl rfl rfl) rfl rfl hl.1 rfl (lv_room (Nat.le_of_ble_eq_true rfl)) dX10_beat_12 ⟨Nat.zero_le _, Nat.zero_le _⟩) hD hS hA (fun H locs hP hD hS => ?_)
    refine lv_goto (tgt := 20) hx hb dX10_beat_15 (by decide) ?_
    exact Kj20_5 r6 S7 _ _ hP hD hS ls (lv_sub hl [] rfl) hf
def rmX10_thief : Room := { frames := 6, cells := 0, slots := 0, locals := 136 }
set_option maxHeartbeats 4000000 in
set_option maxRecDepth 100000 in
theorem zc_X10_thief (l : Launch) (D : va_G) (tb : Nat → Nat) (q : Nat → Nat) (k : Nat → ClassId) (F : Nat) (u0 : Int32) (u1 : Int32) (S : zz_M) (r : Int32) (o1 : zz_M) (hf : pX10_thief F u0 u1 S = some (r, o1)) : zz_Mi l yX10_thief wsX10_thief rmX10_thief D tb [((k 1), .int), ((k 2), .int), ((k 3), .int), ((k 4), .int), ((k 5), .int), ((k 6), .int), ((k 7), .int), ((k 8), .boolean), ((k 9), .int), ((k 10), .int), ((k 11), .int), ((k 12), .int), ((k 13), .int), ((k 14), .int), ((k 15), .int), ((k 16), .boolean), ((k 17), .int), ((k 18), .int), ((k 19), .int), ((k 20), .int)] [.ref (q 0), .int u0, .int u1] (zw_10 q k S) (zw_10 q k o1) r := by
  refine zz_ofi (cc := cX10_thief) (maxL := 3) (by decide) rfl (Nat.le_of_ble_eq_true rfl) ?_
  intro p e s m args below meth c A Q hfx hK hA hE hret H locs hP hD hS ls hl
  obtain ⟨hx, hb, hml, hown, hts⟩ := id hfx
  have inX10 : ∀ w ∈ u_ws RX10 TX10 34, w ∈ wsX10_thief := by decide +kernel
  have lk25 := hts (.fieldLink RX10 25 "CatBeatModel" "needs" "[I") (by decide +kernel)
  have lk22 := hts (.fieldLink RX10 22 "CatBeatModel" "wants" "[I") (by decide +kernel)
  have hl : lv_has ls 3 [(0, .ref (q 0)), (1, .int u0), (2, .int u1)] := hl
  unfold pX10_thief at hf
  refine lv_aload_n hx hb dX10_thief_0 rfl (lv_at hl 0 rfl) ?_
  refine lv_iload_n hx hb dX10_thief_1 rfl (lv_at hl 1 rfl) ?_
  obtain ⟨r1, S2, hc3, hf⟩ := zz_b2s hf
  refine zz_ji0 (va_runV (As := [.int u0]) (rest := []) hfx (zc_X10_isThief l D tb q k F u0 S r1 S2 hc3 H.size) (cwV 1 hts gX10_thief_X10_isThief rfl rfl rfl (by decide +kernel) ⟨Nat.le_of_ble_eq_true rfl, Nat.le_of_ble_eq_true rfl⟩) (zz_pre0V hK hP hD hS hA hE 0 rfl rfl rfl) rfl rfl hl.1 rfl (lv_room (Nat.le_of_ble_eq_true rfl)) dX10_thief_2 ⟨Nat.zero_le _, Nat.zero_le _⟩) hD hS hA (fun H locs hP hD hS => ?_)
  obtain ⟨j41_5, hj41_5, hf⟩ := zz_lts hf
  have Kj41_5 : ∀ (y4 : Int32) (H : Heap) (locs : List Loc), va_P D vwCl (zw_10 q k S2) H → va_D A (zw_10 q k S2) → va_S A s.heap H locs → ∀ ls : Array Slot, lv_has ls 3 [] → j41_5 y4 = some (r, o1) → W p l e rmX10_thief s m args below meth c H locs 0 0 Q (F0 m 41 ls [.int y4]) := by
    intro y4 H locs hP hD hS ls hl hf
    rw [hj41_5] at hf
    obtain ⟨rfl, rfl⟩ := zz_e2 hf
    exact hret _ _ _ _ dX10_thief_41 hP hD hS
  obtain ⟨j39_6, hj39_6, hf⟩ := zz_lts hf
  have Kj39_6 : ∀  (H : Heap) (locs : List Loc), va_P D vwCl (zw_10 q k S2) H → va_D A (zw_10 q k S2) → va_S A s.heap H locs → ∀ ls : Array Slot, lv_has ls 3 [] → j39_6 () = some (r, o1) → W p l e rmX10_thief s m args below meth c H locs 0 0 Q (F0 m 39 ls []) := by
    intro  H locs hP hD hS ls hl hf
    rw [hj39_6] at hf
    refine lv_bipush (v := (-2 : Int32)) hx hb dX10_thief_39 (by decide) ?_
    exact Kj41_5 (-2 : Int32) _ _ hP hD hS ls (lv_sub hl [] rfl) hf
  refine lv_if_eq (tgt := 39) hx hb dX10_thief_5 (by decide) (fun c5 => ?_) (fun c5 => ?_)
  · have hf := zz_ps hf c5
    exact Kj39_6  _ _ hP hD hS ls (lv_sub hl [] rfl) hf
  · have hf := zz_ng hf c5
    refine lv_iload_n hx hb dX10_thief_8 rfl (lv_at hl 2 rfl) ?_
    refine lv_iconst (v := (0 : Int32)) hx hb dX10_thief_9 (by decide) ?_
    refine lv_iconst (v := (1 : Int32)) hx hb dX10_thief_10 (by decide) ?_
    obtain ⟨r7, hc8, hf⟩ := zz_b1s hf
    refine zz_ji (va_runS (As := [.int u1, .int (0 : Int32), .int (1 : Int32)]) (rest := []) hfx (zc_X10_in l D tb  F u1 (0 : Int32) (1 : Int32)  r7 hc8 H.size) (va_cwS 3 hts gX10_thief_X10_in rfl rfl rfl (by decide +kernel) ⟨Nat.le_of_ble_eq_true rfl, Nat.le_of_ble_eq_true rfl⟩) (zz_preS hK hP hD hS hA hE [] [] rfl (by decide) rfl) rfl rfl hl.1 rfl (lv_room (Nat.le_of_ble_eq_true rfl)) dX10_thief_11 ⟨Nat.zero_le _, Nat.zero_le _⟩) hP hD hS hA [] rfl rfl (fun H locs hP hD hS => ?_)
    have hP : va_P D vwCl (zw_10 q k S2) H := hP
    have hD : va_D A (zw_10 q k S2) := hD
    refine lv_if_eq (tgt := 39) hx hb dX10_thief_14 (by decide) (fun c14 => ?_) (fun c14 => ?_)
    · have hf := zz_ps hf c14
      exact Kj39_6  _ _ hP hD hS ls (lv_sub hl [] rfl) hf
    · have hf := zz_ng hf c14
      refine lv_iload_n hx hb dX10_thief_17 rfl (lv_at hl 2 rfl) ?_
      refine lv_if_ne (tgt := 30) hx hb dX10_thief_18 (by decide) (fun c18 => ?_) (fun c18 => ?_)
      · have hf := zz_ng hf c18
        refine lv_aload_n hx hb dX10_thief_30 rfl (lv_at hl 0 rfl) ?_
        refine va_get (D := D) (ci := 10) (v := .ref (q 6)) (C := RX10) (T := TX10) (N := 34) hx hb hts inX10 hown hK hP 0 rfl rfl 10 (by decide) lk25 (fun _ h9 => h9) rfl dX10_thief_31 ?_
        refine lv_iload_n hx hb dX10_thief_34 rfl (lv_at hl 1 rfl) ?_
        obtain ⟨hg9, hf⟩ := zz_gd hf
        refine va_iald hx hb hK hP 6 5 rfl rfl hg9 dX10_thief_35 ?_
        refine lv_goto (tgt := 41) hx hb dX10_thief_36 (by decide) ?_
        exact Kj41_5 ((zz_gA S2 5) (Int32.toNatClampNeg u0)) _ _ hP hD hS ls (lv_sub hl [] rfl) hf
      · have hf := zz_ps hf c18
        refine lv_aload_n hx hb dX10_thief_21 rfl (lv_at hl 0 rfl) ?_
        refine va_get (D := D) (ci := 10) (v := .ref (q 5)) (C := RX10) (T := TX10) (N := 34) hx hb hts inX10 hown hK hP 0 rfl rfl 9 (by decide) lk22 (fun _ h9 => h9) rfl dX10_thief_22 ?_
        refine lv_iload_n hx hb dX10_thief_25 rfl (lv_at hl 1 rfl) ?_
        obtain ⟨hg10, hf⟩ := zz_gd hf
        refine va_iald hx hb hK hP 5 4 rfl rfl hg10 dX10_thief_26 ?_
        refine lv_goto (tgt := 41) hx hb dX10_thief_27 (by decide) ?_
        exact Kj41_5 ((zz_gA S2 4) (Int32.toNatClampNeg u0)) _ _ hP hD hS ls (lv_sub hl [] rfl) hf
def rmX10_set : Room := { frames := 1, cells := 0, slots := 0, locals := 22 }
set_option maxHeartbeats 4000000 in
set_option maxRecDepth 100000 in
theorem zc_X10_set (l : Launch) (D : va_G) (tb : Nat → Nat) (q : Nat → Nat) (k : Nat → ClassId) (F : Nat) (u0 : Int32) (u1 : Int32) (S : zz_M) (r : Int32) (o1 : zz_M) (hf : pX10_set F u0 u1 S = some (r, o1)) : zz_Mi l yX10_set wsX10_set rmX10_set D tb [((k 1), .int), ((k 2), .int), ((k 3), .int), ((k 4), .int), ((k 5), .int), ((k 6), .int), ((k 7), .int), ((k 8), .boolean), ((k 9), .int), ((k 10), .int), ((k 11), .int), ((k 12), .int), ((k 13), .int), ((k 14), .int), ((k 15), .int), ((k 16), .boolean), ((k 17), .int), ((k 18), .int), ((k 19), .int), ((k 20), .int)] [.ref (q 0), .int u0, .int u1] (zw_10 q k S) (zw_10 q k o1) r := by
  refine zz_ofi (cc := cX10_set) (maxL := 4) (by decide) rfl (Nat.le_of_ble_eq_true rfl) ?_
  intro p e s m args below meth c A Q hfx hK hA hE hret H locs hP hD hS ls hl
  obtain ⟨hx, hb, hml, hown, hts⟩ := id hfx
  have inX10 : ∀ w ∈ u_ws RX10 TX10 34, w ∈ wsX10_set := by decide +kernel
  have lk145 := hts (.fieldLink RX10 145 "CatBeatModel" "fogNow" "I") (by decide +kernel)
  have lk75 := hts (.fieldLink RX10 75 "CatBeatModel" "sightNow" "I") (by decide +kernel)
  have lk71 := hts (.fieldLink RX10 71 "CatBeatModel" "girthNow" "I") (by decide +kernel)
  have lk142 := hts (.fieldLink RX10 142 "CatBeatModel" "startNow" "I") (by decide +kernel)
  have hl : lv_has ls 4 [(0, .ref (q 0)), (1, .int u0), (2, .int u1)] := hl
  unfold pX10_set at hf
  refine lv_iload_n hx hb dX10_set_0 rfl (lv_at hl 1 rfl) ?_
  refine lv_iconst (v := (0 : Int32)) hx hb dX10_set_1 (by decide) ?_
  refine lv_iconst (v := (3 : Int32)) hx hb dX10_set_2 (by decide) ?_
  obtain ⟨r1, hc2, hf⟩ := zz_b1s hf
  refine zz_ji (va_runS (As := [.int u0, .int (0 : Int32), .int (3 : Int32)]) (rest := []) hfx (zc_X10_in l D tb  F u0 (0 : Int32) (3 : Int32)  r1 hc2 H.size) (va_cwS 3 hts gX10_set_X10_in rfl rfl rfl (by decide +kernel) ⟨Nat.le_of_ble_eq_true rfl, Nat.le_of_ble_eq_true rfl⟩) (zz_preS hK hP hD hS hA hE [] [] rfl (by decide) rfl) rfl rfl hl.1 rfl (lv_room (Nat.le_of_ble_eq_true rfl)) dX10_set_3 ⟨Nat.zero_le _, Nat.zero_le _⟩) hP hD hS hA [] rfl rfl (fun H locs hP hD hS => ?_)
  have hP : va_P D vwCl (zw_10 q k S) H := hP
  have hD : va_D A (zw_10 q k S) := hD
  obtain ⟨j37_3, hj37_3, hf⟩ := zz_lts hf
  have Kj37_3 : ∀  (H : Heap) (locs : List Loc), va_P D vwCl (zw_10 q k S) H → va_D A (zw_10 q k S) → va_S A s.heap H locs → ∀ ls : Array Slot, lv_has ls 4 [] → j37_3 () = some (r, o1) → W p l e rmX10_set s m args below meth c H locs 0 0 Q (F0 m 37 ls []) := by
    intro  H locs hP hD hS ls hl hf
    rw [hj37_3] at hf
    refine lv_bipush (v := (-2 : Int32)) hx hb dX10_set_37 (by decide) ?_
    obtain ⟨rfl, rfl⟩ := zz_e2 hf
    exact hret _ _ _ _ dX10_set_39 hP hD hS
  refine lv_if_eq (tgt := 37) hx hb dX10_set_6 (by decide) (fun c6 => ?_) (fun c6 => ?_)
  · have hf := zz_ps hf c6
    exact Kj37_3  _ _ hP hD hS ls (lv_sub hl [] rfl) hf
  · have hf := zz_ng hf c6
    refine lv_iload_n hx hb dX10_set_9 rfl (lv_at hl 2 rfl) ?_
    refine lv_iconst (v := (0 : Int32)) hx hb dX10_set_10 (by decide) ?_
    refine lv_iload_n hx hb dX10_set_11 rfl (lv_at hl 1 rfl) ?_
    obtain ⟨v4, hv4, hf⟩ := zz_lts hf
    have hK5 : ∀ ls : Array Slot, lv_has ls 4 [(0, .ref (q 0)), (1, .int u0), (2, .int u1)] → W p l e rmX10_set s m args below meth c H locs 0 0 Q (F0 m 31 ls [.int v4, .int (0 : Int32), .int u1]) := by
      intro ls hl
      obtain ⟨r6, hc7, hf⟩ := zz_b1s hf
      refine zz_ji (va_runS (As := [.int u1, .int (0 : Int32), .int v4]) (rest := []) hfx (zc_X10_in l D tb  F u1 (0 : Int32) v4  r6 hc7 H.size) (va_cwS 3 hts gX10_set_X10_in rfl rfl rfl (by decide +kernel) ⟨Nat.le_of_ble_eq_true rfl, Nat.le_of_ble_eq_true rfl⟩) (zz_preS hK hP hD hS hA hE [] [] rfl (by decide) rfl) rfl rfl hl.1 rfl (lv_room (Nat.le_of_ble_eq_true rfl)) dX10_set_31 ⟨Nat.zero_le _, Nat.zero_le _⟩) hP hD hS hA [] rfl rfl (fun H locs hP hD hS => ?_)
      have hP : va_P D vwCl (zw_10 q k S) H := hP
      have hD : va_D A (zw_10 q k S) := hD
      refine lv_if_ne (tgt := 40) hx hb dX10_set_34 (by decide) (fun c34 => ?_) (fun c34 => ?_)
      · have hf := zz_ng hf c34
        refine lv_iload_n hx hb dX10_set_40 rfl (lv_at hl 1 rfl) ?_
        obtain ⟨v8, hv8, hf⟩ := zz_lts hf
        have hK9 : ∀ ls : Array Slot, lv_has ls 4 [(0, .ref (q 0)), (1, .int u0), (2, .int u1)] → W p l e rmX10_set s m args below meth c H locs 0 0 Q (F0 m 79 ls [.int v8]) := by
          intro ls hl
          refine lv_istore_n (lv' := [(3, .int v8), (0, .ref (q 0)), (1, .int u0), (2, .int u1)]) hx hb dX10_set_79 rfl hl (by decide) rfl (fun ls hl => ?_)
          refine lv_aload_n hx hb dX10_set_80 rfl (lv_at hl 1 rfl) ?_
          refine lv_iload_n hx hb dX10_set_81 rfl (lv_at hl 2 rfl) ?_
          obtain ⟨v10, hv10, hf⟩ := zz_lts hf
          have hK11 : ∀ ls : Array Slot, lv_has ls 4 [(3, .int v8), (0, .ref (q 0)), (1, .int u0), (2, .int u1)] → W p l e rmX10_set s m args below meth c H locs 0 0 Q (F0 m 93 ls [.int v10, .ref (q 0)]) := by
            intro ls hl
            obtain ⟨S12, hS12, hf⟩ := zz_lts hf
            refine va_put (D := D) (ci := 10) (v := .int v10) (ty := .int) (C := RX10) (T := TX10) (N := 34) hx hb hts inX10 tyX10 tyX10_ok nmX10 hown hK hP hD hS 0 rfl rfl 11 (by decide) lk142 (fun _ h9 => h9) rfl (by decide +kernel) rfl rfl (Nat.le_of_ble_eq_true rfl) dX10_set_93 (fun H locs hP hD hS => ?_)
            have hP : va_P D vwCl (zw_10 q k S12) H := by rw [hS12]; exact hP
            have hD : va_D A (zw_10 q k S12) := by rw [hS12]; exact hD
            refine lv_aload_n hx hb dX10_set_96 rfl (lv_at hl 1 rfl) ?_
            refine lv_iload_n hx hb dX10_set_97 rfl (lv_at hl 2 rfl) ?_
            refine lv_iconst (v := (1 : Int32)) hx hb dX10_set_98 (by decide) ?_
            obtain ⟨v13, hv13, hf⟩ := zz_lts hf
            have hK14 : ∀ ls : Array Slot, lv_has ls 4 [(3, .int v8), (0, .ref (q 0)), (1, .int u0), (2, .int u1)] → W p l e rmX10_set s m args below meth c H locs 0 0 Q (F0 m 110 ls [.int v13, .ref (q 0)]) := by
              intro ls hl
              obtain ⟨S15, hS15, hf⟩ := zz_lts hf
              refine va_put (D := D) (ci := 10) (v := .int v13) (ty := .int) (C := RX10) (T := TX10) (N := 34) hx hb hts inX10 tyX10 tyX10_ok nmX10 hown hK hP hD hS 0 rfl rfl 12 (by decide) lk71 (fun _ h9 => h9) rfl (by decide +kernel) rfl rfl (Nat.le_of_ble_eq_true rfl) dX10_set_110 (fun H locs hP hD hS => ?_)
              have hP : va_P D vwCl (zw_10 q k S15) H := by rw [hS15]; exact hP
              have hD : va_D A (zw_10 q k S15) := by rw [hS15]; exact hD
              refine lv_aload_n hx hb dX10_set_113 rfl (lv_at hl 1 rfl) ?_
              refine lv_iload_n hx hb dX10_set_114 rfl (lv_at hl 2 rfl) ?_
              refine lv_iconst (v := (2 : Int32)) hx hb dX10_set_115 (by decide) ?_
              obtain ⟨v16, hv16, hf⟩ := zz_lts hf
              have hK17 : ∀ ls : Array Slot, lv_has ls 4 [(3, .int v8), (0, .ref (q 0)), (1, .int u0), (2, .int u1)] → W p l e rmX10_set s m args below meth c H locs 0 0 Q (F0 m 127 ls [.int v16, .ref (q 0)]) := by
                intro ls hl
                obtain ⟨S18, hS18, hf⟩ := zz_lts hf
                refine va_put (D := D) (ci := 10) (v := .int v16) (ty := .int) (C := RX10) (T := TX10) (N := 34) hx hb hts inX10 tyX10 tyX10_ok nmX10 hown hK hP hD hS 0 rfl rfl 13 (by decide) lk75 (fun _ h9 => h9) rfl (by decide +kernel) rfl rfl (Nat.le_of_ble_eq_true rfl) dX10_set_127 (fun H locs hP hD hS => ?_)
                have hP : va_P D vwCl (zw_10 q k S18) H := by rw [hS18]; exact hP
                have hD : va_D A (zw_10 q k S18) := by rw [hS18]; exact hD
                refine lv_aload_n hx hb dX10_set_130 rfl (lv_at hl 1 rfl) ?_
                refine lv_iload_n hx hb dX10_set_131 rfl (lv_at hl 2 rfl) ?_
                refine lv_iconst (v := (3 : Int32)) hx hb dX10_set_132 (by decide) ?_
                obtain ⟨v19, hv19, hf⟩ := zz_lts hf
                have hK20 : ∀ ls : Array Slot, lv_has ls 4 [(3, .int v8)] → W p l e rmX10_set s m args below meth c H locs 0 0 Q (F0 m 144 ls [.int v19, .ref (q 0)]) := by
                  intro ls hl
                  obtain ⟨S21, hS21, hf⟩ := zz_lts hf
                  refine va_put (D := D) (ci := 10) (v := .int v19) (ty := .int) (C := RX10) (T := TX10) (N := 34) hx hb hts inX10 tyX10 tyX10_ok nmX10 hown hK hP hD hS 0 rfl rfl 14 (by decide) lk145 (fun _ h9 => h9) rfl (by decide +kernel) rfl rfl (Nat.le_of_ble_eq_true rfl) dX10_set_144 (fun H locs hP hD hS => ?_)
                  have hP : va_P D vwCl (zw_10 q k S21) H := by rw [hS21]; exact hP
                  have hD : va_D A (zw_10 q k S21) := by rw [hS21]; exact hD
                  refine lv_iload_n hx hb dX10_set_147 rfl (lv_at hl 0 rfl) ?_
                  obtain ⟨rfl, rfl⟩ := zz_e2 hf
                  exact hret _ _ _ _ dX10_set_148 hP hD hS
                refine lv_icmp_ne (tgt := 140) hx hb dX10_set_133 (by decide) (fun c133 => ?_) (fun c133 => ?_)
                · refine lv_aload_n hx hb dX10_set_140 rfl (lv_at hl 1 rfl) ?_
                  refine va_get (D := D) (ci := 10) (v := .int (zz_gI S18 8)) (C := RX10) (T := TX10) (N := 34) hx hb hts inX10 hown hK hP 0 rfl rfl 14 (by decide) lk145 (fun _ h9 => h9) rfl dX10_set_141 ?_
                  refine zz_ti (show v19 = (zz_gI S18 8) by rw [hv19, if_neg c133]) ?_
                  exact hK20 ls (lv_sub hl [0] rfl)
                · refine lv_iload_n hx hb dX10_set_136 rfl (lv_at hl 3 rfl) ?_
                  refine lv_goto (tgt := 144) hx hb dX10_set_137 (by decide) ?_
                  refine zz_ti (show v19 = u1 by rw [hv19, if_pos c133]) ?_
                  exact hK20 ls (lv_sub hl [0] rfl)
              refine lv_icmp_ne (tgt := 123) hx hb dX10_set_116 (by decide) (fun c116 => ?_) (fun c116 => ?_)
              · refine lv_aload_n hx hb dX10_set_123 rfl (lv_at hl 1 rfl) ?_
                refine va_get (D := D) (ci := 10) (v := .int (zz_gI S15 7)) (C := RX10) (T := TX10) (N := 34) hx hb hts inX10 hown hK hP 0 rfl rfl 13 (by decide) lk75 (fun _ h9 => h9) rfl dX10_set_124 ?_
                refine zz_ti (show v16 = (zz_gI S15 7) by rw [hv16, if_neg c116]) ?_
                exact hK17 ls (lv_sub hl [0, 1, 2, 3] rfl)
              · refine lv_iload_n hx hb dX10_set_119 rfl (lv_at hl 3 rfl) ?_
                refine lv_goto (tgt := 127) hx hb dX10_set_120 (by decide) ?_
                refine zz_ti (show v16 = u1 by rw [hv16, if_pos c116]) ?_
                exact hK17 ls (lv_sub hl [0, 1, 2, 3] rfl)
            refine lv_icmp_ne (tgt := 106) hx hb dX10_set_99 (by decide) (fun c99 => ?_) (fun c99 => ?_)
            · refine lv_aload_n hx hb dX10_set_106 rfl (lv_at hl 1 rfl) ?_
              refine va_get (D := D) (ci := 10) (v := .int (zz_gI S12 6)) (C := RX10) (T := TX10) (N := 34) hx hb hts inX10 hown hK hP 0 rfl rfl 12 (by decide) lk71 (fun _ h9 => h9) rfl dX10_set_107 ?_
              refine zz_ti (show v13 = (zz_gI S12 6) by rw [hv13, if_neg c99]) ?_
              exact hK14 ls (lv_sub hl [0, 1, 2, 3] rfl)
            · refine lv_iload_n hx hb dX10_set_102 rfl (lv_at hl 3 rfl) ?_
              refine lv_goto (tgt := 110) hx hb dX10_set_103 (by decide) ?_
              refine zz_ti (show v13 = u1 by rw [hv13, if_pos c99]) ?_
              exact hK14 ls (lv_sub hl [0, 1, 2, 3] rfl)
          refine lv_if_ne (tgt := 89) hx hb dX10_set_82 (by decide) (fun c82 => ?_) (fun c82 => ?_)
          · refine lv_aload_n hx hb dX10_set_89 rfl (lv_at hl 1 rfl) ?_
            refine va_get (D := D) (ci := 10) (v := .int (zz_gI S 5)) (C := RX10) (T := TX10) (N := 34) hx hb hts inX10 hown hK hP 0 rfl rfl 11 (by decide) lk142 (fun _ h9 => h9) rfl dX10_set_90 ?_
            refine zz_ti (show v10 = (zz_gI S 5) by rw [hv10, if_neg c82]) ?_
            exact hK11 ls (lv_sub hl [0, 1, 2, 3] rfl)
          · refine lv_iload_n hx hb dX10_set_85 rfl (lv_at hl 3 rfl) ?_
            refine lv_goto (tgt := 93) hx hb dX10_set_86 (by decide) ?_
            refine zz_ti (show v10 = u1 by rw [hv10, if_pos c82]) ?_
            exact hK11 ls (lv_sub hl [0, 1, 2, 3] rfl)
        refine lv_if_ne (tgt := 51) hx hb dX10_set_41 (by decide) (fun c41 => ?_) (fun c41 => ?_)
        · refine lv_iload_n hx hb dX10_set_51 rfl (lv_at hl 1 rfl) ?_
          refine lv_iconst (v := (1 : Int32)) hx hb dX10_set_52 (by decide) ?_
          refine lv_icmp_ne (tgt := 63) hx hb dX10_set_53 (by decide) (fun c53 => ?_) (fun c53 => ?_)
          · refine lv_iload_n hx hb dX10_set_63 rfl (lv_at hl 1 rfl) ?_
            refine lv_iconst (v := (2 : Int32)) hx hb dX10_set_64 (by decide) ?_
            refine lv_icmp_ne (tgt := 75) hx hb dX10_set_65 (by decide) (fun c65 => ?_) (fun c65 => ?_)
            · refine lv_aload_n hx hb dX10_set_75 rfl (lv_at hl 0 rfl) ?_
              refine va_get (D := D) (ci := 10) (v := .int (zz_gI S 8)) (C := RX10) (T := TX10) (N := 34) hx hb hts inX10 hown hK hP 0 rfl rfl 14 (by decide) lk145 (fun _ h9 => h9) rfl dX10_set_76 ?_
              refine zz_ti (show v8 = (zz_gI S 8) by rw [hv8, if_neg c41, if_neg c53, if_neg c65]) ?_
              exact hK9 ls (lv_sub hl [0, 1, 2] rfl)
            · refine lv_aload_n hx hb dX10_set_68 rfl (lv_at hl 0 rfl) ?_
              refine va_get (D := D) (ci := 10) (v := .int (zz_gI S 7)) (C := RX10) (T := TX10) (N := 34) hx hb hts inX10 hown hK hP 0 rfl rfl 13 (by decide) lk75 (fun _ h9 => h9) rfl dX10_set_69 ?_
              refine lv_goto (tgt := 79) hx hb dX10_set_72 (by decide) ?_
              refine zz_ti (show v8 = (zz_gI S 7) by rw [hv8, if_neg c41, if_neg c53, if_pos c65]) ?_
              exact hK9 ls (lv_sub hl [0, 1, 2] rfl)
          · refine lv_aload_n hx hb dX10_set_56 rfl (lv_at hl 0 rfl) ?_
            refine va_get (D := D) (ci := 10) (v := .int (zz_gI S 6)) (C := RX10) (T := TX10) (N := 34) hx hb hts inX10 hown hK hP 0 rfl rfl 12 (by decide) lk71 (fun _ h9 => h9) rfl dX10_set_57 ?_
            refine lv_goto (tgt := 79) hx hb dX10_set_60 (by decide) ?_
            refine zz_ti (show v8 = (zz_gI S 6) by rw [hv8, if_neg c41, if_pos c53]) ?_
            exact hK9 ls (lv_sub hl [0, 1, 2] rfl)
        · refine lv_aload_n hx hb dX10_set_44 rfl (lv_at hl 0 rfl) ?_
          refine va_get (D := D) (ci := 10) (v := .int (zz_gI S 5)) (C := RX10) (T := TX10) (N := 34) hx hb hts inX10 hown hK hP 0 rfl rfl 11 (by decide) lk142 (fun _ h9 => h9) rfl dX10_set_45 ?_
          refine lv_goto (tgt := 79) hx hb dX10_set_48 (by decide) ?_
          refine zz_ti (show v8 = (zz_gI S 5) by rw [hv8, if_pos c41]) ?_
          exact hK9 ls (lv_sub hl [0, 1, 2] rfl)
      · have hf := zz_ps hf c34
        exact Kj37_3  _ _ hP hD hS ls (lv_sub hl [] rfl) hf
    refine lv_if_ne (tgt := 20) hx hb dX10_set_12 (by decide) (fun c12 => ?_) (fun c12 => ?_)
    · refine lv_iload_n hx hb dX10_set_20 rfl (lv_at hl 1 rfl) ?_
      refine lv_iconst (v := (3 : Int32)) hx hb dX10_set_21 (by decide) ?_
      refine lv_icmp_ne (tgt := 29) hx hb dX10_set_22 (by decide) (fun c22 => ?_) (fun c22 => ?_)
      · refine lv_bipush (v := (9 : Int32)) hx hb dX10_set_29 (by decide) ?_
        refine zz_ti (show v4 = (9 : Int32) by rw [hv4, if_neg c12, if_neg c22]) ?_
        exact hK5 ls (lv_sub hl [0, 1, 2] rfl)
      · refine lv_iconst (v := (1 : Int32)) hx hb dX10_set_25 (by decide) ?_
        refine lv_goto (tgt := 31) hx hb dX10_set_26 (by decide) ?_
        refine zz_ti (show v4 = (1 : Int32) by rw [hv4, if_neg c12, if_pos c22]) ?_
        exact hK5 ls (lv_sub hl [0, 1, 2] rfl)
    · refine lv_bipush (v := (35 : Int32)) hx hb dX10_set_15 (by decide) ?_
      refine lv_goto (tgt := 31) hx hb dX10_set_17 (by decide) ?_
      refine zz_ti (show v4 = (35 : Int32) by rw [hv4, if_pos c12]) ?_
      exact hK5 ls (lv_sub hl [0, 1, 2] rfl)
def rmX10_isFor : Room := { frames := 0, cells := 0, slots := 0, locals := 0 }
set_option maxHeartbeats 4000000 in
set_option maxRecDepth 100000 in
theorem zc_X10_isFor (l : Launch) (D : va_G) (tb : Nat → Nat) (q : Nat → Nat) (k : Nat → ClassId) (F : Nat) (u0 : Int32) (S : zz_M) (r : Int32) (hf : pX10_isFor F u0 S = some r) : zz_Mi l yX10_isFor wsX10_isFor rmX10_isFor D tb [((k 1), .int), ((k 2), .int), ((k 3), .int), ((k 4), .int), ((k 5), .int), ((k 6), .int), ((k 7), .int), ((k 8), .boolean), ((k 9), .int), ((k 10), .int), ((k 11), .int), ((k 12), .int), ((k 13), .int), ((k 14), .int), ((k 15), .int), ((k 16), .boolean), ((k 17), .int), ((k 18), .int), ((k 19), .int), ((k 20), .int)] [.ref (q 0), .int u0] (zw_10 q k S) (zw_10 q k S) r := by
  refine zz_ofz (cc := cX10_isFor) (maxL := 3) (by decide) rfl (Nat.le_of_ble_eq_true rfl) ?_
  intro p e s m args below meth c A Q hfx hK hA hE hret H locs hP hD hS ls hl
  obtain ⟨hx, hb, hml, hown, hts⟩ := id hfx
  have inX10 : ∀ w ∈ u_ws RX10 TX10 34, w ∈ wsX10_isFor := by decide +kernel
  have lk16 := hts (.fieldLink RX10 16 "CatBeatModel" "kinds" "[I") (by decide +kernel)
  have lk71 := hts (.fieldLink RX10 71 "CatBeatModel" "girthNow" "I") (by decide +kernel)
  have hl : lv_has ls 3 [(0, .ref (q 0)), (1, .int u0)] := hl
  unfold pX10_isFor at hf
  refine lv_aload_n hx hb dX10_isFor_0 rfl (lv_at hl 0 rfl) ?_
  refine va_get (D := D) (ci := 10) (v := .ref (q 3)) (C := RX10) (T := TX10) (N := 34) hx hb hts inX10 hown hK hP 0 rfl rfl 5 (by decide) lk16 (fun _ h9 => h9) rfl dX10_isFor_1 ?_
  refine lv_iload_n hx hb dX10_isFor_4 rfl (lv_at hl 1 rfl) ?_
  obtain ⟨hg1, hf⟩ := zz_gd hf
  refine va_iald hx hb hK hP 3 2 rfl rfl hg1 dX10_isFor_5 ?_
  obtain ⟨v2, hv2, hf⟩ := zz_lts hf
  refine zz_ti hv2 ?_
  refine lv_istore_n (lv' := [(2, .int v2), (0, .ref (q 0)), (1, .int u0)]) hx hb dX10_isFor_6 rfl hl (by decide) rfl (fun ls hl => ?_)
  refine lv_iload_n hx hb dX10_isFor_7 rfl (lv_at hl 0 rfl) ?_
  obtain ⟨j48_4, hj48_4, hf⟩ := zz_lts hf
  have Kj48_4 : ∀ (y3 : Int32) (H : Heap) (locs : List Loc), va_P D vwCl (zw_10 q k S) H → va_D A (zw_10 q k S) → va_S A s.heap H locs → ∀ ls : Array Slot, lv_has ls 3 [] → j48_4 y3 = some r → W p l e rmX10_isFor s m args below meth c H locs 0 0 Q (F0 m 48 ls [.int y3]) := by
    intro y3 H locs hP hD hS ls hl hf
    rw [hj48_4] at hf
    obtain ⟨hg5, hf⟩ := zz_gd hf
    obtain rfl := zz_e1 hf
    exact hret _ _ _ _ (zz_nb hg5) dX10_isFor_48 hP hD hS
  obtain ⟨j43_6, hj43_6, hf⟩ := zz_lts hf
  have Kj43_6 : ∀  (H : Heap) (locs : List Loc), va_P D vwCl (zw_10 q k S) H → va_D A (zw_10 q k S) → va_S A s.heap H locs → ∀ ls : Array Slot, lv_has ls 3 [] → j43_6 () = some r → W p l e rmX10_isFor s m args below meth c H locs 0 0 Q (F0 m 43 ls []) := by
    intro  H locs hP hD hS ls hl hf
    rw [hj43_6] at hf
    refine lv_iconst (v := (1 : Int32)) hx hb dX10_isFor_43 (by decide) ?_
    refine lv_goto (tgt := 48) hx hb dX10_isFor_44 (by decide) ?_
    exact Kj48_4 (1 : Int32) _ _ hP hD hS ls (lv_sub hl [] rfl) hf
  refine lv_if_eq (tgt := 43) hx hb dX10_isFor_8 (by decide) (fun c8 => ?_) (fun c8 => ?_)
  · have hf := zz_ps hf c8
    exact Kj43_6  _ _ hP hD hS ls (lv_sub hl [] rfl) hf
  · have hf := zz_ng hf c8
    refine lv_iload_n hx hb dX10_isFor_11 rfl (lv_at hl 0 rfl) ?_
    refine lv_iconst (v := (2 : Int32)) hx hb dX10_isFor_12 (by decide) ?_
    refine lv_icmp_eq (tgt := 43) hx hb dX10_isFor_13 (by decide) (fun c13 => ?_) (fun c13 => ?_)
    · have hf := zz_ps hf c13
      exact Kj43_6  _ _ hP hD hS ls (lv_sub hl [] rfl) hf
    · have hf := zz_ng hf c13
      refine lv_iload_n hx hb dX10_isFor_16 rfl (lv_at hl 0 rfl) ?_
      refine lv_iconst (v := (3 : Int32)) hx hb dX10_isFor_17 (by decide) ?_
      obtain ⟨j30_7, hj30_7, hf⟩ := zz_lts hf
      have Kj30_7 : ∀  (H : Heap) (locs : List Loc), va_P D vwCl (zw_10 q k S) H → va_D A (zw_10 q k S) → va_S A s.heap H locs → ∀ ls : Array Slot, lv_has ls 3 [(2, .int v2), (0, .ref (q 0))] → j30_7 () = some r → W p l e rmX10_isFor s m args below meth c H locs 0 0 Q (F0 m 30 ls []) := by
        intro  H locs hP hD hS ls hl hf
        rw [hj30_7] at hf
        refine lv_iload_n hx hb dX10_isFor_30 rfl (lv_at hl 0 rfl) ?_
        refine lv_iconst (v := (4 : Int32)) hx hb dX10_isFor_31 (by decide) ?_
        obtain ⟨j47_8, hj47_8, hf⟩ := zz_lts hf
        have Kj47_8 : ∀  (H : Heap) (locs : List Loc), va_P D vwCl (zw_10 q k S) H → va_D A (zw_10 q k S) → va_S A s.heap H locs → ∀ ls : Array Slot, lv_has ls 3 [] → j47_8 () = some r → W p l e rmX10_isFor s m args below meth c H locs 0 0 Q (F0 m 47 ls []) := by
          intro  H locs hP hD hS ls hl hf
          rw [hj47_8] at hf
          refine lv_iconst (v := (0 : Int32)) hx hb dX10_isFor_47 (by decide) ?_
          exact Kj48_4 (0 : Int32) _ _ hP hD hS ls (lv_sub hl [] rfl) hf
        refine lv_icmp_ne (tgt := 47) hx hb dX10_isFor_32 (by decide) (fun c32 => ?_) (fun c32 => ?_)
        · have hf := zz_ng hf c32
          exact Kj47_8  _ _ hP hD hS ls (lv_sub hl [] rfl) hf
        · have hf := zz_ps hf c32
          refine lv_aload_n hx hb dX10_isFor_35 rfl (lv_at hl 1 rfl) ?_
          refine va_get (D := D) (ci := 10) (v := .int (zz_gI S 6)) (C := RX10) (T := TX10) (N := 34) hx hb hts inX10 hown hK hP 0 rfl rfl 12 (by decide) lk71 (fun _ h9 => h9) rfl dX10_isFor_36 ?_
          refine lv_iconst (v := (3 : Int32)) hx hb dX10_isFor_39 (by decide) ?_
          refine lv_icmp_ge (tgt := 47) hx hb dX10_isFor_40 (by decide) (fun c40 => ?_) (fun c40 => ?_)
          · have hf := zz_ps hf c40
            exact Kj47_8  _ _ hP hD hS ls (lv_sub hl [] rfl) hf
          · have hf := zz_ng hf c40
            exact Kj43_6  _ _ hP hD hS ls (lv_sub hl [] rfl) hf
      refine lv_icmp_ne (tgt := 30) hx hb dX10_isFor_18 (by decide) (fun c18 => ?_) (fun c18 => ?_)
      · have hf := zz_ng hf c18
        exact Kj30_7  _ _ hP hD hS ls (lv_sub hl [0, 1] rfl) hf
      · have hf := zz_ps hf c18
        refine lv_aload_n hx hb dX10_isFor_21 rfl (lv_at hl 1 rfl) ?_
        refine va_get (D := D) (ci := 10) (v := .int (zz_gI S 6)) (C := RX10) (T := TX10) (N := 34) hx hb hts inX10 hown hK hP 0 rfl rfl 12 (by decide) lk71 (fun _ h9 => h9) rfl dX10_isFor_22 ?_
        refine lv_bipush (v := (8 : Int32)) hx hb dX10_isFor_25 (by decide) ?_
        refine lv_icmp_lt (tgt := 43) hx hb dX10_isFor_27 (by decide) (fun c27 => ?_) (fun c27 => ?_)
        · have hf := zz_ps hf c27
          exact Kj43_6  _ _ hP hD hS ls (lv_sub hl [] rfl) hf
        · have hf := zz_ng hf c27
          exact Kj30_7  _ _ hP hD hS ls (lv_sub hl [0, 1] rfl) hf
def rmX10_beside : Room := { frames := 1, cells := 0, slots := 0, locals := 22 }
set_option maxHeartbeats 4000000 in
set_option maxRecDepth 100000 in
theorem zc_X10_beside (l : Launch) (D : va_G) (tb : Nat → Nat) (q : Nat → Nat) (k : Nat → ClassId) (F : Nat) (u0 : Int32) (u1 : Int32) (S : zz_M) (r : Int32) (hf : pX10_beside F u0 u1 S = some r) : zz_Mi l yX10_beside wsX10_beside rmX10_beside D tb [((k 1), .int), ((k 2), .int), ((k 3), .int), ((k 4), .int), ((k 5), .int), ((k 6), .int), ((k 7), .int), ((k 8), .boolean), ((k 9), .int), ((k 10), .int), ((k 11), .int), ((k 12), .int), ((k 13), .int), ((k 14), .int), ((k 15), .int), ((k 16), .boolean), ((k 17), .int), ((k 18), .int), ((k 19), .int), ((k 20), .int)] [.ref (q 0), .int u0, .int u1] (zw_10 q k S) (zw_10 q k S) r := by
  refine zz_ofi (cc := cX10_beside) (maxL := 4) (by decide) rfl (Nat.le_of_ble_eq_true rfl) ?_
  intro p e s m args below meth c A Q hfx hK hA hE hret H locs hP hD hS ls hl
  obtain ⟨hx, hb, hml, hown, hts⟩ := id hfx
  have inX10 : ∀ w ∈ u_ws RX10 TX10 34, w ∈ wsX10_beside := by decide +kernel
  have lk88 := hts (.fieldLink RX10 88 "CatBeatModel" "cells" "I") (by decide +kernel)
  have lk94 := hts (.fieldLink RX10 94 "CatBeatModel" "wide" "I") (by decide +kernel)
  have hl : lv_has ls 4 [(0, .ref (q 0)), (1, .int u0), (2, .int u1)] := hl
  unfold pX10_beside at hf
  refine lv_iload_n hx hb dX10_beside_0 rfl (lv_at hl 2 rfl) ?_
  obtain ⟨j82_2, hj82_2, hf⟩ := zz_lts hf
  have Kj82_2 : ∀ (y1 : Int32) (H : Heap) (locs : List Loc), va_P D vwCl (zw_10 q k S) H → va_D A (zw_10 q k S) → va_S A s.heap H locs → ∀ ls : Array Slot, lv_has ls 4 [(0, .ref (q 0))] → j82_2 y1 = some r → W p l e rmX10_beside s m args below meth c H locs 0 0 Q (F0 m 82 ls [.int y1]) := by
    intro y1 H locs hP hD hS ls hl hf
    rw [hj82_2] at hf
    refine lv_istore_n (lv' := [(3, .int y1), (0, .ref (q 0))]) hx hb dX10_beside_82 rfl hl (by decide) rfl (fun ls hl => ?_)
    refine lv_iload_n hx hb dX10_beside_83 rfl (lv_at hl 0 rfl) ?_
    refine lv_iconst (v := (0 : Int32)) hx hb dX10_beside_84 (by decide) ?_
    refine lv_aload_n hx hb dX10_beside_85 rfl (lv_at hl 1 rfl) ?_
    refine va_get (D := D) (ci := 10) (v := .int (zz_gI S 2)) (C := RX10) (T := TX10) (N := 34) hx hb hts inX10 hown hK hP 0 rfl rfl 4 (by decide) lk88 (fun _ h9 => h9) rfl dX10_beside_86 ?_
    refine lv_iconst (v := (1 : Int32)) hx hb dX10_beside_89 (by decide) ?_
    refine lv_isub hx hb dX10_beside_90 ?_
    obtain ⟨r3, hc4, hf⟩ := zz_b1s hf
    refine zz_ji (va_runS (As := [.int y1, .int (0 : Int32), .int ((zz_gI S 2) - (1 : Int32))]) (rest := []) hfx (zc_X10_in l D tb  F y1 (0 : Int32) ((zz_gI S 2) - (1 : Int32))  r3 hc4 H.size) (va_cwS 3 hts gX10_beside_X10_in rfl rfl rfl (by decide +kernel) ⟨Nat.le_of_ble_eq_true rfl, Nat.le_of_ble_eq_true rfl⟩) (zz_preS hK hP hD hS hA hE [] [] rfl (by decide) rfl) rfl rfl hl.1 rfl (lv_room (Nat.le_of_ble_eq_true rfl)) dX10_beside_91 ⟨Nat.zero_le _, Nat.zero_le _⟩) hP hD hS hA [] rfl rfl (fun H locs hP hD hS => ?_)
    have hP : va_P D vwCl (zw_10 q k S) H := hP
    have hD : va_D A (zw_10 q k S) := hD
    obtain ⟨v5, hv5, hf⟩ := zz_lts hf
    have hK6 : ∀ ls : Array Slot, lv_has ls 4 [] → W p l e rmX10_beside s m args below meth c H locs 0 0 Q (F0 m 102 ls [.int v5]) := by
      intro ls hl
      obtain rfl := zz_e1 hf
      exact hret _ _ _ _ dX10_beside_102 hP hD hS
    refine lv_if_eq (tgt := 101) hx hb dX10_beside_94 (by decide) (fun c94 => ?_) (fun c94 => ?_)
    · refine lv_iconst (v := (-1 : Int32)) hx hb dX10_beside_101 (by decide) ?_
      refine zz_ti (show v5 = (-1 : Int32) by rw [hv5, if_pos c94]) ?_
      exact hK6 ls (lv_sub hl [] rfl)
    · refine lv_iload_n hx hb dX10_beside_97 rfl (lv_at hl 0 rfl) ?_
      refine lv_goto (tgt := 102) hx hb dX10_beside_98 (by decide) ?_
      refine zz_ti (show v5 = y1 by rw [hv5, if_neg c94]) ?_
      exact hK6 ls (lv_sub hl [] rfl)
  refine lv_if_ne (tgt := 13) hx hb dX10_beside_1 (by decide) (fun c1 => ?_) (fun c1 => ?_)
  · have hf := zz_ng hf c1
    refine lv_iload_n hx hb dX10_beside_13 rfl (lv_at hl 2 rfl) ?_
    refine lv_iconst (v := (1 : Int32)) hx hb dX10_beside_14 (by decide) ?_
    refine lv_icmp_ne (tgt := 43) hx hb dX10_beside_15 (by decide) (fun c15 => ?_) (fun c15 => ?_)
    · have hf := zz_ng hf c15
      refine lv_iload_n hx hb dX10_beside_43 rfl (lv_at hl 2 rfl) ?_
      refine lv_iconst (v := (2 : Int32)) hx hb dX10_beside_44 (by decide) ?_
      refine lv_icmp_ne (tgt := 57) hx hb dX10_beside_45 (by decide) (fun c45 => ?_) (fun c45 => ?_)
      · have hf := zz_ng hf c45
        refine lv_iload_n hx hb dX10_beside_57 rfl (lv_at hl 2 rfl) ?_
        refine lv_iconst (v := (3 : Int32)) hx hb dX10_beside_58 (by decide) ?_
        refine lv_icmp_ne (tgt := 81) hx hb dX10_beside_59 (by decide) (fun c59 => ?_) (fun c59 => ?_)
        · have hf := zz_ng hf c59
          refine lv_iconst (v := (-1 : Int32)) hx hb dX10_beside_81 (by decide) ?_
          exact Kj82_2 (-1 : Int32) _ _ hP hD hS ls (lv_sub hl [0] rfl) hf
        · have hf := zz_ps hf c59
          refine lv_iload_n hx hb dX10_beside_62 rfl (lv_at hl 1 rfl) ?_
          refine lv_aload_n hx hb dX10_beside_63 rfl (lv_at hl 0 rfl) ?_
          refine va_get (D := D) (ci := 10) (v := .int (zz_gI S 0)) (C := RX10) (T := TX10) (N := 34) hx hb hts inX10 hown hK hP 0 rfl rfl 2 (by decide) lk94 (fun _ h9 => h9) rfl dX10_beside_64 ?_
          obtain ⟨hg7, hf⟩ := zz_gd hf
          refine lv_irem hx hb dX10_beside_67 hg7 ?_
          refine lv_if_le (tgt := 77) hx hb dX10_beside_68 (by decide) (fun c68 => ?_) (fun c68 => ?_)
          · have hf := zz_ps hf c68
            refine lv_iconst (v := (-1 : Int32)) hx hb dX10_beside_77 (by decide) ?_
            refine lv_goto (tgt := 82) hx hb dX10_beside_78 (by decide) ?_
            exact Kj82_2 (-1 : Int32) _ _ hP hD hS ls (lv_sub hl [0] rfl) hf
          · have hf := zz_ng hf c68
            refine lv_iload_n hx hb dX10_beside_71 rfl (lv_at hl 1 rfl) ?_
            refine lv_iconst (v := (1 : Int32)) hx hb dX10_beside_72 (by decide) ?_
            refine lv_isub hx hb dX10_beside_73 ?_
            refine lv_goto (tgt := 82) hx hb dX10_beside_74 (by decide) ?_
            exact Kj82_2 (u0 - (1 : Int32)) _ _ hP hD hS ls (lv_sub hl [0] rfl) hf
      · have hf := zz_ps hf c45
        refine lv_iload_n hx hb dX10_beside_48 rfl (lv_at hl 1 rfl) ?_
        refine lv_aload_n hx hb dX10_beside_49 rfl (lv_at hl 0 rfl) ?_
        refine va_get (D := D) (ci := 10) (v := .int (zz_gI S 0)) (C := RX10) (T := TX10) (N := 34) hx hb hts inX10 hown hK hP 0 rfl rfl 2 (by decide) lk94 (fun _ h9 => h9) rfl dX10_beside_50 ?_
        refine lv_iadd hx hb dX10_beside_53 ?_
        refine lv_goto (tgt := 82) hx hb dX10_beside_54 (by decide) ?_
        exact Kj82_2 (u0 + (zz_gI S 0)) _ _ hP hD hS ls (lv_sub hl [0] rfl) hf
    · have hf := zz_ps hf c15
      refine lv_iload_n hx hb dX10_beside_18 rfl (lv_at hl 1 rfl) ?_
      refine lv_aload_n hx hb dX10_beside_19 rfl (lv_at hl 0 rfl) ?_
      refine va_get (D := D) (ci := 10) (v := .int (zz_gI S 0)) (C := RX10) (T := TX10) (N := 34) hx hb hts inX10 hown hK hP 0 rfl rfl 2 (by decide) lk94 (fun _ h9 => h9) rfl dX10_beside_20 ?_
      obtain ⟨hg8, hf⟩ := zz_gd hf
      refine lv_irem hx hb dX10_beside_23 hg8 ?_
      refine lv_aload_n hx hb dX10_beside_24 rfl (lv_at hl 0 rfl) ?_
      refine va_get (D := D) (ci := 10) (v := .int (zz_gI S 0)) (C := RX10) (T := TX10) (N := 34) hx hb hts inX10 hown hK hP 0 rfl rfl 2 (by decide) lk94 (fun _ h9 => h9) rfl dX10_beside_25 ?_
      refine lv_iconst (v := (1 : Int32)) hx hb dX10_beside_28 (by decide) ?_
      refine lv_isub hx hb dX10_beside_29 ?_
      refine lv_icmp_ge (tgt := 39) hx hb dX10_beside_30 (by decide) (fun c30 => ?_) (fun c30 => ?_)
      · have hf := zz_ps hf c30
        refine lv_iconst (v := (-1 : Int32)) hx hb dX10_beside_39 (by decide) ?_
        refine lv_goto (tgt := 82) hx hb dX10_beside_40 (by decide) ?_
        exact Kj82_2 (-1 : Int32) _ _ hP hD hS ls (lv_sub hl [0] rfl) hf
      · have hf := zz_ng hf c30
        refine lv_iload_n hx hb dX10_beside_33 rfl (lv_at hl 1 rfl) ?_
        refine lv_iconst (v := (1 : Int32)) hx hb dX10_beside_34 (by decide) ?_
        refine lv_iadd hx hb dX10_beside_35 ?_
        refine lv_goto (tgt := 82) hx hb dX10_beside_36 (by decide) ?_
        exact Kj82_2 (u0 + (1 : Int32)) _ _ hP hD hS ls (lv_sub hl [0] rfl) hf
  · have hf := zz_ps hf c1
    refine lv_iload_n hx hb dX10_beside_4 rfl (lv_at hl 1 rfl) ?_
    refine lv_aload_n hx hb dX10_beside_5 rfl (lv_at hl 0 rfl) ?_
    refine va_get (D := D) (ci := 10) (v := .int (zz_gI S 0)) (C := RX10) (T := TX10) (N := 34) hx hb hts inX10 hown hK hP 0 rfl rfl 2 (by decide) lk94 (fun _ h9 => h9) rfl dX10_beside_6 ?_
    refine lv_isub hx hb dX10_beside_9 ?_
    refine lv_goto (tgt := 82) hx hb dX10_beside_10 (by decide) ?_
    exact Kj82_2 (u0 - (zz_gI S 0)) _ _ hP hD hS ls (lv_sub hl [0] rfl) hf
def rmX10_marks : Room := { frames := 0, cells := 0, slots := 0, locals := 0 }
set_option maxHeartbeats 4000000 in
set_option maxRecDepth 100000 in
theorem zc_X10_marks (l : Launch) (D : va_G) (tb : Nat → Nat) (q : Nat → Nat) (k : Nat → ClassId) (F : Nat) (u0 : Int32) (S : zz_M) (o0 : zz_M) (hf : pX10_marks F u0 S = some o0) : zz_Mv l yX10_marks wsX10_marks rmX10_marks D tb [((k 1), .int), ((k 2), .int), ((k 3), .int), ((k 4), .int), ((k 5), .int), ((k 6), .int), ((k 7), .int), ((k 8), .boolean), ((k 9), .int), ((k 10), .int), ((k 11), .int), ((k 12), .int), ((k 13), .int), ((k 14), .int), ((k 15), .int), ((k 16), .boolean), ((k 17), .int), ((k 18), .int), ((k 19), .int), ((k 20), .int)] [.ref (q 0), .int u0] (zw_10 q k S) (zw_10 q k o0)  := by
  refine zz_ofv (cc := cX10_marks) (maxL := 2) (by decide) rfl (Nat.le_of_ble_eq_true rfl) ?_
  intro p e s m args below meth c A Q hfx hK hA hE hret H locs hP hD hS ls hl
  obtain ⟨hx, hb, hml, hown, hts⟩ := id hfx
  have inX10 : ∀ w ∈ u_ws RX10 TX10 34, w ∈ wsX10_marks := by decide +kernel
  have lk148 := hts (.fieldLink RX10 148 "CatBeatModel" "lowNow" "I") (by decide +kernel)
  have lk151 := hts (.fieldLink RX10 151 "CatBeatModel" "highNow" "I") (by decide +kernel)
  have hl : lv_has ls 2 [(0, .ref (q 0)), (1, .int u0)] := hl
  unfold pX10_marks at hf
  refine lv_aload_n hx hb dX10_marks_0 rfl (lv_at hl 0 rfl) ?_
  refine lv_dup hx hb dX10_marks_1 rfl ?_
  refine va_get (D := D) (ci := 10) (v := .int (zz_gI S 10)) (C := RX10) (T := TX10) (N := 34) hx hb hts inX10 hown hK hP 0 rfl rfl 21 (by decide) lk148 (fun _ h9 => h9) rfl dX10_marks_2 ?_
  refine lv_iload_n hx hb dX10_marks_5 rfl (lv_at hl 1 rfl) ?_
  refine lv_bipush (v := (18 : Int32)) hx hb dX10_marks_6 (by decide) ?_
  obtain ⟨v1, hv1, hf⟩ := zz_lts hf
  have hK2 : ∀ ls : Array Slot, lv_has ls 2 [(0, .ref (q 0)), (1, .int u0)] → W p l e rmX10_marks s m args below meth c H locs 0 0 Q (F0 m 18 ls [.int v1, .int (zz_gI S 10), .ref (q 0)]) := by
    intro ls hl
    refine lv_ior hx hb dX10_marks_18 ?_
    obtain ⟨S3, hS3, hf⟩ := zz_lts hf
    refine va_put (D := D) (ci := 10) (v := .int ((zz_gI S 10) ||| v1)) (ty := .int) (C := RX10) (T := TX10) (N := 34) hx hb hts inX10 tyX10 tyX10_ok nmX10 hown hK hP hD hS 0 rfl rfl 21 (by decide) lk148 (fun _ h9 => h9) rfl (by decide +kernel) rfl rfl (Nat.le_of_ble_eq_true rfl) dX10_marks_19 (fun H locs hP hD hS => ?_)
    have hP : va_P D vwCl (zw_10 q k S3) H := by rw [hS3]; exact hP
    have hD : va_D A (zw_10 q k S3) := by rw [hS3]; exact hD
    refine lv_aload_n hx hb dX10_marks_22 rfl (lv_at hl 0 rfl) ?_
    refine lv_dup hx hb dX10_marks_23 rfl ?_
    refine va_get (D := D) (ci := 10) (v := .int (zz_gI S3 11)) (C := RX10) (T := TX10) (N := 34) hx hb hts inX10 hown hK hP 0 rfl rfl 22 (by decide) lk151 (fun _ h9 => h9) rfl dX10_marks_24 ?_
    refine lv_iload_n hx hb dX10_marks_27 rfl (lv_at hl 1 rfl) ?_
    refine lv_bipush (v := (18 : Int32)) hx hb dX10_marks_28 (by decide) ?_
    obtain ⟨v4, hv4, hf⟩ := zz_lts hf
    have hK5 : ∀ ls : Array Slot, lv_has ls 2 [] → W p l e rmX10_marks s m args below meth c H locs 0 0 Q (F0 m 43 ls [.int v4, .int (zz_gI S3 11), .ref (q 0)]) := by
      intro ls hl
      refine lv_ior hx hb dX10_marks_43 ?_
      obtain ⟨S6, hS6, hf⟩ := zz_lts hf
      refine va_put (D := D) (ci := 10) (v := .int ((zz_gI S3 11) ||| v4)) (ty := .int) (C := RX10) (T := TX10) (N := 34) hx hb hts inX10 tyX10 tyX10_ok nmX10 hown hK hP hD hS 0 rfl rfl 22 (by decide) lk151 (fun _ h9 => h9) rfl (by decide +kernel) rfl rfl (Nat.le_of_ble_eq_true rfl) dX10_marks_44 (fun H locs hP hD hS => ?_)
      have hP : va_P D vwCl (zw_10 q k S6) H := by rw [hS6]; exact hP
      have hD : va_D A (zw_10 q k S6) := by rw [hS6]; exact hD
      obtain rfl := zz_e1 hf
      exact hret _ _ _ _ dX10_marks_47 hP hD hS
    refine lv_icmp_ge (tgt := 37) hx hb dX10_marks_30 (by decide) (fun c30 => ?_) (fun c30 => ?_)
    · refine lv_iconst (v := (1 : Int32)) hx hb dX10_marks_37 (by decide) ?_
      refine lv_iload_n hx hb dX10_marks_38 rfl (lv_at hl 1 rfl) ?_
      refine lv_bipush (v := (18 : Int32)) hx hb dX10_marks_39 (by decide) ?_
      refine lv_isub hx hb dX10_marks_41 ?_
      refine lv_ishl hx hb dX10_marks_42 ?_
      refine zz_ti (show v4 = ((1 : Int32) <<< ((u0 - (18 : Int32)) &&& 31)) by rw [hv4, if_pos c30]) ?_
      exact hK5 ls (lv_sub hl [] rfl)
    · refine lv_iconst (v := (0 : Int32)) hx hb dX10_marks_33 (by decide) ?_
      refine lv_goto (tgt := 43) hx hb dX10_marks_34 (by decide) ?_
      refine zz_ti (show v4 = (0 : Int32) by rw [hv4, if_neg c30]) ?_
      exact hK5 ls (lv_sub hl [] rfl)
  refine lv_icmp_ge (tgt := 17) hx hb dX10_marks_8 (by decide) (fun c8 => ?_) (fun c8 => ?_)
  · refine lv_iconst (v := (0 : Int32)) hx hb dX10_marks_17 (by decide) ?_
    refine zz_ti (show v1 = (0 : Int32) by rw [hv1, if_pos c8]) ?_
    exact hK2 ls (lv_sub hl [0, 1] rfl)
  · refine lv_iconst (v := (1 : Int32)) hx hb dX10_marks_11 (by decide) ?_
    refine lv_iload_n hx hb dX10_marks_12 rfl (lv_at hl 1 rfl) ?_
    refine lv_ishl hx hb dX10_marks_13 ?_
    refine lv_goto (tgt := 18) hx hb dX10_marks_14 (by decide) ?_
    refine zz_ti (show v1 = ((1 : Int32) <<< (u0 &&& 31)) by rw [hv1, if_neg c8]) ?_
    exact hK2 ls (lv_sub hl [0, 1] rfl)
def rmX10_looks : Room := { frames := 2, cells := 0, slots := 0, locals := 45 }
set_option maxHeartbeats 4000000 in
set_option maxRecDepth 100000 in
theorem zc_X10_looks (l : Launch) (D : va_G) (tb : Nat → Nat) (q : Nat → Nat) (k : Nat → ClassId) (F : Nat) (u0 : Int32) (u1 : Int32) (S : zz_M) (o0 : zz_M) (hf : pX10_looks F u0 u1 S = some o0) : zz_Mv l yX10_looks wsX10_looks rmX10_looks D tb [((k 1), .int), ((k 2), .int), ((k 3), .int), ((k 4), .int), ((k 5), .int), ((k 6), .int), ((k 7), .int), ((k 8), .boolean), ((k 9), .int), ((k 10), .int), ((k 11), .int), ((k 12), .int), ((k 13), .int), ((k 14), .int), ((k 15), .int), ((k 16), .boolean), ((k 17), .int), ((k 18), .int), ((k 19), .int), ((k 20), .int)] [.ref (q 0), .int u0, .int u1] (zw_10 q k S) (zw_10 q k o0)  := by
  refine zz_ofv (cc := cX10_looks) (maxL := 6) (by decide) rfl (Nat.le_of_ble_eq_true rfl) ?_
  intro p e s m args below meth c A Q hfx hK hA hE hret H locs hP hD hS ls hl
  obtain ⟨hx, hb, hml, hown, hts⟩ := id hfx
  have inX10 : ∀ w ∈ u_ws RX10 TX10 34, w ∈ wsX10_looks := by decide +kernel
  have lk148 := hts (.fieldLink RX10 148 "CatBeatModel" "lowNow" "I") (by decide +kernel)
  have lk151 := hts (.fieldLink RX10 151 "CatBeatModel" "highNow" "I") (by decide +kernel)
  have lk16 := hts (.fieldLink RX10 16 "CatBeatModel" "kinds" "[I") (by decide +kernel)
  have hl : lv_has ls 6 [(0, .ref (q 0)), (1, .int u0), (2, .int u1)] := hl
  unfold pX10_looks at hf
  refine lv_aload_n hx hb dX10_looks_0 rfl (lv_at hl 0 rfl) ?_
  refine lv_iconst (v := (0 : Int32)) hx hb dX10_looks_1 (by decide) ?_
  obtain ⟨S1, hS1, hf⟩ := zz_lts hf
  refine va_put (D := D) (ci := 10) (v := .int (0 : Int32)) (ty := .int) (C := RX10) (T := TX10) (N := 34) hx hb hts inX10 tyX10 tyX10_ok nmX10 hown hK hP hD hS 0 rfl rfl 21 (by decide) lk148 (fun _ h9 => h9) rfl (by decide +kernel) rfl rfl (Nat.le_of_ble_eq_true rfl) dX10_looks_2 (fun H locs hP hD hS => ?_)
  have hP : va_P D vwCl (zw_10 q k S1) H := by rw [hS1]; exact hP
  have hD : va_D A (zw_10 q k S1) := by rw [hS1]; exact hD
  refine lv_aload_n hx hb dX10_looks_5 rfl (lv_at hl 0 rfl) ?_
  refine lv_iconst (v := (0 : Int32)) hx hb dX10_looks_6 (by decide) ?_
  obtain ⟨S2, hS2, hf⟩ := zz_lts hf
  refine va_put (D := D) (ci := 10) (v := .int (0 : Int32)) (ty := .int) (C := RX10) (T := TX10) (N := 34) hx hb hts inX10 tyX10 tyX10_ok nmX10 hown hK hP hD hS 0 rfl rfl 22 (by decide) lk151 (fun _ h9 => h9) rfl (by decide +kernel) rfl rfl (Nat.le_of_ble_eq_true rfl) dX10_looks_7 (fun H locs hP hD hS => ?_)
  have hP : va_P D vwCl (zw_10 q k S2) H := by rw [hS2]; exact hP
  have hD : va_D A (zw_10 q k S2) := by rw [hS2]; exact hD
  refine lv_iload_n hx hb dX10_looks_10 rfl (lv_at hl 1 rfl) ?_
  refine lv_iconst (v := (-1 : Int32)) hx hb dX10_looks_11 (by decide) ?_
  refine lv_icmp_ne (tgt := 16) hx hb dX10_looks_12 (by decide) (fun c12 => ?_) (fun c12 => ?_)
  · have hf := zz_ng hf c12
    refine lv_aload_n hx hb dX10_looks_16 rfl (lv_at hl 0 rfl) ?_
    refine lv_iload_n hx hb dX10_looks_17 rfl (lv_at hl 1 rfl) ?_
    obtain ⟨S3, hc4, hf⟩ := zz_b1s hf
    refine zz_jv0 (va_runV (As := [.int u0]) (rest := []) hfx (zc_X10_marks l D tb q k F u0 S2 S3 hc4 H.size) (cwV 1 hts gX10_looks_X10_marks rfl rfl rfl (by decide +kernel) ⟨Nat.le_of_ble_eq_true rfl, Nat.le_of_ble_eq_true rfl⟩) (zz_pre0V hK hP hD hS hA hE 0 rfl rfl rfl) rfl rfl hl.1 rfl (lv_room (Nat.le_of_ble_eq_true rfl)) dX10_looks_18 ⟨Nat.zero_le _, Nat.zero_le _⟩) hD hS hA (fun H locs hP hD hS => ?_)
    refine lv_iconst (v := (0 : Int32)) hx hb dX10_looks_21 (by decide) ?_
    refine lv_istore_n (lv' := [(3, .int (0 : Int32)), (0, .ref (q 0)), (1, .int u0), (2, .int u1)]) hx hb dX10_looks_22 rfl hl (by decide) rfl (fun ls hl => ?_)
    have hLkL23_6 : ∀ (n23_6 : Nat) (x5 : Int32) (z6 : zz_M) (H : Heap) (locs : List Loc), va_P D vwCl (zw_10 q k z6) H → va_D A (zw_10 q k z6) → va_S A s.heap H locs → ∀ ls : Array Slot, lv_has ls 6 [(0, .ref (q 0)), (1, .int u0), (2, .int u1), (3, .int x5)] → pX10_looks_L23_6 u0 u1 F n23_6 x5 z6 = some o0 → W p l e rmX10_looks s m args below meth c H locs 0 0 Q (F0 m 23 ls []) := by
      intro n23_6
      induction n23_6 with
      | zero =>
        intro x5 z6 H locs hP hD hS ls hl hf
        exact nomatch (show (none : Option _) = some _ from hf)
      | succ n23_6 ihkL23_6 =>
        intro x5 z6 H locs hP hD hS ls hl hf
        rw [pX10_looks_L23_6] at hf
        refine lv_iload_n hx hb dX10_looks_23 rfl (lv_at hl 3 rfl) ?_
        refine lv_iconst (v := (4 : Int32)) hx hb dX10_looks_24 (by decide) ?_
        refine lv_icmp_ge (tgt := 89) hx hb dX10_looks_25 (by decide) (fun c25 => ?_) (fun c25 => ?_)
        · have hf := zz_ps hf c25
          obtain rfl := zz_e1 hf
          exact hret _ _ _ _ dX10_looks_89 hP hD hS
        · have hf := zz_ng hf c25
          refine lv_aload_n hx hb dX10_looks_28 rfl (lv_at hl 0 rfl) ?_
          refine lv_iload_n hx hb dX10_looks_29 rfl (lv_at hl 1 rfl) ?_
          refine lv_iload_n hx hb dX10_looks_30 rfl (lv_at hl 3 rfl) ?_
          obtain ⟨r8, hc9, hf⟩ := zz_b1s hf
          refine zz_ji0 (va_runV (As := [.int u0, .int x5]) (rest := []) hfx (zc_X10_beside l D tb q k F u0 x5 z6 r8 hc9 H.size) (cwV 2 hts gX10_looks_X10_beside rfl rfl rfl (by decide +kernel) ⟨Nat.le_of_ble_eq_true rfl, Nat.le_of_ble_eq_true rfl⟩) (zz_pre0V hK hP hD hS hA hE 0 rfl rfl rfl) rfl rfl hl.1 rfl (lv_room (Nat.le_of_ble_eq_true rfl)) dX10_looks_31 ⟨Nat.zero_le _, Nat.zero_le _⟩) hD hS hA (fun H locs hP hD hS => ?_)
          refine lv_istore (lv' := [(4, .int r8), (0, .ref (q 0)), (1, .int u0), (2, .int u1), (3, .int x5)]) hx hb dX10_looks_34 hl (by decide) rfl (fun ls hl => ?_)
          refine lv_iconst (v := (0 : Int32)) hx hb dX10_looks_36 (by decide) ?_
          refine lv_istore (lv' := [(5, .int (0 : Int32)), (4, .int r8), (0, .ref (q 0)), (1, .int u0), (2, .int u1), (3, .int x5)]) hx hb dX10_looks_37 hl (by decide) rfl (fun ls hl => ?_)
          have hLkL39_12 : ∀ (n39_12 : Nat) (x10 : Int32) (x11 : Int32) (z12 : zz_M) (H : Heap) (locs : List Loc), va_P D vwCl (zw_10 q k z12) H → va_D A (zw_10 q k z12) → va_S A s.heap H locs → ∀ ls : Array Slot, lv_has ls 6 [(0, .ref (q 0)), (1, .int u0), (2, .int u1), (3, .int x5), (4, .int x10), (5, .int x11)] → pX10_looks_L39_12 u1 F x5 (fun b0 b1 => pX10_looks_L23_6 u0 u1 F n23_6 b0 b1) n39_12 x10 x11 z12 = some o0 → W p l e rmX10_looks s m args below meth c H locs 0 0 Q (F0 m 39 ls []) := by
            intro n39_12
            induction n39_12 with
            | zero =>
              intro x10 x11 z12 H locs hP hD hS ls hl hf
              exact nomatch (show (none : Option _) = some _ from hf)
            | succ n39_12 ihkL39_12 =>
              intro x10 x11 z12 H locs hP hD hS ls hl hf
              rw [pX10_looks_L39_12] at hf
              refine lv_iload hx hb dX10_looks_39 (lv_at hl 5 rfl) ?_
              refine lv_iload_n hx hb dX10_looks_41 rfl (lv_at hl 2 rfl) ?_
              obtain ⟨j83_14, hj83_14, hf⟩ := zz_lts hf
              have Kj83_14 : ∀  (H : Heap) (locs : List Loc), va_P D vwCl (zw_10 q k z12) H → va_D A (zw_10 q k z12) → va_S A s.heap H locs → ∀ ls : Array Slot, lv_has ls 6 [(0, .ref (q 0)), (1, .int u0), (2, .int u1), (3, .int x5)] → j83_14 () = some o0 → W p l e rmX10_looks s m args below meth c H locs 0 0 Q (F0 m 83 ls []) := by
                intro  H locs hP hD hS ls hl hf
                rw [hj83_14] at hf
                obtain ⟨v15, hv15, hf⟩ := zz_lts hf
                refine lv_iinc (v := v15) (lv' := [(3, .int v15), (0, .ref (q 0)), (1, .int u0), (2, .int u1)]) hx hb dX10_looks_83 hl (k := 3) rfl (by rw [hv15]; rfl) (by decide) rfl (fun ls hl => ?_)
                refine lv_goto (tgt := 23) hx hb dX10_looks_86 (by decide) ?_
                exact ihkL23_6 v15 z12 _ _ hP hD hS ls (lv_sub hl [1, 2, 3, 0] rfl) hf
              refine lv_icmp_ge (tgt := 83) hx hb dX10_looks_42 (by decide) (fun c42 => ?_) (fun c42 => ?_)
              · have hf := zz_ps hf c42
                exact Kj83_14  _ _ hP hD hS ls (lv_sub hl [0, 1, 2, 3] rfl) hf
              · have hf := zz_ng hf c42
                refine lv_iload hx hb dX10_looks_45 (lv_at hl 4 rfl) ?_
                refine lv_iconst (v := (-1 : Int32)) hx hb dX10_looks_47 (by decide) ?_
                refine lv_icmp_eq (tgt := 83) hx hb dX10_looks_48 (by decide) (fun c48 => ?_) (fun c48 => ?_)
                · have hf := zz_ps hf c48
                  exact Kj83_14  _ _ hP hD hS ls (lv_sub hl [0, 1, 2, 3] rfl) hf
                · have hf := zz_ng hf c48
                  refine lv_aload_n hx hb dX10_looks_51 rfl (lv_at hl 0 rfl) ?_
                  refine va_get (D := D) (ci := 10) (v := .ref (q 3)) (C := RX10) (T := TX10) (N := 34) hx hb hts inX10 hown hK hP 0 rfl rfl 5 (by decide) lk16 (fun _ h9 => h9) rfl dX10_looks_52 ?_
                  refine lv_iload hx hb dX10_looks_55 (lv_at hl 4 rfl) ?_
                  obtain ⟨hg16, hf⟩ := zz_gd hf
                  refine va_iald hx hb hK hP 3 2 rfl rfl hg16 dX10_looks_57 ?_
                  refine lv_iconst (v := (1 : Int32)) hx hb dX10_looks_58 (by decide) ?_
                  refine lv_icmp_eq (tgt := 83) hx hb dX10_looks_59 (by decide) (fun c59 => ?_) (fun c59 => ?_)
                  · have hf := zz_ps hf c59
                    exact Kj83_14  _ _ hP hD hS ls (lv_sub hl [0, 1, 2, 3] rfl) hf
                  · have hf := zz_ng hf c59
                    refine lv_aload_n hx hb dX10_looks_62 rfl (lv_at hl 0 rfl) ?_
                    refine lv_iload hx hb dX10_looks_63 (lv_at hl 4 rfl) ?_
                    obtain ⟨S17, hc18, hf⟩ := zz_b1s hf
                    refine zz_jv0 (va_runV (As := [.int x10]) (rest := []) hfx (zc_X10_marks l D tb q k F x10 z12 S17 hc18 H.size) (cwV 1 hts gX10_looks_X10_marks rfl rfl rfl (by decide +kernel) ⟨Nat.le_of_ble_eq_true rfl, Nat.le_of_ble_eq_true rfl⟩) (zz_pre0V hK hP hD hS hA hE 0 rfl rfl rfl) rfl rfl hl.1 rfl (lv_room (Nat.le_of_ble_eq_true rfl)) dX10_looks_65 ⟨Nat.zero_le _, Nat.zero_le _⟩) hD hS hA (fun H locs hP hD hS => ?_)
                    refine lv_aload_n hx hb dX10_looks_68 rfl (lv_at hl 0 rfl) ?_
                    refine lv_iload hx hb dX10_looks_69 (lv_at hl 4 rfl) ?_
                    refine lv_iload_n hx hb dX10_looks_71 rfl (lv_at hl 3 rfl) ?_
                    obtain ⟨r19, hc20, hf⟩ := zz_b1s hf
                    refine zz_ji0 (va_runV (As := [.int x10, .int x5]) (rest := []) hfx (zc_X10_beside l D tb q k F x10 x5 S17 r19 hc20 H.size) (cwV 2 hts gX10_looks_X10_beside rfl rfl rfl (by decide +kernel) ⟨Nat.le_of_ble_eq_true rfl, Nat.le_of_ble_eq_true rfl⟩) (zz_pre0V hK hP hD hS hA hE 0 rfl rfl rfl) rfl rfl hl.1 rfl (lv_room (Nat.le_of_ble_eq_true rfl)) dX10_looks_72 ⟨Nat.zero_le _, Nat.zero_le _⟩) hD hS hA (fun H locs hP hD hS => ?_)
                    refine lv_istore (lv' := [(4, .int r19), (0, .ref (q 0)), (1, .int u0), (2, .int u1), (3, .int x5), (5, .int x11)]) hx hb dX10_looks_75 hl (by decide) rfl (fun ls hl => ?_)
                    obtain ⟨v21, hv21, hf⟩ := zz_lts hf
                    refine lv_iinc (v := v21) (lv' := [(5, .int v21), (4, .int r19), (0, .ref (q 0)), (1, .int u0), (2, .int u1), (3, .int x5)]) hx hb dX10_looks_77 hl (k := 5) rfl (by rw [hv21]; rfl) (by decide) rfl (fun ls hl => ?_)
                    refine lv_goto (tgt := 39) hx hb dX10_looks_80 (by decide) ?_
                    exact ihkL39_12 r19 v21 S17 _ _ hP hD hS ls (lv_sub hl [2, 3, 4, 5, 1, 0] rfl) hf
          exact hLkL39_12 F r8 (0 : Int32) z6 _ _ hP hD hS ls (lv_sub hl [2, 3, 4, 5, 1, 0] rfl) hf
    exact hLkL23_6 F (0 : Int32) S3 _ _ hP hD hS ls (lv_sub hl [1, 2, 3, 0] rfl) hf
  · have hf := zz_ps hf c12
    obtain rfl := zz_e1 hf
    exact hret _ _ _ _ dX10_looks_15 hP hD hS
def rmX10_walks : Room := { frames := 3, cells := 0, slots := 0, locals := 70 }
set_option maxHeartbeats 4000000 in
set_option maxRecDepth 100000 in
theorem zc_X10_walks (l : Launch) (D : va_G) (tb : Nat → Nat) (q : Nat → Nat) (k : Nat → ClassId) (F : Nat)  (S : zz_M) (o0 : zz_M) (hf : pX10_walks F S = some o0) : zz_Mv l yX10_walks wsX10_walks rmX10_walks D tb [((k 1), .int), ((k 2), .int), ((k 3), .int), ((k 4), .int), ((k 5), .int), ((k 6), .int), ((k 7), .int), ((k 8), .boolean), ((k 9), .int), ((k 10), .int), ((k 11), .int), ((k 12), .int), ((k 13), .int), ((k 14), .int), ((k 15), .int), ((k 16), .boolean), ((k 17), .int), ((k 18), .int), ((k 19), .int), ((k 20), .int)] [.ref (q 0)] (zw_10 q k S) (zw_10 q k o0)  := by
  refine zz_ofv (cc := cX10_walks) (maxL := 4) (by decide) rfl (Nat.le_of_ble_eq_true rfl) ?_
  intro p e s m args below meth c A Q hfx hK hA hE hret H locs hP hD hS ls hl
  obtain ⟨hx, hb, hml, hown, hts⟩ := id hfx
  have inX10 : ∀ w ∈ u_ws RX10 TX10 34, w ∈ wsX10_walks := by decide +kernel
  have lk142 := hts (.fieldLink RX10 142 "CatBeatModel" "startNow" "I") (by decide +kernel)
  have lk88 := hts (.fieldLink RX10 88 "CatBeatModel" "cells" "I") (by decide +kernel)
  have lk35 := hts (.fieldLink RX10 35 "CatBeatModel" "places" "[I") (by decide +kernel)
  have lk31 := hts (.fieldLink RX10 31 "CatBeatModel" "isFog" "[Z") (by decide +kernel)
  have lk75 := hts (.fieldLink RX10 75 "CatBeatModel" "sightNow" "I") (by decide +kernel)
  have lk38 := hts (.fieldLink RX10 38 "CatBeatModel" "low" "[I") (by decide +kernel)
  have lk148 := hts (.fieldLink RX10 148 "CatBeatModel" "lowNow" "I") (by decide +kernel)
  have lk41 := hts (.fieldLink RX10 41 "CatBeatModel" "high" "[I") (by decide +kernel)
  have lk151 := hts (.fieldLink RX10 151 "CatBeatModel" "highNow" "I") (by decide +kernel)
  have lk168 := hts (.fieldLink RX10 168 "CatBeatModel" "round" "I") (by decide +kernel)
  have lk28 := hts (.fieldLink RX10 28 "CatBeatModel" "beatNow" "[I") (by decide +kernel)
  have hl : lv_has ls 4 [(0, .ref (q 0))] := hl
  unfold pX10_walks at hf
  refine lv_aload_n hx hb dX10_walks_0 rfl (lv_at hl 0 rfl) ?_
  refine va_get (D := D) (ci := 10) (v := .int (zz_gI S 5)) (C := RX10) (T := TX10) (N := 34) hx hb hts inX10 hown hK hP 0 rfl rfl 11 (by decide) lk142 (fun _ h9 => h9) rfl dX10_walks_1 ?_
  refine lv_aload_n hx hb dX10_walks_4 rfl (lv_at hl 0 rfl) ?_
  refine va_get (D := D) (ci := 10) (v := .int (zz_gI S 2)) (C := RX10) (T := TX10) (N := 34) hx hb hts inX10 hown hK hP 0 rfl rfl 4 (by decide) lk88 (fun _ h9 => h9) rfl dX10_walks_5 ?_
  obtain ⟨j30_2, hj30_2, hf⟩ := zz_lts hf
  have Kj30_2 : ∀ (y1 : Int32) (H : Heap) (locs : List Loc), va_P D vwCl (zw_10 q k S) H → va_D A (zw_10 q k S) → va_S A s.heap H locs → ∀ ls : Array Slot, lv_has ls 4 [(0, .ref (q 0))] → j30_2 y1 = some o0 → W p l e rmX10_walks s m args below meth c H locs 0 0 Q (F0 m 30 ls [.int y1]) := by
    intro y1 H locs hP hD hS ls hl hf
    rw [hj30_2] at hf
    refine lv_istore_n (lv' := [(1, .int y1), (0, .ref (q 0))]) hx hb dX10_walks_30 rfl hl (by decide) rfl (fun ls hl => ?_)
    refine lv_iconst (v := (0 : Int32)) hx hb dX10_walks_31 (by decide) ?_
    refine lv_istore_n (lv' := [(2, .int (0 : Int32)), (1, .int y1), (0, .ref (q 0))]) hx hb dX10_walks_32 rfl hl (by decide) rfl (fun ls hl => ?_)
    have hLkL33_5 : ∀ (n33_5 : Nat) (x3 : Int32) (x4 : Int32) (z5 : zz_M) (H : Heap) (locs : List Loc), va_P D vwCl (zw_10 q k z5) H → va_D A (zw_10 q k z5) → va_S A s.heap H locs → ∀ ls : Array Slot, lv_has ls 4 [(0, .ref (q 0)), (1, .int x3), (2, .int x4)] → pX10_walks_L33_5 F n33_5 x3 x4 z5 = some o0 → W p l e rmX10_walks s m args below meth c H locs 0 0 Q (F0 m 33 ls []) := by
      intro n33_5
      induction n33_5 with
      | zero =>
        intro x3 x4 z5 H locs hP hD hS ls hl hf
        exact nomatch (show (none : Option _) = some _ from hf)
      | succ n33_5 ihkL33_5 =>
        intro x3 x4 z5 H locs hP hD hS ls hl hf
        rw [pX10_walks_L33_5] at hf
        refine lv_iload_n hx hb dX10_walks_33 rfl (lv_at hl 2 rfl) ?_
        refine lv_bipush (v := (96 : Int32)) hx hb dX10_walks_34 (by decide) ?_
        refine lv_icmp_ge (tgt := 150) hx hb dX10_walks_36 (by decide) (fun c36 => ?_) (fun c36 => ?_)
        · have hf := zz_ps hf c36
          refine lv_aload_n hx hb dX10_walks_150 rfl (lv_at hl 0 rfl) ?_
          refine va_get (D := D) (ci := 10) (v := .ref (q 9)) (C := RX10) (T := TX10) (N := 34) hx hb hts inX10 hown hK hP 0 rfl rfl 18 (by decide) lk35 (fun _ h9 => h9) rfl dX10_walks_151 ?_
          refine lv_bipush (v := (96 : Int32)) hx hb dX10_walks_154 (by decide) ?_
          refine lv_iload_n hx hb dX10_walks_156 rfl (lv_at hl 1 rfl) ?_
          obtain ⟨S7, hS7, hf⟩ := zz_lts hf
          refine va_iast hx hb hK hP hD hS 9 8 rfl rfl (show zz_in (96 : Int32) 97 by decide) dX10_walks_157 (fun H locs hP hD hS => ?_)
          have hP : va_P D vwCl (zw_10 q k S7) H := by rw [hS7]; exact hP
          have hD : va_D A (zw_10 q k S7) := by rw [hS7]; exact hD
          obtain rfl := zz_e1 hf
          exact hret _ _ _ _ dX10_walks_158 hP hD hS
        · have hf := zz_ng hf c36
          refine lv_aload_n hx hb dX10_walks_39 rfl (lv_at hl 0 rfl) ?_
          refine va_get (D := D) (ci := 10) (v := .ref (q 9)) (C := RX10) (T := TX10) (N := 34) hx hb hts inX10 hown hK hP 0 rfl rfl 18 (by decide) lk35 (fun _ h9 => h9) rfl dX10_walks_40 ?_
          refine lv_iload_n hx hb dX10_walks_43 rfl (lv_at hl 2 rfl) ?_
          refine lv_iload_n hx hb dX10_walks_44 rfl (lv_at hl 1 rfl) ?_
          obtain ⟨hg8, hf⟩ := zz_gd hf
          obtain ⟨S9, hS9, hf⟩ := zz_lts hf
          refine va_iast hx hb hK hP hD hS 9 8 rfl rfl hg8 dX10_walks_45 (fun H locs hP hD hS => ?_)
          have hP : va_P D vwCl (zw_10 q k S9) H := by rw [hS9]; exact hP
          have hD : va_D A (zw_10 q k S9) := by rw [hS9]; exact hD
          refine lv_aload_n hx hb dX10_walks_46 rfl (lv_at hl 0 rfl) ?_
          refine lv_iload_n hx hb dX10_walks_47 rfl (lv_at hl 1 rfl) ?_
          refine lv_aload_n hx hb dX10_walks_48 rfl (lv_at hl 0 rfl) ?_
          refine va_get (D := D) (ci := 10) (v := .ref (q 8)) (C := RX10) (T := TX10) (N := 34) hx hb hts inX10 hown hK hP 0 rfl rfl 17 (by decide) lk31 (fun _ h9 => h9) rfl dX10_walks_49 ?_
          refine lv_iload_n hx hb dX10_walks_52 rfl (lv_at hl 2 rfl) ?_
          obtain ⟨hg10, hf⟩ := zz_gd hf
          refine va_zald hx hb hK hP 8 7 rfl rfl hg10 dX10_walks_53 ?_
          obtain ⟨v11, hv11, hf⟩ := zz_lts hf
          have hK12 : ∀ ls : Array Slot, lv_has ls 4 [(0, .ref (q 0)), (1, .int x3), (2, .int x4)] → W p l e rmX10_walks s m args below meth c H locs 0 0 Q (F0 m 73 ls [.int v11, .int x3, .ref (q 0)]) := by
            intro ls hl
            obtain ⟨S13, hc14, hf⟩ := zz_b1s hf
            refine zz_jv0 (va_runV (As := [.int x3, .int v11]) (rest := []) hfx (zc_X10_looks l D tb q k F x3 v11 S9 S13 hc14 H.size) (cwV 2 hts gX10_walks_X10_looks rfl rfl rfl (by decide +kernel) ⟨Nat.le_of_ble_eq_true rfl, Nat.le_of_ble_eq_true rfl⟩) (zz_pre0V hK hP hD hS hA hE 0 rfl rfl rfl) rfl rfl hl.1 rfl (lv_room (Nat.le_of_ble_eq_true rfl)) dX10_walks_73 ⟨Nat.zero_le _, Nat.zero_le _⟩) hD hS hA (fun H locs hP hD hS => ?_)
            refine lv_aload_n hx hb dX10_walks_76 rfl (lv_at hl 0 rfl) ?_
            refine va_get (D := D) (ci := 10) (v := .ref (q 10)) (C := RX10) (T := TX10) (N := 34) hx hb hts inX10 hown hK hP 0 rfl rfl 19 (by decide) lk38 (fun _ h9 => h9) rfl dX10_walks_77 ?_
            refine lv_iload_n hx hb dX10_walks_80 rfl (lv_at hl 2 rfl) ?_
            refine lv_aload_n hx hb dX10_walks_81 rfl (lv_at hl 0 rfl) ?_
            refine va_get (D := D) (ci := 10) (v := .int (zz_gI S13 10)) (C := RX10) (T := TX10) (N := 34) hx hb hts inX10 hown hK hP 0 rfl rfl 21 (by decide) lk148 (fun _ h9 => h9) rfl dX10_walks_82 ?_
            obtain ⟨hg15, hf⟩ := zz_gd hf
            obtain ⟨S16, hS16, hf⟩ := zz_lts hf
            refine va_iast hx hb hK hP hD hS 10 9 rfl rfl hg15 dX10_walks_85 (fun H locs hP hD hS => ?_)
            have hP : va_P D vwCl (zw_10 q k S16) H := by rw [hS16]; exact hP
            have hD : va_D A (zw_10 q k S16) := by rw [hS16]; exact hD
            refine lv_aload_n hx hb dX10_walks_86 rfl (lv_at hl 0 rfl) ?_
            refine va_get (D := D) (ci := 10) (v := .ref (q 11)) (C := RX10) (T := TX10) (N := 34) hx hb hts inX10 hown hK hP 0 rfl rfl 20 (by decide) lk41 (fun _ h9 => h9) rfl dX10_walks_87 ?_
            refine lv_iload_n hx hb dX10_walks_90 rfl (lv_at hl 2 rfl) ?_
            refine lv_aload_n hx hb dX10_walks_91 rfl (lv_at hl 0 rfl) ?_
            refine va_get (D := D) (ci := 10) (v := .int (zz_gI S16 11)) (C := RX10) (T := TX10) (N := 34) hx hb hts inX10 hown hK hP 0 rfl rfl 22 (by decide) lk151 (fun _ h9 => h9) rfl dX10_walks_92 ?_
            obtain ⟨hg17, hf⟩ := zz_gd hf
            obtain ⟨S18, hS18, hf⟩ := zz_lts hf
            refine va_iast hx hb hK hP hD hS 11 10 rfl rfl hg17 dX10_walks_95 (fun H locs hP hD hS => ?_)
            have hP : va_P D vwCl (zw_10 q k S18) H := by rw [hS18]; exact hP
            have hD : va_D A (zw_10 q k S18) := by rw [hS18]; exact hD
            refine lv_iload_n hx hb dX10_walks_96 rfl (lv_at hl 1 rfl) ?_
            refine lv_iconst (v := (-1 : Int32)) hx hb dX10_walks_97 (by decide) ?_
            obtain ⟨j144_20, hj144_20, hf⟩ := zz_lts hf
            have Kj144_20 : ∀ (x19 : Int32) (H : Heap) (locs : List Loc), va_P D vwCl (zw_10 q k S18) H → va_D A (zw_10 q k S18) → va_S A s.heap H locs → ∀ ls : Array Slot, lv_has ls 4 [(0, .ref (q 0)), (2, .int x4), (1, .int x19)] → j144_20 x19 = some o0 → W p l e rmX10_walks s m args below meth c H locs 0 0 Q (F0 m 144 ls []) := by
              intro x19 H locs hP hD hS ls hl hf
              rw [hj144_20] at hf
              obtain ⟨v21, hv21, hf⟩ := zz_lts hf
              refine lv_iinc (v := v21) (lv' := [(2, .int v21), (0, .ref (q 0)), (1, .int x19)]) hx hb dX10_walks_144 hl (k := 1) rfl (by rw [hv21]; rfl) (by decide) rfl (fun ls hl => ?_)
              refine lv_goto (tgt := 33) hx hb dX10_walks_147 (by decide) ?_
              exact ihkL33_5 x19 v21 S18 _ _ hP hD hS ls (lv_sub hl [1, 2, 0] rfl) hf
            refine lv_icmp_eq (tgt := 144) hx hb dX10_walks_98 (by decide) (fun c98 => ?_) (fun c98 => ?_)
            · have hf := zz_ps hf c98
              exact Kj144_20 x3 _ _ hP hD hS ls (lv_sub hl [0, 2, 1] rfl) hf
            · have hf := zz_ng hf c98
              refine lv_aload_n hx hb dX10_walks_101 rfl (lv_at hl 0 rfl) ?_
              refine va_get (D := D) (ci := 10) (v := .int (zz_gI S18 9)) (C := RX10) (T := TX10) (N := 34) hx hb hts inX10 hown hK hP 0 rfl rfl 15 (by decide) lk168 (fun _ h9 => h9) rfl dX10_walks_102 ?_
              refine lv_if_le (tgt := 144) hx hb dX10_walks_105 (by decide) (fun c105 => ?_) (fun c105 => ?_)
              · have hf := zz_ps hf c105
                exact Kj144_20 x3 _ _ hP hD hS ls (lv_sub hl [0, 2, 1] rfl) hf
              · have hf := zz_ng hf c105
                refine lv_aload_n hx hb dX10_walks_108 rfl (lv_at hl 0 rfl) ?_
                refine lv_iload_n hx hb dX10_walks_109 rfl (lv_at hl 1 rfl) ?_
                refine lv_aload_n hx hb dX10_walks_110 rfl (lv_at hl 0 rfl) ?_
                refine va_get (D := D) (ci := 10) (v := .ref (q 7)) (C := RX10) (T := TX10) (N := 34) hx hb hts inX10 hown hK hP 0 rfl rfl 16 (by decide) lk28 (fun _ h9 => h9) rfl dX10_walks_111 ?_
                refine lv_iload_n hx hb dX10_walks_114 rfl (lv_at hl 2 rfl) ?_
                refine lv_aload_n hx hb dX10_walks_115 rfl (lv_at hl 0 rfl) ?_
                refine va_get (D := D) (ci := 10) (v := .int (zz_gI S18 9)) (C := RX10) (T := TX10) (N := 34) hx hb hts inX10 hown hK hP 0 rfl rfl 15 (by decide) lk168 (fun _ h9 => h9) rfl dX10_walks_116 ?_
                obtain ⟨hg22, hf⟩ := zz_gd hf
                refine lv_irem hx hb dX10_walks_119 hg22 ?_
                obtain ⟨hg23, hf⟩ := zz_gd hf
                refine va_iald hx hb hK hP 7 6 rfl rfl hg23 dX10_walks_120 ?_
                obtain ⟨r24, hc25, hf⟩ := zz_b1s hf
                refine zz_ji0 (va_runV (As := [.int x3, .int ((zz_gA S18 6) (Int32.toNatClampNeg (x4 - x4 / (zz_gI S18 9) * (zz_gI S18 9))))]) (rest := []) hfx (zc_X10_beside l D tb q k F x3 ((zz_gA S18 6) (Int32.toNatClampNeg (x4 - x4 / (zz_gI S18 9) * (zz_gI S18 9)))) S18 r24 hc25 H.size) (cwV 2 hts gX10_walks_X10_beside rfl rfl rfl (by decide +kernel) ⟨Nat.le_of_ble_eq_true rfl, Nat.le_of_ble_eq_true rfl⟩) (zz_pre0V hK hP hD hS hA hE 0 rfl rfl rfl) rfl rfl hl.1 rfl (lv_room (Nat.le_of_ble_eq_true rfl)) dX10_walks_121 ⟨Nat.zero_le _, Nat.zero_le _⟩) hD hS hA (fun H locs hP hD hS => ?_)
                refine lv_istore_n (lv' := [(3, .int r24), (0, .ref (q 0)), (1, .int x3), (2, .int x4)]) hx hb dX10_walks_124 rfl hl (by decide) rfl (fun ls hl => ?_)
                refine lv_iload_n hx hb dX10_walks_125 rfl (lv_at hl 0 rfl) ?_
                refine lv_iconst (v := (-1 : Int32)) hx hb dX10_walks_126 (by decide) ?_
                obtain ⟨j143_27, hj143_27, hf⟩ := zz_lts hf
                have Kj143_27 : ∀ (y26 : Int32) (H : Heap) (locs : List Loc), va_P D vwCl (zw_10 q k S18) H → va_D A (zw_10 q k S18) → va_S A s.heap H locs → ∀ ls : Array Slot, lv_has ls 4 [(0, .ref (q 0)), (2, .int x4)] → j143_27 y26 = some o0 → W p l e rmX10_walks s m args below meth c H locs 0 0 Q (F0 m 143 ls [.int y26]) := by
                  intro y26 H locs hP hD hS ls hl hf
                  rw [hj143_27] at hf
                  refine lv_istore_n (lv' := [(1, .int y26), (0, .ref (q 0)), (2, .int x4)]) hx hb dX10_walks_143 rfl hl (by decide) rfl (fun ls hl => ?_)
                  exact Kj144_20 y26 _ _ hP hD hS ls (lv_sub hl [1, 2, 0] rfl) hf
                obtain ⟨j142_28, hj142_28, hf⟩ := zz_lts hf
                have Kj142_28 : ∀  (H : Heap) (locs : List Loc), va_P D vwCl (zw_10 q k S18) H → va_D A (zw_10 q k S18) → va_S A s.heap H locs → ∀ ls : Array Slot, lv_has ls 4 [(0, .ref (q 0)), (1, .int x3), (2, .int x4)] → j142_28 () = some o0 → W p l e rmX10_walks s m args below meth c H locs 0 0 Q (F0 m 142 ls []) := by
                  intro  H locs hP hD hS ls hl hf
                  rw [hj142_28] at hf
                  refine lv_iload_n hx hb dX10_walks_142 rfl (lv_at hl 1 rfl) ?_
                  exact Kj143_27 x3 _ _ hP hD hS ls (lv_sub hl [0, 2] rfl) hf
                refine lv_icmp_eq (tgt := 142) hx hb dX10_walks_127 (by decide) (fun c127 => ?_) (fun c127 => ?_)
                · have hf := zz_ps hf c127
                  exact Kj142_28  _ _ hP hD hS ls (lv_sub hl [1, 2, 3] rfl) hf
                · have hf := zz_ng hf c127
                  refine lv_aload_n hx hb dX10_walks_130 rfl (lv_at hl 1 rfl) ?_
                  refine lv_iload_n hx hb dX10_walks_131 rfl (lv_at hl 0 rfl) ?_
                  obtain ⟨r29, hc30, hf⟩ := zz_b1s hf
                  refine zz_ji0 (va_runV (As := [.int r24]) (rest := []) hfx (zc_X10_isFor l D tb q k F r24 S18 r29 hc30 H.size) (cwV 1 hts gX10_walks_X10_isFor rfl rfl rfl (by decide +kernel) ⟨Nat.le_of_ble_eq_true rfl, Nat.le_of_ble_eq_true rfl⟩) (zz_pre0V hK hP hD hS hA hE 0 rfl rfl rfl) rfl rfl hl.1 rfl (lv_room (Nat.le_of_ble_eq_true rfl)) dX10_walks_132 ⟨Nat.zero_le _, Nat.zero_le _⟩) hD hS hA (fun H locs hP hD hS => ?_)
                  refine lv_if_eq (tgt := 142) hx hb dX10_walks_135 (by decide) (fun c135 => ?_) (fun c135 => ?_)
                  · have hf := zz_ps hf c135
                    exact Kj142_28  _ _ hP hD hS ls (lv_sub hl [1, 2, 3] rfl) hf
                  · have hf := zz_ng hf c135
                    refine lv_iload_n hx hb dX10_walks_138 rfl (lv_at hl 0 rfl) ?_
                    refine lv_goto (tgt := 143) hx hb dX10_walks_139 (by decide) ?_
                    exact Kj143_27 r24 _ _ hP hD hS ls (lv_sub hl [1, 3] rfl) hf
          refine lv_if_eq (tgt := 69) hx hb dX10_walks_54 (by decide) (fun c54 => ?_) (fun c54 => ?_)
          · refine lv_aload_n hx hb dX10_walks_69 rfl (lv_at hl 0 rfl) ?_
            refine va_get (D := D) (ci := 10) (v := .int (zz_gI S9 7)) (C := RX10) (T := TX10) (N := 34) hx hb hts inX10 hown hK hP 0 rfl rfl 13 (by decide) lk75 (fun _ h9 => h9) rfl dX10_walks_70 ?_
            refine zz_ti (show v11 = (zz_gI S9 7) by rw [hv11, if_pos c54]) ?_
            exact hK12 ls (lv_sub hl [0, 1, 2] rfl)
          · refine lv_aload_n hx hb dX10_walks_57 rfl (lv_at hl 0 rfl) ?_
            refine va_get (D := D) (ci := 10) (v := .int (zz_gI S9 7)) (C := RX10) (T := TX10) (N := 34) hx hb hts inX10 hown hK hP 0 rfl rfl 13 (by decide) lk75 (fun _ h9 => h9) rfl dX10_walks_58 ?_
            refine lv_iconst (v := (1 : Int32)) hx hb dX10_walks_61 (by decide) ?_
            refine lv_icmp_le (tgt := 69) hx hb dX10_walks_62 (by decide) (fun c62 => ?_) (fun c62 => ?_)
            · refine lv_aload_n hx hb dX10_walks_69 rfl (lv_at hl 0 rfl) ?_
              refine va_get (D := D) (ci := 10) (v := .int (zz_gI S9 7)) (C := RX10) (T := TX10) (N := 34) hx hb hts inX10 hown hK hP 0 rfl rfl 13 (by decide) lk75 (fun _ h9 => h9) rfl dX10_walks_70 ?_
              refine zz_ti (show v11 = (zz_gI S9 7) by rw [hv11, if_neg c54, if_pos c62]) ?_
              exact hK12 ls (lv_sub hl [0, 1, 2] rfl)
            · refine lv_iconst (v := (1 : Int32)) hx hb dX10_walks_65 (by decide) ?_
              refine lv_goto (tgt := 73) hx hb dX10_walks_66 (by decide) ?_
              refine zz_ti (show v11 = (1 : Int32) by rw [hv11, if_neg c54, if_neg c62]) ?_
              exact hK12 ls (lv_sub hl [0, 1, 2] rfl)
    exact hLkL33_5 F y1 (0 : Int32) S _ _ hP hD hS ls (lv_sub hl [2, 1, 0] rfl) hf
  obtain ⟨j29_31, hj29_31, hf⟩ := zz_lts hf
  have Kj29_31 : ∀  (H : Heap) (locs : List Loc), va_P D vwCl (zw_10 q k S) H → va_D A (zw_10 q k S) → va_S A s.heap H locs → ∀ ls : Array Slot, lv_has ls 4 [(0, .ref (q 0))] → j29_31 () = some o0 → W p l e rmX10_walks s m args below meth c H locs 0 0 Q (F0 m 29 ls []) := by
    intro  H locs hP hD hS ls hl hf
    rw [hj29_31] at hf
    refine lv_iconst (v := (-1 : Int32)) hx hb dX10_walks_29 (by decide) ?_
    exact Kj30_2 (-1 : Int32) _ _ hP hD hS ls (lv_sub hl [0] rfl) hf
  refine lv_icmp_ge (tgt := 29) hx hb dX10_walks_8 (by decide) (fun c8 => ?_) (fun c8 => ?_)
  · have hf := zz_ps hf c8
    exact Kj29_31  _ _ hP hD hS ls (lv_sub hl [0] rfl) hf
  · have hf := zz_ng hf c8
    refine lv_aload_n hx hb dX10_walks_11 rfl (lv_at hl 0 rfl) ?_
    refine lv_aload_n hx hb dX10_walks_12 rfl (lv_at hl 0 rfl) ?_
    refine va_get (D := D) (ci := 10) (v := .int (zz_gI S 5)) (C := RX10) (T := TX10) (N := 34) hx hb hts inX10 hown hK hP 0 rfl rfl 11 (by decide) lk142 (fun _ h9 => h9) rfl dX10_walks_13 ?_
    obtain ⟨r32, hc33, hf⟩ := zz_b1s hf
    refine zz_ji0 (va_runV (As := [.int (zz_gI S 5)]) (rest := []) hfx (zc_X10_isFor l D tb q k F (zz_gI S 5) S r32 hc33 H.size) (cwV 1 hts gX10_walks_X10_isFor rfl rfl rfl (by decide +kernel) ⟨Nat.le_of_ble_eq_true rfl, Nat.le_of_ble_eq_true rfl⟩) (zz_pre0V hK hP hD hS hA hE 0 rfl rfl rfl) rfl rfl hl.1 rfl (lv_room (Nat.le_of_ble_eq_true rfl)) dX10_walks_16 ⟨Nat.zero_le _, Nat.zero_le _⟩) hD hS hA (fun H locs hP hD hS => ?_)
    refine lv_if_eq (tgt := 29) hx hb dX10_walks_19 (by decide) (fun c19 => ?_) (fun c19 => ?_)
    · have hf := zz_ps hf c19
      exact Kj29_31  _ _ hP hD hS ls (lv_sub hl [0] rfl) hf
    · have hf := zz_ng hf c19
      refine lv_aload_n hx hb dX10_walks_22 rfl (lv_at hl 0 rfl) ?_
      refine va_get (D := D) (ci := 10) (v := .int (zz_gI S 5)) (C := RX10) (T := TX10) (N := 34) hx hb hts inX10 hown hK hP 0 rfl rfl 11 (by decide) lk142 (fun _ h9 => h9) rfl dX10_walks_23 ?_
      refine lv_goto (tgt := 30) hx hb dX10_walks_26 (by decide) ?_
      exact Kj30_2 (zz_gI S 5) _ _ hP hD hS ls (lv_sub hl [0] rfl) hf
def rmX10_asTold : Room := { frames := 5, cells := 0, slots := 0, locals := 115 }
set_option maxHeartbeats 4000000 in
set_option maxRecDepth 100000 in
theorem zc_X10_asTold (l : Launch) (D : va_G) (tb : Nat → Nat) (q : Nat → Nat) (k : Nat → ClassId) (F : Nat)  (S : zz_M) (o0 : zz_M) (hf : pX10_asTold F S = some o0) : zz_Mv l yX10_asTold wsX10_asTold rmX10_asTold D tb [((k 1), .int), ((k 2), .int), ((k 3), .int), ((k 4), .int), ((k 5), .int), ((k 6), .int), ((k 7), .int), ((k 8), .boolean), ((k 9), .int), ((k 10), .int), ((k 11), .int), ((k 12), .int), ((k 13), .int), ((k 14), .int), ((k 15), .int), ((k 16), .boolean), ((k 17), .int), ((k 18), .int), ((k 19), .int), ((k 20), .int)] [.ref (q 0)] (zw_10 q k S) (zw_10 q k o0)  := by
  refine zz_ofv (cc := cX10_asTold) (maxL := 2) (by decide) rfl (Nat.le_of_ble_eq_true rfl) ?_
  intro p e s m args below meth c A Q hfx hK hA hE hret H locs hP hD hS ls hl
  obtain ⟨hx, hb, hml, hown, hts⟩ := id hfx
  have inX10 : ∀ w ∈ u_ws RX10 TX10 34, w ∈ wsX10_asTold := by decide +kernel
  have lk101 := hts (.fieldLink RX10 101 "CatBeatModel" "steps" "I") (by decide +kernel)
  have lk168 := hts (.fieldLink RX10 168 "CatBeatModel" "round" "I") (by decide +kernel)
  have lk31 := hts (.fieldLink RX10 31 "CatBeatModel" "isFog" "[Z") (by decide +kernel)
  have lk145 := hts (.fieldLink RX10 145 "CatBeatModel" "fogNow" "I") (by decide +kernel)
  have lk28 := hts (.fieldLink RX10 28 "CatBeatModel" "beatNow" "[I") (by decide +kernel)
  have lk19 := hts (.fieldLink RX10 19 "CatBeatModel" "beatTold" "[I") (by decide +kernel)
  have hl : lv_has ls 2 [(0, .ref (q 0))] := hl
  unfold pX10_asTold at hf
  refine lv_aload_n hx hb dX10_asTold_0 rfl (lv_at hl 0 rfl) ?_
  obtain ⟨S1, hc2, hf⟩ := zz_b1s hf
  refine zz_jv0 (va_runV (As := []) (rest := []) hfx (zc_X10_reads l D tb q k F  S S1 hc2 H.size) (cwV 0 hts gX10_asTold_X10_reads rfl rfl rfl (by decide +kernel) ⟨Nat.le_of_ble_eq_true rfl, Nat.le_of_ble_eq_true rfl⟩) (zz_pre0V hK hP hD hS hA hE 0 rfl rfl rfl) rfl rfl hl.1 rfl (lv_room (Nat.le_of_ble_eq_true rfl)) dX10_asTold_1 ⟨Nat.zero_le _, Nat.zero_le _⟩) hD hS hA (fun H locs hP hD hS => ?_)
  refine lv_aload_n hx hb dX10_asTold_4 rfl (lv_at hl 0 rfl) ?_
  refine lv_aload_n hx hb dX10_asTold_5 rfl (lv_at hl 0 rfl) ?_
  refine va_get (D := D) (ci := 10) (v := .int (zz_gI S1 3)) (C := RX10) (T := TX10) (N := 34) hx hb hts inX10 hown hK hP 0 rfl rfl 6 (by decide) lk101 (fun _ h9 => h9) rfl dX10_asTold_6 ?_
  obtain ⟨S3, hS3, hf⟩ := zz_lts hf
  refine va_put (D := D) (ci := 10) (v := .int (zz_gI S1 3)) (ty := .int) (C := RX10) (T := TX10) (N := 34) hx hb hts inX10 tyX10 tyX10_ok nmX10 hown hK hP hD hS 0 rfl rfl 15 (by decide) lk168 (fun _ h9 => h9) rfl (by decide +kernel) rfl rfl (Nat.le_of_ble_eq_true rfl) dX10_asTold_9 (fun H locs hP hD hS => ?_)
  have hP : va_P D vwCl (zw_10 q k S3) H := by rw [hS3]; exact hP
  have hD : va_D A (zw_10 q k S3) := by rw [hS3]; exact hD
  refine lv_iconst (v := (0 : Int32)) hx hb dX10_asTold_12 (by decide) ?_
  refine lv_istore_n (lv' := [(1, .int (0 : Int32)), (0, .ref (q 0))]) hx hb dX10_asTold_13 rfl hl (by decide) rfl (fun ls hl => ?_)
  have hLkL14_5 : ∀ (n14_5 : Nat) (x4 : Int32) (z5 : zz_M) (H : Heap) (locs : List Loc), va_P D vwCl (zw_10 q k z5) H → va_D A (zw_10 q k z5) → va_S A s.heap H locs → ∀ ls : Array Slot, lv_has ls 2 [(0, .ref (q 0)), (1, .int x4)] → pX10_asTold_L14_5 F n14_5 x4 z5 = some o0 → W p l e rmX10_asTold s m args below meth c H locs 0 0 Q (F0 m 14 ls []) := by
    intro n14_5
    induction n14_5 with
    | zero =>
      intro x4 z5 H locs hP hD hS ls hl hf
      exact nomatch (show (none : Option _) = some _ from hf)
    | succ n14_5 ihkL14_5 =>
      intro x4 z5 H locs hP hD hS ls hl hf
      rw [pX10_asTold_L14_5] at hf
      refine lv_iload_n hx hb dX10_asTold_14 rfl (lv_at hl 1 rfl) ?_
      refine lv_aload_n hx hb dX10_asTold_15 rfl (lv_at hl 0 rfl) ?_
      refine va_get (D := D) (ci := 10) (v := .int (zz_gI z5 3)) (C := RX10) (T := TX10) (N := 34) hx hb hts inX10 hown hK hP 0 rfl rfl 6 (by decide) lk101 (fun _ h9 => h9) rfl dX10_asTold_16 ?_
      refine lv_icmp_ge (tgt := 40) hx hb dX10_asTold_19 (by decide) (fun c19 => ?_) (fun c19 => ?_)
      · have hf := zz_ps hf c19
        refine lv_iconst (v := (0 : Int32)) hx hb dX10_asTold_40 (by decide) ?_
        refine lv_istore_n (lv' := [(1, .int (0 : Int32)), (0, .ref (q 0))]) hx hb dX10_asTold_41 rfl hl (by decide) rfl (fun ls hl => ?_)
        have hLkL42_8 : ∀ (n42_8 : Nat) (x7 : Int32) (z8 : zz_M) (H : Heap) (locs : List Loc), va_P D vwCl (zw_10 q k z8) H → va_D A (zw_10 q k z8) → va_S A s.heap H locs → ∀ ls : Array Slot, lv_has ls 2 [(0, .ref (q 0)), (1, .int x7)] → pX10_asTold_L42_8  n42_8 x7 z8 = some o0 → W p l e rmX10_asTold s m args below meth c H locs 0 0 Q (F0 m 42 ls []) := by
          intro n42_8
          induction n42_8 with
          | zero =>
            intro x7 z8 H locs hP hD hS ls hl hf
            exact nomatch (show (none : Option _) = some _ from hf)
          | succ n42_8 ihkL42_8 =>
            intro x7 z8 H locs hP hD hS ls hl hf
            rw [pX10_asTold_L42_8] at hf
            refine lv_iload_n hx hb dX10_asTold_42 rfl (lv_at hl 1 rfl) ?_
            refine lv_bipush (v := (96 : Int32)) hx hb dX10_asTold_43 (by decide) ?_
            refine lv_icmp_ge (tgt := 73) hx hb dX10_asTold_45 (by decide) (fun c45 => ?_) (fun c45 => ?_)
            · have hf := zz_ps hf c45
              obtain rfl := zz_e1 hf
              exact hret _ _ _ _ dX10_asTold_73 hP hD hS
            · have hf := zz_ng hf c45
              refine lv_aload_n hx hb dX10_asTold_48 rfl (lv_at hl 0 rfl) ?_
              refine va_get (D := D) (ci := 10) (v := .ref (q 8)) (C := RX10) (T := TX10) (N := 34) hx hb hts inX10 hown hK hP 0 rfl rfl 17 (by decide) lk31 (fun _ h9 => h9) rfl dX10_asTold_49 ?_
              refine lv_iload_n hx hb dX10_asTold_52 rfl (lv_at hl 1 rfl) ?_
              refine lv_aload_n hx hb dX10_asTold_53 rfl (lv_at hl 0 rfl) ?_
              refine va_get (D := D) (ci := 10) (v := .int (zz_gI z8 8)) (C := RX10) (T := TX10) (N := 34) hx hb hts inX10 hown hK hP 0 rfl rfl 14 (by decide) lk145 (fun _ h9 => h9) rfl dX10_asTold_54 ?_
              refine lv_iconst (v := (1 : Int32)) hx hb dX10_asTold_57 (by decide) ?_
              obtain ⟨v10, hv10, hf⟩ := zz_lts hf
              have hK11 : ∀ ls : Array Slot, lv_has ls 2 [(0, .ref (q 0)), (1, .int x7)] → W p l e rmX10_asTold s m args below meth c H locs 0 0 Q (F0 m 66 ls [.int v10, .int x7, .ref (q 8)]) := by
                intro ls hl
                obtain ⟨hg12, hf⟩ := zz_gd hf
                obtain ⟨S13, hS13, hf⟩ := zz_lts hf
                refine va_zast hx hb hK hP hD hS 8 7 rfl rfl hg12 dX10_asTold_66 (fun H locs hP hD hS => ?_)
                have hP : va_P D vwCl (zw_10 q k S13) H := by rw [hS13]; exact hP
                have hD : va_D A (zw_10 q k S13) := by rw [hS13]; exact hD
                obtain ⟨v14, hv14, hf⟩ := zz_lts hf
                refine lv_iinc (v := v14) (lv' := [(1, .int v14), (0, .ref (q 0))]) hx hb dX10_asTold_67 hl (k := 1) rfl (by rw [hv14]; rfl) (by decide) rfl (fun ls hl => ?_)
                refine lv_goto (tgt := 42) hx hb dX10_asTold_70 (by decide) ?_
                exact ihkL42_8 v14 S13 _ _ hP hD hS ls (lv_sub hl [1, 0] rfl) hf
              refine lv_icmp_ne (tgt := 65) hx hb dX10_asTold_58 (by decide) (fun c58 => ?_) (fun c58 => ?_)
              · refine lv_iconst (v := (0 : Int32)) hx hb dX10_asTold_65 (by decide) ?_
                refine zz_ti (show v10 = (0 : Int32) by rw [hv10, if_neg c58]) ?_
                exact hK11 ls (lv_sub hl [0, 1] rfl)
              · refine lv_iconst (v := (1 : Int32)) hx hb dX10_asTold_61 (by decide) ?_
                refine lv_goto (tgt := 66) hx hb dX10_asTold_62 (by decide) ?_
                refine zz_ti (show v10 = (1 : Int32) by rw [hv10, if_pos c58]) ?_
                exact hK11 ls (lv_sub hl [0, 1] rfl)
        exact hLkL42_8 F (0 : Int32) z5 _ _ hP hD hS ls (lv_sub hl [1, 0] rfl) hf
      · have hf := zz_ng hf c19
        refine lv_aload_n hx hb dX10_asTold_22 rfl (lv_at hl 0 rfl) ?_
        refine va_get (D := D) (ci := 10) (v := .ref (q 7)) (C := RX10) (T := TX10) (N := 34) hx hb hts inX10 hown hK hP 0 rfl rfl 16 (by decide) lk28 (fun _ h9 => h9) rfl dX10_asTold_23 ?_
        refine lv_iload_n hx hb dX10_asTold_26 rfl (lv_at hl 1 rfl) ?_
        refine lv_aload_n hx hb dX10_asTold_27 rfl (lv_at hl 0 rfl) ?_
        refine va_get (D := D) (ci := 10) (v := .ref (q 4)) (C := RX10) (T := TX10) (N := 34) hx hb hts inX10 hown hK hP 0 rfl rfl 7 (by decide) lk19 (fun _ h9 => h9) rfl dX10_asTold_28 ?_
        refine lv_iload_n hx hb dX10_asTold_31 rfl (lv_at hl 1 rfl) ?_
        obtain ⟨hg15, hf⟩ := zz_gd hf
        refine va_iald hx hb hK hP 4 3 rfl rfl hg15 dX10_asTold_32 ?_
        obtain ⟨hg16, hf⟩ := zz_gd hf
        obtain ⟨S17, hS17, hf⟩ := zz_lts hf
        refine va_iast hx hb hK hP hD hS 7 6 rfl rfl hg16 dX10_asTold_33 (fun H locs hP hD hS => ?_)
        have hP : va_P D vwCl (zw_10 q k S17) H := by rw [hS17]; exact hP
        have hD : va_D A (zw_10 q k S17) := by rw [hS17]; exact hD
        obtain ⟨v18, hv18, hf⟩ := zz_lts hf
        refine lv_iinc (v := v18) (lv' := [(1, .int v18), (0, .ref (q 0))]) hx hb dX10_asTold_34 hl (k := 1) rfl (by rw [hv18]; rfl) (by decide) rfl (fun ls hl => ?_)
        refine lv_goto (tgt := 14) hx hb dX10_asTold_37 (by decide) ?_
        exact ihkL14_5 v18 S17 _ _ hP hD hS ls (lv_sub hl [1, 0] rfl) hf
  exact hLkL14_5 F (0 : Int32) S3 _ _ hP hD hS ls (lv_sub hl [1, 0] rfl) hf
def rmX10_walksTold : Room := { frames := 6, cells := 0, slots := 0, locals := 136 }
set_option maxHeartbeats 4000000 in
set_option maxRecDepth 100000 in
theorem zc_X10_walksTold (l : Launch) (D : va_G) (tb : Nat → Nat) (q : Nat → Nat) (k : Nat → ClassId) (F : Nat)  (S : zz_M) (o0 : zz_M) (hf : pX10_walksTold F S = some o0) : zz_Mv l yX10_walksTold wsX10_walksTold rmX10_walksTold D tb [((k 1), .int), ((k 2), .int), ((k 3), .int), ((k 4), .int), ((k 5), .int), ((k 6), .int), ((k 7), .int), ((k 8), .boolean), ((k 9), .int), ((k 10), .int), ((k 11), .int), ((k 12), .int), ((k 13), .int), ((k 14), .int), ((k 15), .int), ((k 16), .boolean), ((k 17), .int), ((k 18), .int), ((k 19), .int), ((k 20), .int)] [.ref (q 0)] (zw_10 q k S) (zw_10 q k o0)  := by
  refine zz_ofv (cc := cX10_walksTold) (maxL := 1) (by decide) rfl (Nat.le_of_ble_eq_true rfl) ?_
  intro p e s m args below meth c A Q hfx hK hA hE hret H locs hP hD hS ls hl
  obtain ⟨hx, hb, hml, hown, hts⟩ := id hfx
  have hl : lv_has ls 1 [(0, .ref (q 0))] := hl
  unfold pX10_walksTold at hf
  refine lv_aload_n hx hb dX10_walksTold_0 rfl (lv_at hl 0 rfl) ?_
  obtain ⟨S1, hc2, hf⟩ := zz_b1s hf
  refine zz_jv0 (va_runV (As := []) (rest := []) hfx (zc_X10_asTold l D tb q k F  S S1 hc2 H.size) (cwV 0 hts gX10_walksTold_X10_asTold rfl rfl rfl (by decide +kernel) ⟨Nat.le_of_ble_eq_true rfl, Nat.le_of_ble_eq_true rfl⟩) (zz_pre0V hK hP hD hS hA hE 0 rfl rfl rfl) rfl rfl hl.1 rfl (lv_room (Nat.le_of_ble_eq_true rfl)) dX10_walksTold_1 ⟨Nat.zero_le _, Nat.zero_le _⟩) hD hS hA (fun H locs hP hD hS => ?_)
  refine lv_aload_n hx hb dX10_walksTold_4 rfl (lv_at hl 0 rfl) ?_
  obtain ⟨S3, hc4, hf⟩ := zz_b1s hf
  refine zz_jv0 (va_runV (As := []) (rest := []) hfx (zc_X10_walks l D tb q k F  S1 S3 hc4 H.size) (cwV 0 hts gX10_walksTold_X10_walks rfl rfl rfl (by decide +kernel) ⟨Nat.le_of_ble_eq_true rfl, Nat.le_of_ble_eq_true rfl⟩) (zz_pre0V hK hP hD hS hA hE 0 rfl rfl rfl) rfl rfl hl.1 rfl (lv_room (Nat.le_of_ble_eq_true rfl)) dX10_walksTold_5 ⟨Nat.zero_le _, Nat.zero_le _⟩) hD hS hA (fun H locs hP hD hS => ?_)
  obtain rfl := zz_e1 hf
  exact hret _ _ _ _ dX10_walksTold_8 hP hD hS
def rmX10_isSeenAt : Room := { frames := 1, cells := 0, slots := 0, locals := 21 }
set_option maxHeartbeats 4000000 in
set_option maxRecDepth 100000 in
theorem zc_X10_isSeenAt (l : Launch) (D : va_G) (tb : Nat → Nat) (q : Nat → Nat) (k : Nat → ClassId) (F : Nat) (u0 : Int32) (u1 : Int32) (S : zz_M) (r : Int32) (hf : pX10_isSeenAt F u0 u1 S = some r) : zz_Mi l yX10_isSeenAt wsX10_isSeenAt rmX10_isSeenAt D tb [((k 1), .int), ((k 2), .int), ((k 3), .int), ((k 4), .int), ((k 5), .int), ((k 6), .int), ((k 7), .int), ((k 8), .boolean), ((k 9), .int), ((k 10), .int), ((k 11), .int), ((k 12), .int), ((k 13), .int), ((k 14), .int), ((k 15), .int), ((k 16), .boolean), ((k 17), .int), ((k 18), .int), ((k 19), .int), ((k 20), .int)] [.ref (q 0), .int u0, .int u1] (zw_10 q k S) (zw_10 q k S) r := by
  refine zz_ofz (cc := cX10_isSeenAt) (maxL := 3) (by decide) rfl (Nat.le_of_ble_eq_true rfl) ?_
  intro p e s m args below meth c A Q hfx hK hA hE hret H locs hP hD hS ls hl
  obtain ⟨hx, hb, hml, hown, hts⟩ := id hfx
  have inX10 : ∀ w ∈ u_ws RX10 TX10 34, w ∈ wsX10_isSeenAt := by decide +kernel
  have lk41 := hts (.fieldLink RX10 41 "CatBeatModel" "high" "[I") (by decide +kernel)
  have lk38 := hts (.fieldLink RX10 38 "CatBeatModel" "low" "[I") (by decide +kernel)
  have hl : lv_has ls 3 [(0, .ref (q 0)), (1, .int u0), (2, .int u1)] := hl
  unfold pX10_isSeenAt at hf
  refine lv_iload_n hx hb dX10_isSeenAt_0 rfl (lv_at hl 2 rfl) ?_
  refine lv_bipush (v := (18 : Int32)) hx hb dX10_isSeenAt_1 (by decide) ?_
  obtain ⟨j32_2, hj32_2, hf⟩ := zz_lts hf
  have Kj32_2 : ∀ (y1 : Int32) (H : Heap) (locs : List Loc), va_P D vwCl (zw_10 q k S) H → va_D A (zw_10 q k S) → va_S A s.heap H locs → ∀ ls : Array Slot, lv_has ls 3 [] → j32_2 y1 = some r → W p l e rmX10_isSeenAt s m args below meth c H locs 0 0 Q (F0 m 32 ls [.int y1]) := by
    intro y1 H locs hP hD hS ls hl hf
    rw [hj32_2] at hf
    obtain ⟨hg3, hf⟩ := zz_gd hf
    obtain rfl := zz_e1 hf
    exact hret _ _ _ _ (zz_nb hg3) dX10_isSeenAt_32 hP hD hS
  refine lv_icmp_ge (tgt := 19) hx hb dX10_isSeenAt_3 (by decide) (fun c3 => ?_) (fun c3 => ?_)
  · have hf := zz_ps hf c3
    refine lv_aload_n hx hb dX10_isSeenAt_19 rfl (lv_at hl 0 rfl) ?_
    refine va_get (D := D) (ci := 10) (v := .ref (q 11)) (C := RX10) (T := TX10) (N := 34) hx hb hts inX10 hown hK hP 0 rfl rfl 20 (by decide) lk41 (fun _ h9 => h9) rfl dX10_isSeenAt_20 ?_
    refine lv_iload_n hx hb dX10_isSeenAt_23 rfl (lv_at hl 1 rfl) ?_
    obtain ⟨hg4, hf⟩ := zz_gd hf
    refine va_iald hx hb hK hP 11 10 rfl rfl hg4 dX10_isSeenAt_24 ?_
    refine lv_iload_n hx hb dX10_isSeenAt_25 rfl (lv_at hl 2 rfl) ?_
    refine lv_bipush (v := (18 : Int32)) hx hb dX10_isSeenAt_26 (by decide) ?_
    refine lv_isub hx hb dX10_isSeenAt_28 ?_
    obtain ⟨r5, hc6, hf⟩ := zz_b1s hf
    refine zz_ji (va_runS (As := [.int ((zz_gA S 10) (Int32.toNatClampNeg u0)), .int (u1 - (18 : Int32))]) (rest := []) hfx (zc_X10_isIn l D tb  F ((zz_gA S 10) (Int32.toNatClampNeg u0)) (u1 - (18 : Int32))  r5 hc6 H.size) (va_cwS 2 hts gX10_isSeenAt_X10_isIn rfl rfl rfl (by decide +kernel) ⟨Nat.le_of_ble_eq_true rfl, Nat.le_of_ble_eq_true rfl⟩) (zz_preS hK hP hD hS hA hE [] [] rfl (by decide) rfl) rfl rfl hl.1 rfl (lv_room (Nat.le_of_ble_eq_true rfl)) dX10_isSeenAt_29 ⟨Nat.zero_le _, Nat.zero_le _⟩) hP hD hS hA [] rfl rfl (fun H locs hP hD hS => ?_)
    have hP : va_P D vwCl (zw_10 q k S) H := hP
    have hD : va_D A (zw_10 q k S) := hD
    exact Kj32_2 r5 _ _ hP hD hS ls (lv_sub hl [] rfl) hf
  · have hf := zz_ng hf c3
    refine lv_aload_n hx hb dX10_isSeenAt_6 rfl (lv_at hl 0 rfl) ?_
    refine va_get (D := D) (ci := 10) (v := .ref (q 10)) (C := RX10) (T := TX10) (N := 34) hx hb hts inX10 hown hK hP 0 rfl rfl 19 (by decide) lk38 (fun _ h9 => h9) rfl dX10_isSeenAt_7 ?_
    refine lv_iload_n hx hb dX10_isSeenAt_10 rfl (lv_at hl 1 rfl) ?_
    obtain ⟨hg7, hf⟩ := zz_gd hf
    refine va_iald hx hb hK hP 10 9 rfl rfl hg7 dX10_isSeenAt_11 ?_
    refine lv_iload_n hx hb dX10_isSeenAt_12 rfl (lv_at hl 2 rfl) ?_
    obtain ⟨r8, hc9, hf⟩ := zz_b1s hf
    refine zz_ji (va_runS (As := [.int ((zz_gA S 9) (Int32.toNatClampNeg u0)), .int u1]) (rest := []) hfx (zc_X10_isIn l D tb  F ((zz_gA S 9) (Int32.toNatClampNeg u0)) u1  r8 hc9 H.size) (va_cwS 2 hts gX10_isSeenAt_X10_isIn rfl rfl rfl (by decide +kernel) ⟨Nat.le_of_ble_eq_true rfl, Nat.le_of_ble_eq_true rfl⟩) (zz_preS hK hP hD hS hA hE [] [] rfl (by decide) rfl) rfl rfl hl.1 rfl (lv_room (Nat.le_of_ble_eq_true rfl)) dX10_isSeenAt_13 ⟨Nat.zero_le _, Nat.zero_le _⟩) hP hD hS hA [] rfl rfl (fun H locs hP hD hS => ?_)
    have hP : va_P D vwCl (zw_10 q k S) H := hP
    have hD : va_D A (zw_10 q k S) := hD
    refine lv_goto (tgt := 32) hx hb dX10_isSeenAt_16 (by decide) ?_
    exact Kj32_2 r8 _ _ hP hD hS ls (lv_sub hl [] rfl) hf
def rmX10_atOf : Room := { frames := 7, cells := 0, slots := 0, locals := 156 }
set_option maxHeartbeats 4000000 in
set_option maxRecDepth 100000 in
theorem zc_X10_atOf (l : Launch) (D : va_G) (tb : Nat → Nat) (q : Nat → Nat) (k : Nat → ClassId) (F : Nat) (u0 : Int32) (S : zz_M) (r : Int32) (o1 : zz_M) (hf : pX10_atOf F u0 S = some (r, o1)) : zz_Mi l yX10_atOf wsX10_atOf rmX10_atOf D tb [((k 1), .int), ((k 2), .int), ((k 3), .int), ((k 4), .int), ((k 5), .int), ((k 6), .int), ((k 7), .int), ((k 8), .boolean), ((k 9), .int), ((k 10), .int), ((k 11), .int), ((k 12), .int), ((k 13), .int), ((k 14), .int), ((k 15), .int), ((k 16), .boolean), ((k 17), .int), ((k 18), .int), ((k 19), .int), ((k 20), .int)] [.ref (q 0), .int u0] (zw_10 q k S) (zw_10 q k o1) r := by
  refine zz_ofi (cc := cX10_atOf) (maxL := 2) (by decide) rfl (Nat.le_of_ble_eq_true rfl) ?_
  intro p e s m args below meth c A Q hfx hK hA hE hret H locs hP hD hS ls hl
  obtain ⟨hx, hb, hml, hown, hts⟩ := id hfx
  have inX10 : ∀ w ∈ u_ws RX10 TX10 34, w ∈ wsX10_atOf := by decide +kernel
  have lk35 := hts (.fieldLink RX10 35 "CatBeatModel" "places" "[I") (by decide +kernel)
  have hl : lv_has ls 2 [(0, .ref (q 0)), (1, .int u0)] := hl
  unfold pX10_atOf at hf
  refine lv_aload_n hx hb dX10_atOf_0 rfl (lv_at hl 0 rfl) ?_
  obtain ⟨S1, hc2, hf⟩ := zz_b1s hf
  refine zz_jv0 (va_runV (As := []) (rest := []) hfx (zc_X10_walksTold l D tb q k F  S S1 hc2 H.size) (cwV 0 hts gX10_atOf_X10_walksTold rfl rfl rfl (by decide +kernel) ⟨Nat.le_of_ble_eq_true rfl, Nat.le_of_ble_eq_true rfl⟩) (zz_pre0V hK hP hD hS hA hE 0 rfl rfl rfl) rfl rfl hl.1 rfl (lv_room (Nat.le_of_ble_eq_true rfl)) dX10_atOf_1 ⟨Nat.zero_le _, Nat.zero_le _⟩) hD hS hA (fun H locs hP hD hS => ?_)
  refine lv_aload_n hx hb dX10_atOf_4 rfl (lv_at hl 0 rfl) ?_
  refine va_get (D := D) (ci := 10) (v := .ref (q 9)) (C := RX10) (T := TX10) (N := 34) hx hb hts inX10 hown hK hP 0 rfl rfl 18 (by decide) lk35 (fun _ h9 => h9) rfl dX10_atOf_5 ?_
  refine lv_iload_n hx hb dX10_atOf_8 rfl (lv_at hl 1 rfl) ?_
  obtain ⟨hg3, hf⟩ := zz_gd hf
  refine va_iald hx hb hK hP 9 8 rfl rfl hg3 dX10_atOf_9 ?_
  obtain ⟨rfl, rfl⟩ := zz_e2 hf
  exact hret _ _ _ _ dX10_atOf_10 hP hD hS
def rmX10_at : Room := { frames := 8, cells := 0, slots := 0, locals := 177 }
set_option maxHeartbeats 4000000 in
set_option maxRecDepth 100000 in
theorem zc_X10_at (l : Launch) (D : va_G) (tb : Nat → Nat) (q : Nat → Nat) (k : Nat → ClassId) (F : Nat) (u0 : Int32) (S : zz_M) (r : Int32) (o1 : zz_M) (hf : pX10_at F u0 S = some (r, o1)) : zz_Mi l yX10_at wsX10_at rmX10_at D tb [((k 1), .int), ((k 2), .int), ((k 3), .int), ((k 4), .int), ((k 5), .int), ((k 6), .int), ((k 7), .int), ((k 8), .boolean), ((k 9), .int), ((k 10), .int), ((k 11), .int), ((k 12), .int), ((k 13), .int), ((k 14), .int), ((k 15), .int), ((k 16), .boolean), ((k 17), .int), ((k 18), .int), ((k 19), .int), ((k 20), .int)] [.ref (q 0), .int u0] (zw_10 q k S) (zw_10 q k o1) r := by
  refine zz_ofi (cc := cX10_at) (maxL := 2) (by decide) rfl (Nat.le_of_ble_eq_true rfl) ?_
  intro p e s m args below meth c A Q hfx hK hA hE hret H locs hP hD hS ls hl
  obtain ⟨hx, hb, hml, hown, hts⟩ := id hfx
  have hl : lv_has ls 2 [(0, .ref (q 0)), (1, .int u0)] := hl
  unfold pX10_at at hf
  refine lv_iload_n hx hb dX10_at_0 rfl (lv_at hl 1 rfl) ?_
  obtain ⟨r1, hc2, hf⟩ := zz_b1s hf
  refine zz_ji (va_runS (As := [.int u0]) (rest := []) hfx (zc_X10_isNumber l D tb  F u0  r1 hc2 H.size) (va_cwS 1 hts gX10_at_X10_isNumber rfl rfl rfl (by decide +kernel) ⟨Nat.le_of_ble_eq_true rfl, Nat.le_of_ble_eq_true rfl⟩) (zz_preS hK hP hD hS hA hE [] [] rfl (by decide) rfl) rfl rfl hl.1 rfl (lv_room (Nat.le_of_ble_eq_true rfl)) dX10_at_1 ⟨Nat.zero_le _, Nat.zero_le _⟩) hP hD hS hA [] rfl rfl (fun H locs hP hD hS => ?_)
  have hP : va_P D vwCl (zw_10 q k S) H := hP
  have hD : va_D A (zw_10 q k S) := hD
  obtain ⟨j17_5, hj17_5, hf⟩ := zz_lts hf
  have Kj17_5 : ∀ (y3 : Int32) (z4 : zz_M) (H : Heap) (locs : List Loc), va_P D vwCl (zw_10 q k z4) H → va_D A (zw_10 q k z4) → va_S A s.heap H locs → ∀ ls : Array Slot, lv_has ls 2 [] → j17_5 y3 z4 = some (r, o1) → W p l e rmX10_at s m args below meth c H locs 0 0 Q (F0 m 17 ls [.int y3]) := by
    intro y3 z4 H locs hP hD hS ls hl hf
    rw [hj17_5] at hf
    obtain ⟨rfl, rfl⟩ := zz_e2 hf
    exact hret _ _ _ _ dX10_at_17 hP hD hS
  refine lv_if_eq (tgt := 15) hx hb dX10_at_4 (by decide) (fun c4 => ?_) (fun c4 => ?_)
  · have hf := zz_ps hf c4
    refine lv_bipush (v := (-2 : Int32)) hx hb dX10_at_15 (by decide) ?_
    exact Kj17_5 (-2 : Int32) S _ _ hP hD hS ls (lv_sub hl [] rfl) hf
  · have hf := zz_ng hf c4
    refine lv_aload_n hx hb dX10_at_7 rfl (lv_at hl 0 rfl) ?_
    refine lv_iload_n hx hb dX10_at_8 rfl (lv_at hl 1 rfl) ?_
    obtain ⟨r6, S7, hc8, hf⟩ := zz_b2s hf
    refine zz_ji0 (va_runV (As := [.int u0]) (rest := []) hfx (zc_X10_atOf l D tb q k F u0 S r6 S7 hc8 H.size) (cwV 1 hts gX10_at_X10_atOf rfl rfl rfl (by decide +kernel) ⟨Nat.le_of_ble_eq_true rfl, Nat.le_of_ble_eq_true rfl⟩) (zz_pre0V hK hP hD hS hA hE 0 rfl rfl rfl) rfl rfl hl.1 rfl (lv_room (Nat.le_of_ble_eq_true rfl)) dX10_at_9 ⟨Nat.zero_le _, Nat.zero_le _⟩) hD hS hA (fun H locs hP hD hS => ?_)
    refine lv_goto (tgt := 17) hx hb dX10_at_12 (by decide) ?_
    exact Kj17_5 r6 S7 _ _ hP hD hS ls (lv_sub hl [] rfl) hf
def rmX10_seesOf : Room := { frames := 7, cells := 0, slots := 0, locals := 156 }
set_option maxHeartbeats 4000000 in
set_option maxRecDepth 100000 in
theorem zc_X10_seesOf (l : Launch) (D : va_G) (tb : Nat → Nat) (q : Nat → Nat) (k : Nat → ClassId) (F : Nat) (u0 : Int32) (u1 : Int32) (S : zz_M) (r : Int32) (o1 : zz_M) (hf : pX10_seesOf F u0 u1 S = some (r, o1)) : zz_Mi l yX10_seesOf wsX10_seesOf rmX10_seesOf D tb [((k 1), .int), ((k 2), .int), ((k 3), .int), ((k 4), .int), ((k 5), .int), ((k 6), .int), ((k 7), .int), ((k 8), .boolean), ((k 9), .int), ((k 10), .int), ((k 11), .int), ((k 12), .int), ((k 13), .int), ((k 14), .int), ((k 15), .int), ((k 16), .boolean), ((k 17), .int), ((k 18), .int), ((k 19), .int), ((k 20), .int)] [.ref (q 0), .int u0, .int u1] (zw_10 q k S) (zw_10 q k o1) r := by
  refine zz_ofi (cc := cX10_seesOf) (maxL := 3) (by decide) rfl (Nat.le_of_ble_eq_true rfl) ?_
  intro p e s m args below meth c A Q hfx hK hA hE hret H locs hP hD hS ls hl
  obtain ⟨hx, hb, hml, hown, hts⟩ := id hfx
  have inX10 : ∀ w ∈ u_ws RX10 TX10 34, w ∈ wsX10_seesOf := by decide +kernel
  have lk41 := hts (.fieldLink RX10 41 "CatBeatModel" "high" "[I") (by decide +kernel)
  have lk38 := hts (.fieldLink RX10 38 "CatBeatModel" "low" "[I") (by decide +kernel)
  have hl : lv_has ls 3 [(0, .ref (q 0)), (1, .int u0), (2, .int u1)] := hl
  unfold pX10_seesOf at hf
  refine lv_aload_n hx hb dX10_seesOf_0 rfl (lv_at hl 0 rfl) ?_
  obtain ⟨S1, hc2, hf⟩ := zz_b1s hf
  refine zz_jv0 (va_runV (As := []) (rest := []) hfx (zc_X10_walksTold l D tb q k F  S S1 hc2 H.size) (cwV 0 hts gX10_seesOf_X10_walksTold rfl rfl rfl (by decide +kernel) ⟨Nat.le_of_ble_eq_true rfl, Nat.le_of_ble_eq_true rfl⟩) (zz_pre0V hK hP hD hS hA hE 0 rfl rfl rfl) rfl rfl hl.1 rfl (lv_room (Nat.le_of_ble_eq_true rfl)) dX10_seesOf_1 ⟨Nat.zero_le _, Nat.zero_le _⟩) hD hS hA (fun H locs hP hD hS => ?_)
  refine lv_iload_n hx hb dX10_seesOf_4 rfl (lv_at hl 2 rfl) ?_
  obtain ⟨j23_4, hj23_4, hf⟩ := zz_lts hf
  have Kj23_4 : ∀ (y3 : Int32) (H : Heap) (locs : List Loc), va_P D vwCl (zw_10 q k S1) H → va_D A (zw_10 q k S1) → va_S A s.heap H locs → ∀ ls : Array Slot, lv_has ls 3 [] → j23_4 y3 = some (r, o1) → W p l e rmX10_seesOf s m args below meth c H locs 0 0 Q (F0 m 23 ls [.int y3]) := by
    intro y3 H locs hP hD hS ls hl hf
    rw [hj23_4] at hf
    obtain ⟨rfl, rfl⟩ := zz_e2 hf
    exact hret _ _ _ _ dX10_seesOf_23 hP hD hS
  refine lv_if_ne (tgt := 17) hx hb dX10_seesOf_5 (by decide) (fun c5 => ?_) (fun c5 => ?_)
  · have hf := zz_ng hf c5
    refine lv_aload_n hx hb dX10_seesOf_17 rfl (lv_at hl 0 rfl) ?_
    refine va_get (D := D) (ci := 10) (v := .ref (q 11)) (C := RX10) (T := TX10) (N := 34) hx hb hts inX10 hown hK hP 0 rfl rfl 20 (by decide) lk41 (fun _ h9 => h9) rfl dX10_seesOf_18 ?_
    refine lv_iload_n hx hb dX10_seesOf_21 rfl (lv_at hl 1 rfl) ?_
    obtain ⟨hg5, hf⟩ := zz_gd hf
    refine va_iald hx hb hK hP 11 10 rfl rfl hg5 dX10_seesOf_22 ?_
    exact Kj23_4 ((zz_gA S1 10) (Int32.toNatClampNeg u0)) _ _ hP hD hS ls (lv_sub hl [] rfl) hf
  · have hf := zz_ps hf c5
    refine lv_aload_n hx hb dX10_seesOf_8 rfl (lv_at hl 0 rfl) ?_
    refine va_get (D := D) (ci := 10) (v := .ref (q 10)) (C := RX10) (T := TX10) (N := 34) hx hb hts inX10 hown hK hP 0 rfl rfl 19 (by decide) lk38 (fun _ h9 => h9) rfl dX10_seesOf_9 ?_
    refine lv_iload_n hx hb dX10_seesOf_12 rfl (lv_at hl 1 rfl) ?_
    obtain ⟨hg6, hf⟩ := zz_gd hf
    refine va_iald hx hb hK hP 10 9 rfl rfl hg6 dX10_seesOf_13 ?_
    refine lv_goto (tgt := 23) hx hb dX10_seesOf_14 (by decide) ?_
    exact Kj23_4 ((zz_gA S1 9) (Int32.toNatClampNeg u0)) _ _ hP hD hS ls (lv_sub hl [] rfl) hf
def rmX10_sees : Room := { frames := 8, cells := 0, slots := 0, locals := 178 }
set_option maxHeartbeats 4000000 in
set_option maxRecDepth 100000 in
theorem zc_X10_sees (l : Launch) (D : va_G) (tb : Nat → Nat) (q : Nat → Nat) (k : Nat → ClassId) (F : Nat) (u0 : Int32) (u1 : Int32) (S : zz_M) (r : Int32) (o1 : zz_M) (hf : pX10_sees F u0 u1 S = some (r, o1)) : zz_Mi l yX10_sees wsX10_sees rmX10_sees D tb [((k 1), .int), ((k 2), .int), ((k 3), .int), ((k 4), .int), ((k 5), .int), ((k 6), .int), ((k 7), .int), ((k 8), .boolean), ((k 9), .int), ((k 10), .int), ((k 11), .int), ((k 12), .int), ((k 13), .int), ((k 14), .int), ((k 15), .int), ((k 16), .boolean), ((k 17), .int), ((k 18), .int), ((k 19), .int), ((k 20), .int)] [.ref (q 0), .int u0, .int u1] (zw_10 q k S) (zw_10 q k o1) r := by
  refine zz_ofi (cc := cX10_sees) (maxL := 3) (by decide) rfl (Nat.le_of_ble_eq_true rfl) ?_
  intro p e s m args below meth c A Q hfx hK hA hE hret H locs hP hD hS ls hl
  obtain ⟨hx, hb, hml, hown, hts⟩ := id hfx
  have hl : lv_has ls 3 [(0, .ref (q 0)), (1, .int u0), (2, .int u1)] := hl
  unfold pX10_sees at hf
  refine lv_iload_n hx hb dX10_sees_0 rfl (lv_at hl 1 rfl) ?_
  obtain ⟨r1, hc2, hf⟩ := zz_b1s hf
  refine zz_ji (va_runS (As := [.int u0]) (rest := []) hfx (zc_X10_isNumber l D tb  F u0  r1 hc2 H.size) (va_cwS 1 hts gX10_sees_X10_isNumber rfl rfl rfl (by decide +kernel) ⟨Nat.le_of_ble_eq_true rfl, Nat.le_of_ble_eq_true rfl⟩) (zz_preS hK hP hD hS hA hE [] [] rfl (by decide) rfl) rfl rfl hl.1 rfl (lv_room (Nat.le_of_ble_eq_true rfl)) dX10_sees_1 ⟨Nat.zero_le _, Nat.zero_le _⟩) hP hD hS hA [] rfl rfl (fun H locs hP hD hS => ?_)
  have hP : va_P D vwCl (zw_10 q k S) H := hP
  have hD : va_D A (zw_10 q k S) := hD
  obtain ⟨j27_5, hj27_5, hf⟩ := zz_lts hf
  have Kj27_5 : ∀ (y3 : Int32) (z4 : zz_M) (H : Heap) (locs : List Loc), va_P D vwCl (zw_10 q k z4) H → va_D A (zw_10 q k z4) → va_S A s.heap H locs → ∀ ls : Array Slot, lv_has ls 3 [] → j27_5 y3 z4 = some (r, o1) → W p l e rmX10_sees s m args below meth c H locs 0 0 Q (F0 m 27 ls [.int y3]) := by
    intro y3 z4 H locs hP hD hS ls hl hf
    rw [hj27_5] at hf
    obtain ⟨rfl, rfl⟩ := zz_e2 hf
    exact hret _ _ _ _ dX10_sees_27 hP hD hS
  obtain ⟨j25_6, hj25_6, hf⟩ := zz_lts hf
  have Kj25_6 : ∀  (H : Heap) (locs : List Loc), va_P D vwCl (zw_10 q k S) H → va_D A (zw_10 q k S) → va_S A s.heap H locs → ∀ ls : Array Slot, lv_has ls 3 [] → j25_6 () = some (r, o1) → W p l e rmX10_sees s m args below meth c H locs 0 0 Q (F0 m 25 ls []) := by
    intro  H locs hP hD hS ls hl hf
    rw [hj25_6] at hf
    refine lv_bipush (v := (-2 : Int32)) hx hb dX10_sees_25 (by decide) ?_
    exact Kj27_5 (-2 : Int32) S _ _ hP hD hS ls (lv_sub hl [] rfl) hf
  refine lv_if_eq (tgt := 25) hx hb dX10_sees_4 (by decide) (fun c4 => ?_) (fun c4 => ?_)
  · have hf := zz_ps hf c4
    exact Kj25_6  _ _ hP hD hS ls (lv_sub hl [] rfl) hf
  · have hf := zz_ng hf c4
    refine lv_iload_n hx hb dX10_sees_7 rfl (lv_at hl 2 rfl) ?_
    refine lv_iconst (v := (0 : Int32)) hx hb dX10_sees_8 (by decide) ?_
    refine lv_iconst (v := (1 : Int32)) hx hb dX10_sees_9 (by decide) ?_
    obtain ⟨r7, hc8, hf⟩ := zz_b1s hf
    refine zz_ji (va_runS (As := [.int u1, .int (0 : Int32), .int (1 : Int32)]) (rest := []) hfx (zc_X10_in l D tb  F u1 (0 : Int32) (1 : Int32)  r7 hc8 H.size) (va_cwS 3 hts gX10_sees_X10_in rfl rfl rfl (by decide +kernel) ⟨Nat.le_of_ble_eq_true rfl, Nat.le_of_ble_eq_true rfl⟩) (zz_preS hK hP hD hS hA hE [] [] rfl (by decide) rfl) rfl rfl hl.1 rfl (lv_room (Nat.le_of_ble_eq_true rfl)) dX10_sees_10 ⟨Nat.zero_le _, Nat.zero_le _⟩) hP hD hS hA [] rfl rfl (fun H locs hP hD hS => ?_)
    have hP : va_P D vwCl (zw_10 q k S) H := hP
    have hD : va_D A (zw_10 q k S) := hD
    refine lv_if_eq (tgt := 25) hx hb dX10_sees_13 (by decide) (fun c13 => ?_) (fun c13 => ?_)
    · have hf := zz_ps hf c13
      exact Kj25_6  _ _ hP hD hS ls (lv_sub hl [] rfl) hf
    · have hf := zz_ng hf c13
      refine lv_aload_n hx hb dX10_sees_16 rfl (lv_at hl 0 rfl) ?_
      refine lv_iload_n hx hb dX10_sees_17 rfl (lv_at hl 1 rfl) ?_
      refine lv_iload_n hx hb dX10_sees_18 rfl (lv_at hl 2 rfl) ?_
      obtain ⟨r9, S10, hc11, hf⟩ := zz_b2s hf
      refine zz_ji0 (va_runV (As := [.int u0, .int u1]) (rest := []) hfx (zc_X10_seesOf l D tb q k F u0 u1 S r9 S10 hc11 H.size) (cwV 2 hts gX10_sees_X10_seesOf rfl rfl rfl (by decide +kernel) ⟨Nat.le_of_ble_eq_true rfl, Nat.le_of_ble_eq_true rfl⟩) (zz_pre0V hK hP hD hS hA hE 0 rfl rfl rfl) rfl rfl hl.1 rfl (lv_room (Nat.le_of_ble_eq_true rfl)) dX10_sees_19 ⟨Nat.zero_le _, Nat.zero_le _⟩) hD hS hA (fun H locs hP hD hS => ?_)
      refine lv_goto (tgt := 27) hx hb dX10_sees_22 (by decide) ?_
      exact Kj27_5 r9 S10 _ _ hP hD hS ls (lv_sub hl [] rfl) hf
def rmX10_seenOf : Room := { frames := 7, cells := 0, slots := 0, locals := 156 }
set_option maxHeartbeats 4000000 in
set_option maxRecDepth 100000 in
theorem zc_X10_seenOf (l : Launch) (D : va_G) (tb : Nat → Nat) (q : Nat → Nat) (k : Nat → ClassId) (F : Nat) (u0 : Int32) (u1 : Int32) (S : zz_M) (r : Int32) (o1 : zz_M) (hf : pX10_seenOf F u0 u1 S = some (r, o1)) : zz_Mi l yX10_seenOf wsX10_seenOf rmX10_seenOf D tb [((k 1), .int), ((k 2), .int), ((k 3), .int), ((k 4), .int), ((k 5), .int), ((k 6), .int), ((k 7), .int), ((k 8), .boolean), ((k 9), .int), ((k 10), .int), ((k 11), .int), ((k 12), .int), ((k 13), .int), ((k 14), .int), ((k 15), .int), ((k 16), .boolean), ((k 17), .int), ((k 18), .int), ((k 19), .int), ((k 20), .int)] [.ref (q 0), .int u0, .int u1] (zw_10 q k S) (zw_10 q k o1) r := by
  refine zz_ofi (cc := cX10_seenOf) (maxL := 8) (by decide) rfl (Nat.le_of_ble_eq_true rfl) ?_
  intro p e s m args below meth c A Q hfx hK hA hE hret H locs hP hD hS ls hl
  obtain ⟨hx, hb, hml, hown, hts⟩ := id hfx
  have hl : lv_has ls 8 [(0, .ref (q 0)), (1, .int u0), (2, .int u1)] := hl
  unfold pX10_seenOf at hf
  refine lv_aload_n hx hb dX10_seenOf_0 rfl (lv_at hl 0 rfl) ?_
  obtain ⟨S1, hc2, hf⟩ := zz_b1s hf
  refine zz_jv0 (va_runV (As := []) (rest := []) hfx (zc_X10_walksTold l D tb q k F  S S1 hc2 H.size) (cwV 0 hts gX10_seenOf_X10_walksTold rfl rfl rfl (by decide +kernel) ⟨Nat.le_of_ble_eq_true rfl, Nat.le_of_ble_eq_true rfl⟩) (zz_pre0V hK hP hD hS hA hE 0 rfl rfl rfl) rfl rfl hl.1 rfl (lv_room (Nat.le_of_ble_eq_true rfl)) dX10_seenOf_1 ⟨Nat.zero_le _, Nat.zero_le _⟩) hD hS hA (fun H locs hP hD hS => ?_)
  refine lv_iconst (v := (0 : Int32)) hx hb dX10_seenOf_4 (by decide) ?_
  refine lv_istore_n (lv' := [(3, .int (0 : Int32)), (0, .ref (q 0)), (1, .int u0), (2, .int u1)]) hx hb dX10_seenOf_5 rfl hl (by decide) rfl (fun ls hl => ?_)
  refine lv_iconst (v := (0 : Int32)) hx hb dX10_seenOf_6 (by decide) ?_
  refine lv_istore (lv' := [(4, .int (0 : Int32)), (3, .int (0 : Int32)), (0, .ref (q 0)), (1, .int u0), (2, .int u1)]) hx hb dX10_seenOf_7 hl (by decide) rfl (fun ls hl => ?_)
  refine lv_iconst (v := (0 : Int32)) hx hb dX10_seenOf_9 (by decide) ?_
  refine lv_istore (lv' := [(5, .int (0 : Int32)), (4, .int (0 : Int32)), (3, .int (0 : Int32)), (0, .ref (q 0)), (1, .int u0), (2, .int u1)]) hx hb dX10_seenOf_10 hl (by decide) rfl (fun ls hl => ?_)
  refine lv_iconst (v := (0 : Int32)) hx hb dX10_seenOf_12 (by decide) ?_
  refine lv_istore (lv' := [(6, .int (0 : Int32)), (5, .int (0 : Int32)), (4, .int (0 : Int32)), (3, .int (0 : Int32)), (0, .ref (q 0)), (1, .int u0), (2, .int u1)]) hx hb dX10_seenOf_13 hl (by decide) rfl (fun ls hl => ?_)
  have hLkL15_6 : ∀ (n15_6 : Nat) (x3 : Int32) (x4 : Int32) (x5 : Int32) (x6 : Int32) (H : Heap) (locs : List Loc), va_P D vwCl (zw_10 q k S1) H → va_D A (zw_10 q k S1) → va_S A s.heap H locs → ∀ ls : Array Slot, lv_has ls 8 [(0, .ref (q 0)), (1, .int u0), (2, .int u1), (3, .int x3), (4, .int x4), (5, .int x5), (6, .int x6)] → pX10_seenOf_L15_6 u0 u1 F S1 n15_6 x3 x4 x5 x6 = some (r, o1) → W p l e rmX10_seenOf s m args below meth c H locs 0 0 Q (F0 m 15 ls []) := by
    intro n15_6
    induction n15_6 with
    | zero =>
      intro x3 x4 x5 x6 H locs hP hD hS ls hl hf
      exact nomatch (show (none : Option _) = some _ from hf)
    | succ n15_6 ihkL15_6 =>
      intro x3 x4 x5 x6 H locs hP hD hS ls hl hf
      rw [pX10_seenOf_L15_6] at hf
      refine lv_iload hx hb dX10_seenOf_15 (lv_at hl 6 rfl) ?_
      refine lv_bipush (v := (96 : Int32)) hx hb dX10_seenOf_17 (by decide) ?_
      refine lv_icmp_ge (tgt := 81) hx hb dX10_seenOf_19 (by decide) (fun c19 => ?_) (fun c19 => ?_)
      · have hf := zz_ps hf c19
        refine lv_iload_n hx hb dX10_seenOf_81 rfl (lv_at hl 2 rfl) ?_
        obtain ⟨v8, hv8, hf⟩ := zz_lts hf
        have hK9 : ∀ ls : Array Slot, lv_has ls 8 [] → W p l e rmX10_seenOf s m args below meth c H locs 0 0 Q (F0 m 91 ls [.int v8]) := by
          intro ls hl
          obtain ⟨rfl, rfl⟩ := zz_e2 hf
          exact hret _ _ _ _ dX10_seenOf_91 hP hD hS
        refine lv_if_ne (tgt := 89) hx hb dX10_seenOf_82 (by decide) (fun c82 => ?_) (fun c82 => ?_)
        · refine lv_iload hx hb dX10_seenOf_89 (lv_at hl 5 rfl) ?_
          refine zz_ti (show v8 = x5 by rw [hv8, if_neg c82]) ?_
          exact hK9 ls (lv_sub hl [] rfl)
        · refine lv_iload_n hx hb dX10_seenOf_85 rfl (lv_at hl 3 rfl) ?_
          refine lv_goto (tgt := 91) hx hb dX10_seenOf_86 (by decide) ?_
          refine zz_ti (show v8 = x3 by rw [hv8, if_pos c82]) ?_
          exact hK9 ls (lv_sub hl [] rfl)
      · have hf := zz_ng hf c19
        refine lv_aload_n hx hb dX10_seenOf_22 rfl (lv_at hl 0 rfl) ?_
        refine lv_iload hx hb dX10_seenOf_23 (lv_at hl 6 rfl) ?_
        refine lv_iload_n hx hb dX10_seenOf_25 rfl (lv_at hl 1 rfl) ?_
        obtain ⟨r10, hc11, hf⟩ := zz_b1s hf
        refine zz_ji0 (va_runV (As := [.int x6, .int u0]) (rest := []) hfx (zc_X10_isSeenAt l D tb q k F x6 u0 S1 r10 hc11 H.size) (cwV 2 hts gX10_seenOf_X10_isSeenAt rfl rfl rfl (by decide +kernel) ⟨Nat.le_of_ble_eq_true rfl, Nat.le_of_ble_eq_true rfl⟩) (zz_pre0V hK hP hD hS hA hE 0 rfl rfl rfl) rfl rfl hl.1 rfl (lv_room (Nat.le_of_ble_eq_true rfl)) dX10_seenOf_26 ⟨Nat.zero_le _, Nat.zero_le _⟩) hD hS hA (fun H locs hP hD hS => ?_)
        refine lv_istore (lv' := [(7, .int r10), (0, .ref (q 0)), (1, .int u0), (2, .int u1), (3, .int x3), (4, .int x4), (5, .int x5), (6, .int x6)]) hx hb dX10_seenOf_29 hl (by decide) rfl (fun ls hl => ?_)
        refine lv_iload_n hx hb dX10_seenOf_31 rfl (lv_at hl 4 rfl) ?_
        refine lv_iload hx hb dX10_seenOf_32 (lv_at hl 0 rfl) ?_
        obtain ⟨v12, hv12, hf⟩ := zz_lts hf
        have hK13 : ∀ ls : Array Slot, lv_has ls 8 [(7, .int r10), (0, .ref (q 0)), (1, .int u0), (2, .int u1), (4, .int x4), (5, .int x5), (6, .int x6)] → W p l e rmX10_seenOf s m args below meth c H locs 0 0 Q (F0 m 42 ls [.int v12, .int x3]) := by
          intro ls hl
          refine lv_iadd hx hb dX10_seenOf_42 ?_
          obtain ⟨v14, hv14, hf⟩ := zz_lts hf
          refine zz_ti hv14 ?_
          refine lv_istore_n (lv' := [(3, .int v14), (7, .int r10), (0, .ref (q 0)), (1, .int u0), (2, .int u1), (4, .int x4), (5, .int x5), (6, .int x6)]) hx hb dX10_seenOf_43 rfl hl (by decide) rfl (fun ls hl => ?_)
          refine lv_iload hx hb dX10_seenOf_44 (lv_at hl 1 rfl) ?_
          obtain ⟨v15, hv15, hf⟩ := zz_lts hf
          have hK16 : ∀ ls : Array Slot, lv_has ls 8 [(3, .int v14), (0, .ref (q 0)), (1, .int u0), (2, .int u1), (5, .int x5), (6, .int x6)] → W p l e rmX10_seenOf s m args below meth c H locs 0 0 Q (F0 m 57 ls [.int v15]) := by
            intro ls hl
            refine lv_istore (lv' := [(4, .int v15), (3, .int v14), (0, .ref (q 0)), (1, .int u0), (2, .int u1), (5, .int x5), (6, .int x6)]) hx hb dX10_seenOf_57 hl (by decide) rfl (fun ls hl => ?_)
            refine lv_iload hx hb dX10_seenOf_59 (lv_at hl 0 rfl) ?_
            refine lv_iload hx hb dX10_seenOf_61 (lv_at hl 5 rfl) ?_
            obtain ⟨v17, hv17, hf⟩ := zz_lts hf
            have hK18 : ∀ ls : Array Slot, lv_has ls 8 [(4, .int v15), (3, .int v14), (0, .ref (q 0)), (1, .int u0), (2, .int u1), (6, .int x6)] → W p l e rmX10_seenOf s m args below meth c H locs 0 0 Q (F0 m 73 ls [.int v17]) := by
              intro ls hl
              refine lv_istore (lv' := [(5, .int v17), (4, .int v15), (3, .int v14), (0, .ref (q 0)), (1, .int u0), (2, .int u1), (6, .int x6)]) hx hb dX10_seenOf_73 hl (by decide) rfl (fun ls hl => ?_)
              obtain ⟨v19, hv19, hf⟩ := zz_lts hf
              refine lv_iinc (v := v19) (lv' := [(6, .int v19), (5, .int v17), (4, .int v15), (3, .int v14), (0, .ref (q 0)), (1, .int u0), (2, .int u1)]) hx hb dX10_seenOf_75 hl (k := 6) rfl (by rw [hv19]; rfl) (by decide) rfl (fun ls hl => ?_)
              refine lv_goto (tgt := 15) hx hb dX10_seenOf_78 (by decide) ?_
              exact ihkL15_6 v14 v15 v17 v19 _ _ hP hD hS ls (lv_sub hl [4, 5, 6, 3, 2, 1, 0] rfl) hf
            refine lv_icmp_le (tgt := 71) hx hb dX10_seenOf_63 (by decide) (fun c63 => ?_) (fun c63 => ?_)
            · refine lv_iload hx hb dX10_seenOf_71 (lv_at hl 5 rfl) ?_
              refine zz_ti (show v17 = x5 by rw [hv17, if_pos c63]) ?_
              exact hK18 ls (lv_sub hl [0, 1, 2, 3, 4, 6] rfl)
            · refine lv_iload hx hb dX10_seenOf_66 (lv_at hl 0 rfl) ?_
              refine lv_goto (tgt := 73) hx hb dX10_seenOf_68 (by decide) ?_
              refine zz_ti (show v17 = v15 by rw [hv17, if_neg c63]) ?_
              exact hK18 ls (lv_sub hl [0, 1, 2, 3, 4, 6] rfl)
          refine lv_if_eq (tgt := 53) hx hb dX10_seenOf_46 (by decide) (fun c46 => ?_) (fun c46 => ?_)
          · refine lv_iload hx hb dX10_seenOf_53 (lv_at hl 5 rfl) ?_
            refine lv_iconst (v := (1 : Int32)) hx hb dX10_seenOf_55 (by decide) ?_
            refine lv_iadd hx hb dX10_seenOf_56 ?_
            refine zz_ti (show v15 = (x4 + (1 : Int32)) by rw [hv15, if_pos c46]) ?_
            exact hK16 ls (lv_sub hl [0, 2, 3, 4, 6, 7] rfl)
          · refine lv_iconst (v := (0 : Int32)) hx hb dX10_seenOf_49 (by decide) ?_
            refine lv_goto (tgt := 57) hx hb dX10_seenOf_50 (by decide) ?_
            refine zz_ti (show v15 = (0 : Int32) by rw [hv15, if_neg c46]) ?_
            exact hK16 ls (lv_sub hl [0, 2, 3, 4, 6, 7] rfl)
        refine lv_if_eq (tgt := 41) hx hb dX10_seenOf_34 (by decide) (fun c34 => ?_) (fun c34 => ?_)
        · refine lv_iconst (v := (0 : Int32)) hx hb dX10_seenOf_41 (by decide) ?_
          refine zz_ti (show v12 = (0 : Int32) by rw [hv12, if_pos c34]) ?_
          exact hK13 ls (lv_sub hl [0, 1, 2, 3, 5, 6, 7] rfl)
        · refine lv_iconst (v := (1 : Int32)) hx hb dX10_seenOf_37 (by decide) ?_
          refine lv_goto (tgt := 42) hx hb dX10_seenOf_38 (by decide) ?_
          refine zz_ti (show v12 = (1 : Int32) by rw [hv12, if_neg c34]) ?_
          exact hK13 ls (lv_sub hl [0, 1, 2, 3, 5, 6, 7] rfl)
  exact hLkL15_6 F (0 : Int32) (0 : Int32) (0 : Int32) (0 : Int32) _ _ hP hD hS ls (lv_sub hl [4, 5, 6, 3, 2, 1, 0] rfl) hf
def rmX10_seen : Room := { frames := 8, cells := 0, slots := 0, locals := 183 }
set_option maxHeartbeats 4000000 in
set_option maxRecDepth 100000 in
theorem zc_X10_seen (l : Launch) (D : va_G) (tb : Nat → Nat) (q : Nat → Nat) (k : Nat → ClassId) (F : Nat) (u0 : Int32) (u1 : Int32) (S : zz_M) (r : Int32) (o1 : zz_M) (hf : pX10_seen F u0 u1 S = some (r, o1)) : zz_Mi l yX10_seen wsX10_seen rmX10_seen D tb [((k 1), .int), ((k 2), .int), ((k 3), .int), ((k 4), .int), ((k 5), .int), ((k 6), .int), ((k 7), .int), ((k 8), .boolean), ((k 9), .int), ((k 10), .int), ((k 11), .int), ((k 12), .int), ((k 13), .int), ((k 14), .int), ((k 15), .int), ((k 16), .boolean), ((k 17), .int), ((k 18), .int), ((k 19), .int), ((k 20), .int)] [.ref (q 0), .int u0, .int u1] (zw_10 q k S) (zw_10 q k o1) r := by
  refine zz_ofi (cc := cX10_seen) (maxL := 3) (by decide) rfl (Nat.le_of_ble_eq_true rfl) ?_
  intro p e s m args below meth c A Q hfx hK hA hE hret H locs hP hD hS ls hl
  obtain ⟨hx, hb, hml, hown, hts⟩ := id hfx
  have hl : lv_has ls 3 [(0, .ref (q 0)), (1, .int u0), (2, .int u1)] := hl
  unfold pX10_seen at hf
  refine lv_aload_n hx hb dX10_seen_0 rfl (lv_at hl 0 rfl) ?_
  refine lv_iload_n hx hb dX10_seen_1 rfl (lv_at hl 1 rfl) ?_
  obtain ⟨r1, S2, hc3, hf⟩ := zz_b2s hf
  refine zz_ji0 (va_runV (As := [.int u0]) (rest := []) hfx (zc_X10_isCell l D tb q k F u0 S r1 S2 hc3 H.size) (cwV 1 hts gX10_seen_X10_isCell rfl rfl rfl (by decide +kernel) ⟨Nat.le_of_ble_eq_true rfl, Nat.le_of_ble_eq_true rfl⟩) (zz_pre0V hK hP hD hS hA hE 0 rfl rfl rfl) rfl rfl hl.1 rfl (lv_room (Nat.le_of_ble_eq_true rfl)) dX10_seen_2 ⟨Nat.zero_le _, Nat.zero_le _⟩) hD hS hA (fun H locs hP hD hS => ?_)
  obtain ⟨j28_6, hj28_6, hf⟩ := zz_lts hf
  have Kj28_6 : ∀ (y4 : Int32) (z5 : zz_M) (H : Heap) (locs : List Loc), va_P D vwCl (zw_10 q k z5) H → va_D A (zw_10 q k z5) → va_S A s.heap H locs → ∀ ls : Array Slot, lv_has ls 3 [] → j28_6 y4 z5 = some (r, o1) → W p l e rmX10_seen s m args below meth c H locs 0 0 Q (F0 m 28 ls [.int y4]) := by
    intro y4 z5 H locs hP hD hS ls hl hf
    rw [hj28_6] at hf
    obtain ⟨rfl, rfl⟩ := zz_e2 hf
    exact hret _ _ _ _ dX10_seen_28 hP hD hS
  obtain ⟨j26_7, hj26_7, hf⟩ := zz_lts hf
  have Kj26_7 : ∀  (H : Heap) (locs : List Loc), va_P D vwCl (zw_10 q k S2) H → va_D A (zw_10 q k S2) → va_S A s.heap H locs → ∀ ls : Array Slot, lv_has ls 3 [] → j26_7 () = some (r, o1) → W p l e rmX10_seen s m args below meth c H locs 0 0 Q (F0 m 26 ls []) := by
    intro  H locs hP hD hS ls hl hf
    rw [hj26_7] at hf
    refine lv_bipush (v := (-2 : Int32)) hx hb dX10_seen_26 (by decide) ?_
    exact Kj28_6 (-2 : Int32) S2 _ _ hP hD hS ls (lv_sub hl [] rfl) hf
  refine lv_if_eq (tgt := 26) hx hb dX10_seen_5 (by decide) (fun c5 => ?_) (fun c5 => ?_)
  · have hf := zz_ps hf c5
    exact Kj26_7  _ _ hP hD hS ls (lv_sub hl [] rfl) hf
  · have hf := zz_ng hf c5
    refine lv_iload_n hx hb dX10_seen_8 rfl (lv_at hl 2 rfl) ?_
    refine lv_iconst (v := (0 : Int32)) hx hb dX10_seen_9 (by decide) ?_
    refine lv_iconst (v := (1 : Int32)) hx hb dX10_seen_10 (by decide) ?_
    obtain ⟨r8, hc9, hf⟩ := zz_b1s hf
    refine zz_ji (va_runS (As := [.int u1, .int (0 : Int32), .int (1 : Int32)]) (rest := []) hfx (zc_X10_in l D tb  F u1 (0 : Int32) (1 : Int32)  r8 hc9 H.size) (va_cwS 3 hts gX10_seen_X10_in rfl rfl rfl (by decide +kernel) ⟨Nat.le_of_ble_eq_true rfl, Nat.le_of_ble_eq_true rfl⟩) (zz_preS hK hP hD hS hA hE [] [] rfl (by decide) rfl) rfl rfl hl.1 rfl (lv_room (Nat.le_of_ble_eq_true rfl)) dX10_seen_11 ⟨Nat.zero_le _, Nat.zero_le _⟩) hP hD hS hA [] rfl rfl (fun H locs hP hD hS => ?_)
    have hP : va_P D vwCl (zw_10 q k S2) H := hP
    have hD : va_D A (zw_10 q k S2) := hD
    refine lv_if_eq (tgt := 26) hx hb dX10_seen_14 (by decide) (fun c14 => ?_) (fun c14 => ?_)
    · have hf := zz_ps hf c14
      exact Kj26_7  _ _ hP hD hS ls (lv_sub hl [] rfl) hf
    · have hf := zz_ng hf c14
      refine lv_aload_n hx hb dX10_seen_17 rfl (lv_at hl 0 rfl) ?_
      refine lv_iload_n hx hb dX10_seen_18 rfl (lv_at hl 1 rfl) ?_
      refine lv_iload_n hx hb dX10_seen_19 rfl (lv_at hl 2 rfl) ?_
      obtain ⟨r10, S11, hc12, hf⟩ := zz_b2s hf
      refine zz_ji0 (va_runV (As := [.int u0, .int u1]) (rest := []) hfx (zc_X10_seenOf l D tb q k F u0 u1 S2 r10 S11 hc12 H.size) (cwV 2 hts gX10_seen_X10_seenOf rfl rfl rfl (by decide +kernel) ⟨Nat.le_of_ble_eq_true rfl, Nat.le_of_ble_eq_true rfl⟩) (zz_pre0V hK hP hD hS hA hE 0 rfl rfl rfl) rfl rfl hl.1 rfl (lv_room (Nat.le_of_ble_eq_true rfl)) dX10_seen_20 ⟨Nat.zero_le _, Nat.zero_le _⟩) hD hS hA (fun H locs hP hD hS => ?_)
      refine lv_goto (tgt := 28) hx hb dX10_seen_23 (by decide) ?_
      exact Kj28_6 r10 S11 _ _ hP hD hS ls (lv_sub hl [] rfl) hf
def rmX10_takesNow : Room := { frames := 2, cells := 0, slots := 0, locals := 43 }
set_option maxHeartbeats 4000000 in
set_option maxRecDepth 100000 in
theorem zc_X10_takesNow (l : Launch) (D : va_G) (tb : Nat → Nat) (q : Nat → Nat) (k : Nat → ClassId) (F : Nat) (u0 : Int32) (S : zz_M) (r : Int32) (hf : pX10_takesNow F u0 S = some r) : zz_Mi l yX10_takesNow wsX10_takesNow rmX10_takesNow D tb [((k 1), .int), ((k 2), .int), ((k 3), .int), ((k 4), .int), ((k 5), .int), ((k 6), .int), ((k 7), .int), ((k 8), .boolean), ((k 9), .int), ((k 10), .int), ((k 11), .int), ((k 12), .int), ((k 13), .int), ((k 14), .int), ((k 15), .int), ((k 16), .boolean), ((k 17), .int), ((k 18), .int), ((k 19), .int), ((k 20), .int)] [.ref (q 0), .int u0] (zw_10 q k S) (zw_10 q k S) r := by
  refine zz_ofi (cc := cX10_takesNow) (maxL := 5) (by decide) rfl (Nat.le_of_ble_eq_true rfl) ?_
  intro p e s m args below meth c A Q hfx hK hA hE hret H locs hP hD hS ls hl
  obtain ⟨hx, hb, hml, hown, hts⟩ := id hfx
  have inX10 : ∀ w ∈ u_ws RX10 TX10 34, w ∈ wsX10_takesNow := by decide +kernel
  have lk22 := hts (.fieldLink RX10 22 "CatBeatModel" "wants" "[I") (by decide +kernel)
  have lk88 := hts (.fieldLink RX10 88 "CatBeatModel" "cells" "I") (by decide +kernel)
  have lk16 := hts (.fieldLink RX10 16 "CatBeatModel" "kinds" "[I") (by decide +kernel)
  have lk25 := hts (.fieldLink RX10 25 "CatBeatModel" "needs" "[I") (by decide +kernel)
  have hl : lv_has ls 5 [(0, .ref (q 0)), (1, .int u0)] := hl
  unfold pX10_takesNow at hf
  refine lv_aload_n hx hb dX10_takesNow_0 rfl (lv_at hl 0 rfl) ?_
  refine va_get (D := D) (ci := 10) (v := .ref (q 5)) (C := RX10) (T := TX10) (N := 34) hx hb hts inX10 hown hK hP 0 rfl rfl 9 (by decide) lk22 (fun _ h9 => h9) rfl dX10_takesNow_1 ?_
  refine lv_iload_n hx hb dX10_takesNow_4 rfl (lv_at hl 1 rfl) ?_
  obtain ⟨hg1, hf⟩ := zz_gd hf
  refine va_iald hx hb hK hP 5 4 rfl rfl hg1 dX10_takesNow_5 ?_
  obtain ⟨v2, hv2, hf⟩ := zz_lts hf
  refine zz_ti hv2 ?_
  refine lv_istore_n (lv' := [(2, .int v2), (0, .ref (q 0)), (1, .int u0)]) hx hb dX10_takesNow_6 rfl hl (by decide) rfl (fun ls hl => ?_)
  refine lv_iload_n hx hb dX10_takesNow_7 rfl (lv_at hl 0 rfl) ?_
  refine lv_aload_n hx hb dX10_takesNow_8 rfl (lv_at hl 1 rfl) ?_
  refine va_get (D := D) (ci := 10) (v := .int (zz_gI S 2)) (C := RX10) (T := TX10) (N := 34) hx hb hts inX10 hown hK hP 0 rfl rfl 4 (by decide) lk88 (fun _ h9 => h9) rfl dX10_takesNow_9 ?_
  obtain ⟨j25_3, hj25_3, hf⟩ := zz_lts hf
  have Kj25_3 : ∀  (H : Heap) (locs : List Loc), va_P D vwCl (zw_10 q k S) H → va_D A (zw_10 q k S) → va_S A s.heap H locs → ∀ ls : Array Slot, lv_has ls 5 [] → j25_3 () = some r → W p l e rmX10_takesNow s m args below meth c H locs 0 0 Q (F0 m 25 ls []) := by
    intro  H locs hP hD hS ls hl hf
    rw [hj25_3] at hf
    refine lv_iconst (v := (-1 : Int32)) hx hb dX10_takesNow_25 (by decide) ?_
    obtain rfl := zz_e1 hf
    exact hret _ _ _ _ dX10_takesNow_26 hP hD hS
  refine lv_icmp_ge (tgt := 25) hx hb dX10_takesNow_12 (by decide) (fun c12 => ?_) (fun c12 => ?_)
  · have hf := zz_ps hf c12
    exact Kj25_3  _ _ hP hD hS ls (lv_sub hl [] rfl) hf
  · have hf := zz_ng hf c12
    refine lv_aload_n hx hb dX10_takesNow_15 rfl (lv_at hl 1 rfl) ?_
    refine va_get (D := D) (ci := 10) (v := .ref (q 3)) (C := RX10) (T := TX10) (N := 34) hx hb hts inX10 hown hK hP 0 rfl rfl 5 (by decide) lk16 (fun _ h9 => h9) rfl dX10_takesNow_16 ?_
    refine lv_iload_n hx hb dX10_takesNow_19 rfl (lv_at hl 0 rfl) ?_
    obtain ⟨hg4, hf⟩ := zz_gd hf
    refine va_iald hx hb hK hP 3 2 rfl rfl hg4 dX10_takesNow_20 ?_
    refine lv_iconst (v := (2 : Int32)) hx hb dX10_takesNow_21 (by decide) ?_
    refine lv_icmp_eq (tgt := 27) hx hb dX10_takesNow_22 (by decide) (fun c22 => ?_) (fun c22 => ?_)
    · have hf := zz_ps hf c22
      refine lv_iconst (v := (0 : Int32)) hx hb dX10_takesNow_27 (by decide) ?_
      refine lv_istore_n (lv' := [(3, .int (0 : Int32)), (2, .int v2), (0, .ref (q 0)), (1, .int u0)]) hx hb dX10_takesNow_28 rfl hl (by decide) rfl (fun ls hl => ?_)
      refine lv_iconst (v := (0 : Int32)) hx hb dX10_takesNow_29 (by decide) ?_
      refine lv_istore (lv' := [(4, .int (0 : Int32)), (3, .int (0 : Int32)), (2, .int v2), (0, .ref (q 0)), (1, .int u0)]) hx hb dX10_takesNow_30 hl (by decide) rfl (fun ls hl => ?_)
      have hLkL32_6 : ∀ (n32_6 : Nat) (x5 : Int32) (x6 : Int32) (H : Heap) (locs : List Loc), va_P D vwCl (zw_10 q k S) H → va_D A (zw_10 q k S) → va_S A s.heap H locs → ∀ ls : Array Slot, lv_has ls 5 [(2, .int v2), (0, .ref (q 0)), (1, .int u0), (3, .int x5), (4, .int x6)] → pX10_takesNow_L32_6 u0 F S v2 n32_6 x5 x6 = some r → W p l e rmX10_takesNow s m args below meth c H locs 0 0 Q (F0 m 32 ls []) := by
        intro n32_6
        induction n32_6 with
        | zero =>
          intro x5 x6 H locs hP hD hS ls hl hf
          exact nomatch (show (none : Option _) = some _ from hf)
        | succ n32_6 ihkL32_6 =>
          intro x5 x6 H locs hP hD hS ls hl hf
          rw [pX10_takesNow_L32_6] at hf
          refine lv_iload hx hb dX10_takesNow_32 (lv_at hl 4 rfl) ?_
          refine lv_bipush (v := (96 : Int32)) hx hb dX10_takesNow_34 (by decide) ?_
          refine lv_icmp_ge (tgt := 76) hx hb dX10_takesNow_36 (by decide) (fun c36 => ?_) (fun c36 => ?_)
          · have hf := zz_ps hf c36
            refine lv_iconst (v := (-1 : Int32)) hx hb dX10_takesNow_76 (by decide) ?_
            obtain rfl := zz_e1 hf
            exact hret _ _ _ _ dX10_takesNow_77 hP hD hS
          · have hf := zz_ng hf c36
            refine lv_aload_n hx hb dX10_takesNow_39 rfl (lv_at hl 1 rfl) ?_
            refine lv_iload hx hb dX10_takesNow_40 (lv_at hl 4 rfl) ?_
            refine lv_iload_n hx hb dX10_takesNow_42 rfl (lv_at hl 0 rfl) ?_
            obtain ⟨r8, hc9, hf⟩ := zz_b1s hf
            refine zz_ji0 (va_runV (As := [.int x6, .int v2]) (rest := []) hfx (zc_X10_isSeenAt l D tb q k F x6 v2 S r8 hc9 H.size) (cwV 2 hts gX10_takesNow_X10_isSeenAt rfl rfl rfl (by decide +kernel) ⟨Nat.le_of_ble_eq_true rfl, Nat.le_of_ble_eq_true rfl⟩) (zz_pre0V hK hP hD hS hA hE 0 rfl rfl rfl) rfl rfl hl.1 rfl (lv_room (Nat.le_of_ble_eq_true rfl)) dX10_takesNow_43 ⟨Nat.zero_le _, Nat.zero_le _⟩) hD hS hA (fun H locs hP hD hS => ?_)
            obtain ⟨v10, hv10, hf⟩ := zz_lts hf
            have hK11 : ∀ ls : Array Slot, lv_has ls 5 [(2, .int v2), (0, .ref (q 0)), (1, .int u0), (4, .int x6)] → W p l e rmX10_takesNow s m args below meth c H locs 0 0 Q (F0 m 56 ls [.int v10]) := by
              intro ls hl
              refine lv_istore_n (lv' := [(3, .int v10), (2, .int v2), (0, .ref (q 0)), (1, .int u0), (4, .int x6)]) hx hb dX10_takesNow_56 rfl hl (by decide) rfl (fun ls hl => ?_)
              refine lv_iload_n hx hb dX10_takesNow_57 rfl (lv_at hl 0 rfl) ?_
              refine lv_aload_n hx hb dX10_takesNow_58 rfl (lv_at hl 2 rfl) ?_
              refine va_get (D := D) (ci := 10) (v := .ref (q 6)) (C := RX10) (T := TX10) (N := 34) hx hb hts inX10 hown hK hP 0 rfl rfl 10 (by decide) lk25 (fun _ h9 => h9) rfl dX10_takesNow_59 ?_
              refine lv_iload_n hx hb dX10_takesNow_62 rfl (lv_at hl 3 rfl) ?_
              obtain ⟨hg12, hf⟩ := zz_gd hf
              refine va_iald hx hb hK hP 6 5 rfl rfl hg12 dX10_takesNow_63 ?_
              refine lv_icmp_ne (tgt := 70) hx hb dX10_takesNow_64 (by decide) (fun c64 => ?_) (fun c64 => ?_)
              · have hf := zz_ng hf c64
                obtain ⟨v13, hv13, hf⟩ := zz_lts hf
                refine lv_iinc (v := v13) (lv' := [(4, .int v13), (3, .int v10), (2, .int v2), (0, .ref (q 0)), (1, .int u0)]) hx hb dX10_takesNow_70 hl (k := 4) rfl (by rw [hv13]; rfl) (by decide) rfl (fun ls hl => ?_)
                refine lv_goto (tgt := 32) hx hb dX10_takesNow_73 (by decide) ?_
                exact ihkL32_6 v10 v13 _ _ hP hD hS ls (lv_sub hl [2, 3, 4, 1, 0] rfl) hf
              · have hf := zz_ps hf c64
                refine lv_iload hx hb dX10_takesNow_67 (lv_at hl 4 rfl) ?_
                obtain rfl := zz_e1 hf
                exact hret _ _ _ _ dX10_takesNow_69 hP hD hS
            refine lv_if_eq (tgt := 53) hx hb dX10_takesNow_46 (by decide) (fun c46 => ?_) (fun c46 => ?_)
            · refine lv_iload_n hx hb dX10_takesNow_53 rfl (lv_at hl 3 rfl) ?_
              refine lv_iconst (v := (1 : Int32)) hx hb dX10_takesNow_54 (by decide) ?_
              refine lv_iadd hx hb dX10_takesNow_55 ?_
              refine zz_ti (show v10 = (x5 + (1 : Int32)) by rw [hv10, if_pos c46]) ?_
              exact hK11 ls (lv_sub hl [0, 1, 2, 4] rfl)
            · refine lv_iconst (v := (0 : Int32)) hx hb dX10_takesNow_49 (by decide) ?_
              refine lv_goto (tgt := 56) hx hb dX10_takesNow_50 (by decide) ?_
              refine zz_ti (show v10 = (0 : Int32) by rw [hv10, if_neg c46]) ?_
              exact hK11 ls (lv_sub hl [0, 1, 2, 4] rfl)
      exact hLkL32_6 F (0 : Int32) (0 : Int32) _ _ hP hD hS ls (lv_sub hl [2, 3, 4, 1, 0] rfl) hf
    · have hf := zz_ng hf c22
      exact Kj25_3  _ _ hP hD hS ls (lv_sub hl [] rfl) hf
def rmX10_takesOf : Room := { frames := 7, cells := 0, slots := 0, locals := 156 }
set_option maxHeartbeats 4000000 in
set_option maxRecDepth 100000 in
theorem zc_X10_takesOf (l : Launch) (D : va_G) (tb : Nat → Nat) (q : Nat → Nat) (k : Nat → ClassId) (F : Nat) (u0 : Int32) (S : zz_M) (r : Int32) (o1 : zz_M) (hf : pX10_takesOf F u0 S = some (r, o1)) : zz_Mi l yX10_takesOf wsX10_takesOf rmX10_takesOf D tb [((k 1), .int), ((k 2), .int), ((k 3), .int), ((k 4), .int), ((k 5), .int), ((k 6), .int), ((k 7), .int), ((k 8), .boolean), ((k 9), .int), ((k 10), .int), ((k 11), .int), ((k 12), .int), ((k 13), .int), ((k 14), .int), ((k 15), .int), ((k 16), .boolean), ((k 17), .int), ((k 18), .int), ((k 19), .int), ((k 20), .int)] [.ref (q 0), .int u0] (zw_10 q k S) (zw_10 q k o1) r := by
  refine zz_ofi (cc := cX10_takesOf) (maxL := 2) (by decide) rfl (Nat.le_of_ble_eq_true rfl) ?_
  intro p e s m args below meth c A Q hfx hK hA hE hret H locs hP hD hS ls hl
  obtain ⟨hx, hb, hml, hown, hts⟩ := id hfx
  have hl : lv_has ls 2 [(0, .ref (q 0)), (1, .int u0)] := hl
  unfold pX10_takesOf at hf
  refine lv_aload_n hx hb dX10_takesOf_0 rfl (lv_at hl 0 rfl) ?_
  obtain ⟨S1, hc2, hf⟩ := zz_b1s hf
  refine zz_jv0 (va_runV (As := []) (rest := []) hfx (zc_X10_walksTold l D tb q k F  S S1 hc2 H.size) (cwV 0 hts gX10_takesOf_X10_walksTold rfl rfl rfl (by decide +kernel) ⟨Nat.le_of_ble_eq_true rfl, Nat.le_of_ble_eq_true rfl⟩) (zz_pre0V hK hP hD hS hA hE 0 rfl rfl rfl) rfl rfl hl.1 rfl (lv_room (Nat.le_of_ble_eq_true rfl)) dX10_takesOf_1 ⟨Nat.zero_le _, Nat.zero_le _⟩) hD hS hA (fun H locs hP hD hS => ?_)
  refine lv_aload_n hx hb dX10_takesOf_4 rfl (lv_at hl 0 rfl) ?_
  refine lv_iload_n hx hb dX10_takesOf_5 rfl (lv_at hl 1 rfl) ?_
  obtain ⟨r3, hc4, hf⟩ := zz_b1s hf
  refine zz_ji0 (va_runV (As := [.int u0]) (rest := []) hfx (zc_X10_takesNow l D tb q k F u0 S1 r3 hc4 H.size) (cwV 1 hts gX10_takesOf_X10_takesNow rfl rfl rfl (by decide +kernel) ⟨Nat.le_of_ble_eq_true rfl, Nat.le_of_ble_eq_true rfl⟩) (zz_pre0V hK hP hD hS hA hE 0 rfl rfl rfl) rfl rfl hl.1 rfl (lv_room (Nat.le_of_ble_eq_true rfl)) dX10_takesOf_6 ⟨Nat.zero_le _, Nat.zero_le _⟩) hD hS hA (fun H locs hP hD hS => ?_)
  obtain ⟨rfl, rfl⟩ := zz_e2 hf
  exact hret _ _ _ _ dX10_takesOf_9 hP hD hS
def rmX10_takes : Room := { frames := 8, cells := 0, slots := 0, locals := 177 }
set_option maxHeartbeats 4000000 in
set_option maxRecDepth 100000 in
theorem zc_X10_takes (l : Launch) (D : va_G) (tb : Nat → Nat) (q : Nat → Nat) (k : Nat → ClassId) (F : Nat) (u0 : Int32) (S : zz_M) (r : Int32) (o1 : zz_M) (hf : pX10_takes F u0 S = some (r, o1)) : zz_Mi l yX10_takes wsX10_takes rmX10_takes D tb [((k 1), .int), ((k 2), .int), ((k 3), .int), ((k 4), .int), ((k 5), .int), ((k 6), .int), ((k 7), .int), ((k 8), .boolean), ((k 9), .int), ((k 10), .int), ((k 11), .int), ((k 12), .int), ((k 13), .int), ((k 14), .int), ((k 15), .int), ((k 16), .boolean), ((k 17), .int), ((k 18), .int), ((k 19), .int), ((k 20), .int)] [.ref (q 0), .int u0] (zw_10 q k S) (zw_10 q k o1) r := by
  refine zz_ofi (cc := cX10_takes) (maxL := 2) (by decide) rfl (Nat.le_of_ble_eq_true rfl) ?_
  intro p e s m args below meth c A Q hfx hK hA hE hret H locs hP hD hS ls hl
  obtain ⟨hx, hb, hml, hown, hts⟩ := id hfx
  have hl : lv_has ls 2 [(0, .ref (q 0)), (1, .int u0)] := hl
  unfold pX10_takes at hf
  refine lv_aload_n hx hb dX10_takes_0 rfl (lv_at hl 0 rfl) ?_
  refine lv_iload_n hx hb dX10_takes_1 rfl (lv_at hl 1 rfl) ?_
  obtain ⟨r1, S2, hc3, hf⟩ := zz_b2s hf
  refine zz_ji0 (va_runV (As := [.int u0]) (rest := []) hfx (zc_X10_isThief l D tb q k F u0 S r1 S2 hc3 H.size) (cwV 1 hts gX10_takes_X10_isThief rfl rfl rfl (by decide +kernel) ⟨Nat.le_of_ble_eq_true rfl, Nat.le_of_ble_eq_true rfl⟩) (zz_pre0V hK hP hD hS hA hE 0 rfl rfl rfl) rfl rfl hl.1 rfl (lv_room (Nat.le_of_ble_eq_true rfl)) dX10_takes_2 ⟨Nat.zero_le _, Nat.zero_le _⟩) hD hS hA (fun H locs hP hD hS => ?_)
  obtain ⟨j18_6, hj18_6, hf⟩ := zz_lts hf
  have Kj18_6 : ∀ (y4 : Int32) (z5 : zz_M) (H : Heap) (locs : List Loc), va_P D vwCl (zw_10 q k z5) H → va_D A (zw_10 q k z5) → va_S A s.heap H locs → ∀ ls : Array Slot, lv_has ls 2 [] → j18_6 y4 z5 = some (r, o1) → W p l e rmX10_takes s m args below meth c H locs 0 0 Q (F0 m 18 ls [.int y4]) := by
    intro y4 z5 H locs hP hD hS ls hl hf
    rw [hj18_6] at hf
    obtain ⟨rfl, rfl⟩ := zz_e2 hf
    exact hret _ _ _ _ dX10_takes_18 hP hD hS
  refine lv_if_eq (tgt := 16) hx hb dX10_takes_5 (by decide) (fun c5 => ?_) (fun c5 => ?_)
  · have hf := zz_ps hf c5
    refine lv_bipush (v := (-2 : Int32)) hx hb dX10_takes_16 (by decide) ?_
    exact Kj18_6 (-2 : Int32) S2 _ _ hP hD hS ls (lv_sub hl [] rfl) hf
  · have hf := zz_ng hf c5
    refine lv_aload_n hx hb dX10_takes_8 rfl (lv_at hl 0 rfl) ?_
    refine lv_iload_n hx hb dX10_takes_9 rfl (lv_at hl 1 rfl) ?_
    obtain ⟨r7, S8, hc9, hf⟩ := zz_b2s hf
    refine zz_ji0 (va_runV (As := [.int u0]) (rest := []) hfx (zc_X10_takesOf l D tb q k F u0 S2 r7 S8 hc9 H.size) (cwV 1 hts gX10_takes_X10_takesOf rfl rfl rfl (by decide +kernel) ⟨Nat.le_of_ble_eq_true rfl, Nat.le_of_ble_eq_true rfl⟩) (zz_pre0V hK hP hD hS hA hE 0 rfl rfl rfl) rfl rfl hl.1 rfl (lv_room (Nat.le_of_ble_eq_true rfl)) dX10_takes_10 ⟨Nat.zero_le _, Nat.zero_le _⟩) hD hS hA (fun H locs hP hD hS => ?_)
    refine lv_goto (tgt := 18) hx hb dX10_takes_13 (by decide) ?_
    exact Kj18_6 r7 S8 _ _ hP hD hS ls (lv_sub hl [] rfl) hf
def rmX10_isTaken : Room := { frames := 3, cells := 0, slots := 0, locals := 67 }
set_option maxHeartbeats 4000000 in
set_option maxRecDepth 100000 in
theorem zc_X10_isTaken (l : Launch) (D : va_G) (tb : Nat → Nat) (q : Nat → Nat) (k : Nat → ClassId) (F : Nat) (u0 : Int32) (S : zz_M) (r : Int32) (hf : pX10_isTaken F u0 S = some r) : zz_Mi l yX10_isTaken wsX10_isTaken rmX10_isTaken D tb [((k 1), .int), ((k 2), .int), ((k 3), .int), ((k 4), .int), ((k 5), .int), ((k 6), .int), ((k 7), .int), ((k 8), .boolean), ((k 9), .int), ((k 10), .int), ((k 11), .int), ((k 12), .int), ((k 13), .int), ((k 14), .int), ((k 15), .int), ((k 16), .boolean), ((k 17), .int), ((k 18), .int), ((k 19), .int), ((k 20), .int)] [.ref (q 0), .int u0] (zw_10 q k S) (zw_10 q k S) r := by
  refine zz_ofz (cc := cX10_isTaken) (maxL := 4) (by decide) rfl (Nat.le_of_ble_eq_true rfl) ?_
  intro p e s m args below meth c A Q hfx hK hA hE hret H locs hP hD hS ls hl
  obtain ⟨hx, hb, hml, hown, hts⟩ := id hfx
  have inX10 : ∀ w ∈ u_ws RX10 TX10 34, w ∈ wsX10_isTaken := by decide +kernel
  have lk111 := hts (.fieldLink RX10 111 "CatBeatModel" "thieves" "I") (by decide +kernel)
  have lk22 := hts (.fieldLink RX10 22 "CatBeatModel" "wants" "[I") (by decide +kernel)
  have hl : lv_has ls 4 [(0, .ref (q 0)), (1, .int u0)] := hl
  unfold pX10_isTaken at hf
  refine lv_iconst (v := (0 : Int32)) hx hb dX10_isTaken_0 (by decide) ?_
  refine lv_istore_n (lv' := [(2, .int (0 : Int32)), (0, .ref (q 0)), (1, .int u0)]) hx hb dX10_isTaken_1 rfl hl (by decide) rfl (fun ls hl => ?_)
  refine lv_iconst (v := (0 : Int32)) hx hb dX10_isTaken_2 (by decide) ?_
  refine lv_istore_n (lv' := [(3, .int (0 : Int32)), (2, .int (0 : Int32)), (0, .ref (q 0)), (1, .int u0)]) hx hb dX10_isTaken_3 rfl hl (by decide) rfl (fun ls hl => ?_)
  have hLkL4_2 : ∀ (n4_2 : Nat) (x1 : Int32) (x2 : Int32) (H : Heap) (locs : List Loc), va_P D vwCl (zw_10 q k S) H → va_D A (zw_10 q k S) → va_S A s.heap H locs → ∀ ls : Array Slot, lv_has ls 4 [(0, .ref (q 0)), (1, .int u0), (2, .int x1), (3, .int x2)] → pX10_isTaken_L4_2 u0 F S n4_2 x1 x2 = some r → W p l e rmX10_isTaken s m args below meth c H locs 0 0 Q (F0 m 4 ls []) := by
    intro n4_2
    induction n4_2 with
    | zero =>
      intro x1 x2 H locs hP hD hS ls hl hf
      exact nomatch (show (none : Option _) = some _ from hf)
    | succ n4_2 ihkL4_2 =>
      intro x1 x2 H locs hP hD hS ls hl hf
      rw [pX10_isTaken_L4_2] at hf
      refine lv_iload_n hx hb dX10_isTaken_4 rfl (lv_at hl 3 rfl) ?_
      refine lv_aload_n hx hb dX10_isTaken_5 rfl (lv_at hl 0 rfl) ?_
      refine va_get (D := D) (ci := 10) (v := .int (zz_gI S 4)) (C := RX10) (T := TX10) (N := 34) hx hb hts inX10 hown hK hP 0 rfl rfl 8 (by decide) lk111 (fun _ h9 => h9) rfl dX10_isTaken_6 ?_
      refine lv_icmp_ge (tgt := 47) hx hb dX10_isTaken_9 (by decide) (fun c9 => ?_) (fun c9 => ?_)
      · have hf := zz_ps hf c9
        refine lv_iload_n hx hb dX10_isTaken_47 rfl (lv_at hl 2 rfl) ?_
        obtain ⟨hg4, hf⟩ := zz_gd hf
        obtain rfl := zz_e1 hf
        exact hret _ _ _ _ (zz_nb hg4) dX10_isTaken_48 hP hD hS
      · have hf := zz_ng hf c9
        refine lv_iload_n hx hb dX10_isTaken_12 rfl (lv_at hl 2 rfl) ?_
        obtain ⟨j40_6, hj40_6, hf⟩ := zz_lts hf
        have Kj40_6 : ∀ (y5 : Int32) (H : Heap) (locs : List Loc), va_P D vwCl (zw_10 q k S) H → va_D A (zw_10 q k S) → va_S A s.heap H locs → ∀ ls : Array Slot, lv_has ls 4 [(0, .ref (q 0)), (1, .int u0), (3, .int x2)] → j40_6 y5 = some r → W p l e rmX10_isTaken s m args below meth c H locs 0 0 Q (F0 m 40 ls [.int y5]) := by
          intro y5 H locs hP hD hS ls hl hf
          rw [hj40_6] at hf
          refine lv_istore_n (lv' := [(2, .int y5), (0, .ref (q 0)), (1, .int u0), (3, .int x2)]) hx hb dX10_isTaken_40 rfl hl (by decide) rfl (fun ls hl => ?_)
          obtain ⟨v7, hv7, hf⟩ := zz_lts hf
          refine lv_iinc (v := v7) (lv' := [(3, .int v7), (2, .int y5), (0, .ref (q 0)), (1, .int u0)]) hx hb dX10_isTaken_41 hl (k := 3) rfl (by rw [hv7]; rfl) (by decide) rfl (fun ls hl => ?_)
          refine lv_goto (tgt := 4) hx hb dX10_isTaken_44 (by decide) ?_
          exact ihkL4_2 y5 v7 _ _ hP hD hS ls (lv_sub hl [2, 3, 1, 0] rfl) hf
        obtain ⟨j35_8, hj35_8, hf⟩ := zz_lts hf
        have Kj35_8 : ∀  (H : Heap) (locs : List Loc), va_P D vwCl (zw_10 q k S) H → va_D A (zw_10 q k S) → va_S A s.heap H locs → ∀ ls : Array Slot, lv_has ls 4 [(0, .ref (q 0)), (1, .int u0), (3, .int x2)] → j35_8 () = some r → W p l e rmX10_isTaken s m args below meth c H locs 0 0 Q (F0 m 35 ls []) := by
          intro  H locs hP hD hS ls hl hf
          rw [hj35_8] at hf
          refine lv_iconst (v := (1 : Int32)) hx hb dX10_isTaken_35 (by decide) ?_
          refine lv_goto (tgt := 40) hx hb dX10_isTaken_36 (by decide) ?_
          exact Kj40_6 (1 : Int32) _ _ hP hD hS ls (lv_sub hl [0, 1, 2] rfl) hf
        refine lv_if_ne (tgt := 35) hx hb dX10_isTaken_13 (by decide) (fun c13 => ?_) (fun c13 => ?_)
        · have hf := zz_ng hf c13
          exact Kj35_8  _ _ hP hD hS ls (lv_sub hl [0, 1, 3] rfl) hf
        · have hf := zz_ps hf c13
          refine lv_aload_n hx hb dX10_isTaken_16 rfl (lv_at hl 0 rfl) ?_
          refine va_get (D := D) (ci := 10) (v := .ref (q 5)) (C := RX10) (T := TX10) (N := 34) hx hb hts inX10 hown hK hP 0 rfl rfl 9 (by decide) lk22 (fun _ h9 => h9) rfl dX10_isTaken_17 ?_
          refine lv_iload_n hx hb dX10_isTaken_20 rfl (lv_at hl 3 rfl) ?_
          obtain ⟨hg9, hf⟩ := zz_gd hf
          refine va_iald hx hb hK hP 5 4 rfl rfl hg9 dX10_isTaken_21 ?_
          refine lv_iload_n hx hb dX10_isTaken_22 rfl (lv_at hl 1 rfl) ?_
          obtain ⟨j39_10, hj39_10, hf⟩ := zz_lts hf
          have Kj39_10 : ∀  (H : Heap) (locs : List Loc), va_P D vwCl (zw_10 q k S) H → va_D A (zw_10 q k S) → va_S A s.heap H locs → ∀ ls : Array Slot, lv_has ls 4 [(0, .ref (q 0)), (1, .int u0), (3, .int x2)] → j39_10 () = some r → W p l e rmX10_isTaken s m args below meth c H locs 0 0 Q (F0 m 39 ls []) := by
            intro  H locs hP hD hS ls hl hf
            rw [hj39_10] at hf
            refine lv_iconst (v := (0 : Int32)) hx hb dX10_isTaken_39 (by decide) ?_
            exact Kj40_6 (0 : Int32) _ _ hP hD hS ls (lv_sub hl [0, 1, 2] rfl) hf
          refine lv_icmp_ne (tgt := 39) hx hb dX10_isTaken_23 (by decide) (fun c23 => ?_) (fun c23 => ?_)
          · have hf := zz_ng hf c23
            exact Kj39_10  _ _ hP hD hS ls (lv_sub hl [0, 1, 3] rfl) hf
          · have hf := zz_ps hf c23
            refine lv_aload_n hx hb dX10_isTaken_26 rfl (lv_at hl 0 rfl) ?_
            refine lv_iload_n hx hb dX10_isTaken_27 rfl (lv_at hl 3 rfl) ?_
            obtain ⟨r11, hc12, hf⟩ := zz_b1s hf
            refine zz_ji0 (va_runV (As := [.int x2]) (rest := []) hfx (zc_X10_takesNow l D tb q k F x2 S r11 hc12 H.size) (cwV 1 hts gX10_isTaken_X10_takesNow rfl rfl rfl (by decide +kernel) ⟨Nat.le_of_ble_eq_true rfl, Nat.le_of_ble_eq_true rfl⟩) (zz_pre0V hK hP hD hS hA hE 0 rfl rfl rfl) rfl rfl hl.1 rfl (lv_room (Nat.le_of_ble_eq_true rfl)) dX10_isTaken_28 ⟨Nat.zero_le _, Nat.zero_le _⟩) hD hS hA (fun H locs hP hD hS => ?_)
            refine lv_iconst (v := (-1 : Int32)) hx hb dX10_isTaken_31 (by decide) ?_
            refine lv_icmp_eq (tgt := 39) hx hb dX10_isTaken_32 (by decide) (fun c32 => ?_) (fun c32 => ?_)
            · have hf := zz_ps hf c32
              exact Kj39_10  _ _ hP hD hS ls (lv_sub hl [0, 1, 3] rfl) hf
            · have hf := zz_ng hf c32
              exact Kj35_8  _ _ hP hD hS ls (lv_sub hl [0, 1, 3] rfl) hf
  exact hLkL4_2 F (0 : Int32) (0 : Int32) _ _ hP hD hS ls (lv_sub hl [2, 3, 1, 0] rfl) hf
def rmX10_safeOf : Room := { frames := 7, cells := 0, slots := 0, locals := 156 }
set_option maxHeartbeats 4000000 in
set_option maxRecDepth 100000 in
theorem zc_X10_safeOf (l : Launch) (D : va_G) (tb : Nat → Nat) (q : Nat → Nat) (k : Nat → ClassId) (F : Nat) (u0 : Int32) (S : zz_M) (r : Int32) (o1 : zz_M) (hf : pX10_safeOf F u0 S = some (r, o1)) : zz_Mi l yX10_safeOf wsX10_safeOf rmX10_safeOf D tb [((k 1), .int), ((k 2), .int), ((k 3), .int), ((k 4), .int), ((k 5), .int), ((k 6), .int), ((k 7), .int), ((k 8), .boolean), ((k 9), .int), ((k 10), .int), ((k 11), .int), ((k 12), .int), ((k 13), .int), ((k 14), .int), ((k 15), .int), ((k 16), .boolean), ((k 17), .int), ((k 18), .int), ((k 19), .int), ((k 20), .int)] [.ref (q 0), .int u0] (zw_10 q k S) (zw_10 q k o1) r := by
  refine zz_ofi (cc := cX10_safeOf) (maxL := 4) (by decide) rfl (Nat.le_of_ble_eq_true rfl) ?_
  intro p e s m args below meth c A Q hfx hK hA hE hret H locs hP hD hS ls hl
  obtain ⟨hx, hb, hml, hown, hts⟩ := id hfx
  have inX10 : ∀ w ∈ u_ws RX10 TX10 34, w ∈ wsX10_safeOf := by decide +kernel
  have lk88 := hts (.fieldLink RX10 88 "CatBeatModel" "cells" "I") (by decide +kernel)
  have lk16 := hts (.fieldLink RX10 16 "CatBeatModel" "kinds" "[I") (by decide +kernel)
  have hl : lv_has ls 4 [(0, .ref (q 0)), (1, .int u0)] := hl
  unfold pX10_safeOf at hf
  refine lv_aload_n hx hb dX10_safeOf_0 rfl (lv_at hl 0 rfl) ?_
  obtain ⟨S1, hc2, hf⟩ := zz_b1s hf
  refine zz_jv0 (va_runV (As := []) (rest := []) hfx (zc_X10_walksTold l D tb q k F  S S1 hc2 H.size) (cwV 0 hts gX10_safeOf_X10_walksTold rfl rfl rfl (by decide +kernel) ⟨Nat.le_of_ble_eq_true rfl, Nat.le_of_ble_eq_true rfl⟩) (zz_pre0V hK hP hD hS hA hE 0 rfl rfl rfl) rfl rfl hl.1 rfl (lv_room (Nat.le_of_ble_eq_true rfl)) dX10_safeOf_1 ⟨Nat.zero_le _, Nat.zero_le _⟩) hD hS hA (fun H locs hP hD hS => ?_)
  refine lv_iconst (v := (0 : Int32)) hx hb dX10_safeOf_4 (by decide) ?_
  refine lv_istore_n (lv' := [(2, .int (0 : Int32)), (0, .ref (q 0)), (1, .int u0)]) hx hb dX10_safeOf_5 rfl hl (by decide) rfl (fun ls hl => ?_)
  refine lv_iconst (v := (0 : Int32)) hx hb dX10_safeOf_6 (by decide) ?_
  refine lv_istore_n (lv' := [(3, .int (0 : Int32)), (2, .int (0 : Int32)), (0, .ref (q 0)), (1, .int u0)]) hx hb dX10_safeOf_7 rfl hl (by decide) rfl (fun ls hl => ?_)
  have hLkL8_4 : ∀ (n8_4 : Nat) (x3 : Int32) (x4 : Int32) (H : Heap) (locs : List Loc), va_P D vwCl (zw_10 q k S1) H → va_D A (zw_10 q k S1) → va_S A s.heap H locs → ∀ ls : Array Slot, lv_has ls 4 [(0, .ref (q 0)), (1, .int u0), (2, .int x3), (3, .int x4)] → pX10_safeOf_L8_4 u0 F S1 n8_4 x3 x4 = some (r, o1) → W p l e rmX10_safeOf s m args below meth c H locs 0 0 Q (F0 m 8 ls []) := by
    intro n8_4
    induction n8_4 with
    | zero =>
      intro x3 x4 H locs hP hD hS ls hl hf
      exact nomatch (show (none : Option _) = some _ from hf)
    | succ n8_4 ihkL8_4 =>
      intro x3 x4 H locs hP hD hS ls hl hf
      rw [pX10_safeOf_L8_4] at hf
      refine lv_iload_n hx hb dX10_safeOf_8 rfl (lv_at hl 3 rfl) ?_
      refine lv_aload_n hx hb dX10_safeOf_9 rfl (lv_at hl 0 rfl) ?_
      refine va_get (D := D) (ci := 10) (v := .int (zz_gI S1 2)) (C := RX10) (T := TX10) (N := 34) hx hb hts inX10 hown hK hP 0 rfl rfl 4 (by decide) lk88 (fun _ h9 => h9) rfl dX10_safeOf_10 ?_
      refine lv_icmp_ge (tgt := 61) hx hb dX10_safeOf_13 (by decide) (fun c13 => ?_) (fun c13 => ?_)
      · have hf := zz_ps hf c13
        refine lv_iload_n hx hb dX10_safeOf_61 rfl (lv_at hl 2 rfl) ?_
        obtain ⟨rfl, rfl⟩ := zz_e2 hf
        exact hret _ _ _ _ dX10_safeOf_62 hP hD hS
      · have hf := zz_ng hf c13
        refine lv_iload_n hx hb dX10_safeOf_16 rfl (lv_at hl 2 rfl) ?_
        refine lv_aload_n hx hb dX10_safeOf_17 rfl (lv_at hl 0 rfl) ?_
        refine va_get (D := D) (ci := 10) (v := .ref (q 3)) (C := RX10) (T := TX10) (N := 34) hx hb hts inX10 hown hK hP 0 rfl rfl 5 (by decide) lk16 (fun _ h9 => h9) rfl dX10_safeOf_18 ?_
        refine lv_iload_n hx hb dX10_safeOf_21 rfl (lv_at hl 3 rfl) ?_
        obtain ⟨hg6, hf⟩ := zz_gd hf
        refine va_iald hx hb hK hP 3 2 rfl rfl hg6 dX10_safeOf_22 ?_
        refine lv_iconst (v := (2 : Int32)) hx hb dX10_safeOf_23 (by decide) ?_
        obtain ⟨j53_8, hj53_8, hf⟩ := zz_lts hf
        have Kj53_8 : ∀ (y7 : Int32) (H : Heap) (locs : List Loc), va_P D vwCl (zw_10 q k S1) H → va_D A (zw_10 q k S1) → va_S A s.heap H locs → ∀ ls : Array Slot, lv_has ls 4 [(0, .ref (q 0)), (1, .int u0), (3, .int x4)] → j53_8 y7 = some (r, o1) → W p l e rmX10_safeOf s m args below meth c H locs 0 0 Q (F0 m 53 ls [.int y7, .int x3]) := by
          intro y7 H locs hP hD hS ls hl hf
          rw [hj53_8] at hf
          refine lv_ior hx hb dX10_safeOf_53 ?_
          obtain ⟨v9, hv9, hf⟩ := zz_lts hf
          refine zz_ti hv9 ?_
          refine lv_istore_n (lv' := [(2, .int v9), (0, .ref (q 0)), (1, .int u0), (3, .int x4)]) hx hb dX10_safeOf_54 rfl hl (by decide) rfl (fun ls hl => ?_)
          obtain ⟨v10, hv10, hf⟩ := zz_lts hf
          refine lv_iinc (v := v10) (lv' := [(3, .int v10), (2, .int v9), (0, .ref (q 0)), (1, .int u0)]) hx hb dX10_safeOf_55 hl (k := 3) rfl (by rw [hv10]; rfl) (by decide) rfl (fun ls hl => ?_)
          refine lv_goto (tgt := 8) hx hb dX10_safeOf_58 (by decide) ?_
          exact ihkL8_4 v9 v10 _ _ hP hD hS ls (lv_sub hl [2, 3, 1, 0] rfl) hf
        obtain ⟨j52_11, hj52_11, hf⟩ := zz_lts hf
        have Kj52_11 : ∀  (H : Heap) (locs : List Loc), va_P D vwCl (zw_10 q k S1) H → va_D A (zw_10 q k S1) → va_S A s.heap H locs → ∀ ls : Array Slot, lv_has ls 4 [(0, .ref (q 0)), (1, .int u0), (3, .int x4)] → j52_11 () = some (r, o1) → W p l e rmX10_safeOf s m args below meth c H locs 0 0 Q (F0 m 52 ls [.int x3]) := by
          intro  H locs hP hD hS ls hl hf
          rw [hj52_11] at hf
          refine lv_iconst (v := (0 : Int32)) hx hb dX10_safeOf_52 (by decide) ?_
          exact Kj53_8 (0 : Int32) _ _ hP hD hS ls (lv_sub hl [0, 1, 2] rfl) hf
        refine lv_icmp_ne (tgt := 52) hx hb dX10_safeOf_24 (by decide) (fun c24 => ?_) (fun c24 => ?_)
        · have hf := zz_ng hf c24
          exact Kj52_11  _ _ hP hD hS ls (lv_sub hl [0, 1, 3] rfl) hf
        · have hf := zz_ps hf c24
          refine lv_aload_n hx hb dX10_safeOf_27 rfl (lv_at hl 0 rfl) ?_
          refine lv_iload_n hx hb dX10_safeOf_28 rfl (lv_at hl 3 rfl) ?_
          obtain ⟨r12, hc13, hf⟩ := zz_b1s hf
          refine zz_ji0 (va_runV (As := [.int x4]) (rest := [.int x3]) hfx (zc_X10_isTaken l D tb q k F x4 S1 r12 hc13 H.size) (cwV 1 hts gX10_safeOf_X10_isTaken rfl rfl rfl (by decide +kernel) ⟨Nat.le_of_ble_eq_true rfl, Nat.le_of_ble_eq_true rfl⟩) (zz_pre0V hK hP hD hS hA hE 0 rfl rfl rfl) rfl rfl hl.1 rfl (lv_room (Nat.le_of_ble_eq_true rfl)) dX10_safeOf_29 ⟨Nat.zero_le _, Nat.zero_le _⟩) hD hS hA (fun H locs hP hD hS => ?_)
          refine lv_if_ne (tgt := 52) hx hb dX10_safeOf_32 (by decide) (fun c32 => ?_) (fun c32 => ?_)
          · have hf := zz_ng hf c32
            exact Kj52_11  _ _ hP hD hS ls (lv_sub hl [0, 1, 3] rfl) hf
          · have hf := zz_ps hf c32
            refine lv_iload_n hx hb dX10_safeOf_35 rfl (lv_at hl 3 rfl) ?_
            refine lv_bipush (v := (18 : Int32)) hx hb dX10_safeOf_36 (by decide) ?_
            refine lv_idiv hx hb dX10_safeOf_38 (by decide) ?_
            refine lv_iload_n hx hb dX10_safeOf_39 rfl (lv_at hl 1 rfl) ?_
            refine lv_icmp_ne (tgt := 52) hx hb dX10_safeOf_40 (by decide) (fun c40 => ?_) (fun c40 => ?_)
            · have hf := zz_ng hf c40
              exact Kj52_11  _ _ hP hD hS ls (lv_sub hl [0, 1, 3] rfl) hf
            · have hf := zz_ps hf c40
              refine lv_iconst (v := (1 : Int32)) hx hb dX10_safeOf_43 (by decide) ?_
              refine lv_iload_n hx hb dX10_safeOf_44 rfl (lv_at hl 3 rfl) ?_
              refine lv_bipush (v := (18 : Int32)) hx hb dX10_safeOf_45 (by decide) ?_
              refine lv_irem hx hb dX10_safeOf_47 (by decide) ?_
              refine lv_ishl hx hb dX10_safeOf_48 ?_
              refine lv_goto (tgt := 53) hx hb dX10_safeOf_49 (by decide) ?_
              exact Kj53_8 ((1 : Int32) <<< ((x4 - x4 / (18 : Int32) * (18 : Int32)) &&& 31)) _ _ hP hD hS ls (lv_sub hl [0, 1, 3] rfl) hf
  exact hLkL8_4 F (0 : Int32) (0 : Int32) _ _ hP hD hS ls (lv_sub hl [2, 3, 1, 0] rfl) hf
