def rmX9_isEither : Room := { frames := 0, cells := 0, slots := 0, locals := 0 }
set_option maxHeartbeats 4000000 in
set_option maxRecDepth 100000 in
theorem zc_X9_isEither (l : Launch) (D : va_G) (tb : Nat → Nat)  (F : Nat) (u0 : Int32)  (r : Int32) (hf : pX9_isEither F u0 = some r) : zz_Mi l yX9_isEither wsX9_isEither rmX9_isEither D tb [] [.int u0] zw_none zw_none r := by
  refine zz_ofz (cc := cX9_isEither) (maxL := 1) (by decide) rfl (Nat.le_of_ble_eq_true rfl) ?_
  intro p e s m args below meth c A Q hfx hK hA hE hret H locs hP hD hS ls hl
  obtain ⟨hx, hb, hml, hown, hts⟩ := id hfx
  have hl : lv_has ls 1 [(0, .int u0)] := hl
  unfold pX9_isEither at hf
  refine lv_iload_n hx hb dX9_isEither_0 rfl (lv_at hl 0 rfl) ?_
  obtain ⟨v1, hv1, hf⟩ := zz_lts hf
  have hK2 : ∀ ls : Array Slot, lv_has ls 1 [] → W p l e rmX9_isEither s m args below meth c H locs 0 0 Q (F0 m 14 ls [.int v1]) := by
    intro ls hl
    obtain rfl := zz_e1 hf
    exact hret _ _ _ _ (by rw [hv1]; (repeat' split) <;> rfl) dX9_isEither_14 hP hD hS
  refine lv_if_eq (tgt := 9) hx hb dX9_isEither_1 (by decide) (fun c1 => ?_) (fun c1 => ?_)
  · refine lv_iconst (v := (1 : Int32)) hx hb dX9_isEither_9 (by decide) ?_
    refine lv_goto (tgt := 14) hx hb dX9_isEither_10 (by decide) ?_
    refine zz_ti (show v1 = (1 : Int32) by rw [hv1, if_pos c1]) ?_
    exact hK2 ls (lv_sub hl [] rfl)
  · refine lv_iload_n hx hb dX9_isEither_4 rfl (lv_at hl 0 rfl) ?_
    refine lv_iconst (v := (1 : Int32)) hx hb dX9_isEither_5 (by decide) ?_
    refine lv_icmp_ne (tgt := 13) hx hb dX9_isEither_6 (by decide) (fun c6 => ?_) (fun c6 => ?_)
    · refine lv_iconst (v := (0 : Int32)) hx hb dX9_isEither_13 (by decide) ?_
      refine zz_ti (show v1 = (0 : Int32) by rw [hv1, if_neg c1, if_neg c6]) ?_
      exact hK2 ls (lv_sub hl [] rfl)
    · refine lv_iconst (v := (1 : Int32)) hx hb dX9_isEither_9 (by decide) ?_
      refine lv_goto (tgt := 14) hx hb dX9_isEither_10 (by decide) ?_
      refine zz_ti (show v1 = (1 : Int32) by rw [hv1, if_neg c1, if_pos c6]) ?_
      exact hK2 ls (lv_sub hl [] rfl)
def rmX8_has : Room := { frames := 0, cells := 0, slots := 0, locals := 0 }
set_option maxHeartbeats 4000000 in
set_option maxRecDepth 100000 in
theorem zc_X8_has (l : Launch) (D : va_G) (tb : Nat → Nat) (a0 a1 : Nat) (k1 : ClassId) (F : Nat) (u0 : Int32) (count0 : Int32) (width0 : Int32) (shops0 : Int64) (kinds0 : Nat → Int32) (r : Int32) (hf : pX8_has F u0 count0 width0 shops0 kinds0 = some r) : zz_Mi l yX8_has wsX8_has rmX8_has D tb [(k1, .int)] [.ref a0, .int u0] (zw_8 a0 a1 k1 count0 width0 shops0 kinds0) (zw_8 a0 a1 k1 count0 width0 shops0 kinds0) r := by
  refine zz_ofz (cc := cX8_has) (maxL := 2) (by decide) rfl (Nat.le_of_ble_eq_true rfl) ?_
  intro p e s m args below meth c A Q hfx hK hA hE hret H locs hP hD hS ls hl
  obtain ⟨hx, hb, hml, hown, hts⟩ := id hfx
  have inX8 : ∀ w ∈ u_ws RX8 TX8 4, w ∈ wsX8_has := by decide +kernel
  have lk15 := hts (.fieldLink RX8 15 "CatBeat$Ward" "count" "I") (by decide +kernel)
  have hl : lv_has ls 2 [(0, .ref a0), (1, .int u0)] := hl
  unfold pX8_has at hf
  refine lv_iload_n hx hb dX8_has_0 rfl (lv_at hl 1 rfl) ?_
  obtain ⟨v1, hv1, hf⟩ := zz_lts hf
  have hK2 : ∀ ls : Array Slot, lv_has ls 2 [] → W p l e rmX8_has s m args below meth c H locs 0 0 Q (F0 m 17 ls [.int v1]) := by
    intro ls hl
    obtain rfl := zz_e1 hf
    exact hret _ _ _ _ (by rw [hv1]; (repeat' split) <;> rfl) dX8_has_17 hP hD hS
  refine lv_if_lt (tgt := 16) hx hb dX8_has_1 (by decide) (fun c1 => ?_) (fun c1 => ?_)
  · refine lv_iconst (v := (0 : Int32)) hx hb dX8_has_16 (by decide) ?_
    refine zz_ti (show v1 = (0 : Int32) by rw [hv1, if_pos c1]) ?_
    exact hK2 ls (lv_sub hl [] rfl)
  · refine lv_iload_n hx hb dX8_has_4 rfl (lv_at hl 1 rfl) ?_
    refine lv_aload_n hx hb dX8_has_5 rfl (lv_at hl 0 rfl) ?_
    refine va_get (D := D) (ci := 8) (v := .int count0) (C := RX8) (T := TX8) (N := 4) hx hb hts inX8 hown hK hP 0 rfl rfl 1 (by decide) lk15 (fun _ h9 => h9) rfl dX8_has_6 ?_
    refine lv_icmp_ge (tgt := 16) hx hb dX8_has_9 (by decide) (fun c9 => ?_) (fun c9 => ?_)
    · refine lv_iconst (v := (0 : Int32)) hx hb dX8_has_16 (by decide) ?_
      refine zz_ti (show v1 = (0 : Int32) by rw [hv1, if_neg c1, if_pos c9]) ?_
      exact hK2 ls (lv_sub hl [] rfl)
    · refine lv_iconst (v := (1 : Int32)) hx hb dX8_has_12 (by decide) ?_
      refine lv_goto (tgt := 17) hx hb dX8_has_13 (by decide) ?_
      refine zz_ti (show v1 = (1 : Int32) by rw [hv1, if_neg c1, if_neg c9]) ?_
      exact hK2 ls (lv_sub hl [] rfl)
def rmX8_isFor : Room := { frames := 1, cells := 0, slots := 0, locals := 21 }
set_option maxHeartbeats 4000000 in
set_option maxRecDepth 100000 in
theorem zc_X8_isFor (l : Launch) (D : va_G) (tb : Nat → Nat) (a0 a1 : Nat) (k1 : ClassId) (F : Nat) (u0 : Int32) (u1 : Int32) (count0 : Int32) (width0 : Int32) (shops0 : Int64) (kinds0 : Nat → Int32) (r : Int32) (hf : pX8_isFor F u0 u1 count0 width0 shops0 kinds0 = some r) : zz_Mi l yX8_isFor wsX8_isFor rmX8_isFor D tb [(k1, .int)] [.ref a0, .int u0, .int u1] (zw_8 a0 a1 k1 count0 width0 shops0 kinds0) (zw_8 a0 a1 k1 count0 width0 shops0 kinds0) r := by
  refine zz_ofz (cc := cX8_isFor) (maxL := 3) (by decide) rfl (Nat.le_of_ble_eq_true rfl) ?_
  intro p e s m args below meth c A Q hfx hK hA hE hret H locs hP hD hS ls hl
  obtain ⟨hx, hb, hml, hown, hts⟩ := id hfx
  have inX8 : ∀ w ∈ u_ws RX8 TX8 4, w ∈ wsX8_isFor := by decide +kernel
  have lk9 := hts (.fieldLink RX8 9 "CatBeat$Ward" "kinds" "[I") (by decide +kernel)
  have hl : lv_has ls 3 [(0, .ref a0), (1, .int u0), (2, .int u1)] := hl
  unfold pX8_isFor at hf
  refine lv_aload_n hx hb dX8_isFor_0 rfl (lv_at hl 0 rfl) ?_
  refine lv_iload_n hx hb dX8_isFor_1 rfl (lv_at hl 2 rfl) ?_
  obtain ⟨r1, hc2, hf⟩ := zz_b1s hf
  refine zz_ji (va_runV (As := [.int u1]) (rest := []) hfx (zc_X8_has l D tb a0 a1 k1 F u1 count0 width0 shops0 kinds0 r1 hc2 H.size) (cwV 1 hts gX8_isFor_X8_has rfl rfl rfl (by decide +kernel) ⟨Nat.le_of_ble_eq_true rfl, Nat.le_of_ble_eq_true rfl⟩) (zz_preV hK hP hD hS hA hE [0, 1] [0] rfl (by decide) rfl 0 rfl rfl rfl) rfl rfl hl.1 rfl (lv_room (Nat.le_of_ble_eq_true rfl)) dX8_isFor_2 ⟨Nat.zero_le _, Nat.zero_le _⟩) hP hD hS hA [0, 1] rfl rfl (fun H locs hP hD hS => ?_)
  have hP : va_P D vwCl (zw_8 a0 a1 k1 count0 width0 shops0 kinds0) H := hP
  have hD : va_D A (zw_8 a0 a1 k1 count0 width0 shops0 kinds0) := hD
  refine lv_if_ne (tgt := 10) hx hb dX8_isFor_5 (by decide) (fun c5 => ?_) (fun c5 => ?_)
  · have hf := zz_ng hf c5
    refine lv_aload_n hx hb dX8_isFor_10 rfl (lv_at hl 0 rfl) ?_
    refine va_get (D := D) (ci := 8) (v := .ref a1) (C := RX8) (T := TX8) (N := 4) hx hb hts inX8 hown hK hP 0 rfl rfl 0 (by decide) lk9 (fun _ h9 => h9) rfl dX8_isFor_11 ?_
    refine lv_iload_n hx hb dX8_isFor_14 rfl (lv_at hl 2 rfl) ?_
    obtain ⟨hg3, hf⟩ := zz_gd hf
    refine va_iald hx hb hK hP 1 0 rfl rfl hg3 dX8_isFor_15 ?_
    by_cases cs16_0 : (kinds0 (Int32.toNatClampNeg u1)) = (1 : Int32)
    · have hf := zz_ps hf cs16_0
      refine zz_ti (y := (1 : Int32)) cs16_0.symm ?_
      refine lv_tableIn (off := 32) (tgt := 48) hx hb dX8_isFor_16 (by decide) (by decide) rfl (by decide) ?_
      refine lv_iconst (v := (0 : Int32)) hx hb dX8_isFor_48 (by decide) ?_
      obtain rfl := zz_e1 hf
      exact hret _ _ _ _ rfl dX8_isFor_49 hP hD hS
    have hf := zz_ng hf cs16_0
    by_cases cs16_1 : (kinds0 (Int32.toNatClampNeg u1)) = (2 : Int32)
    · have hf := zz_ps hf cs16_1
      refine zz_ti (y := (2 : Int32)) cs16_1.symm ?_
      refine lv_tableIn (off := 57) (tgt := 73) hx hb dX8_isFor_16 (by decide) (by decide) rfl (by decide) ?_
      refine lv_iconst (v := (1 : Int32)) hx hb dX8_isFor_73 (by decide) ?_
      obtain rfl := zz_e1 hf
      exact hret _ _ _ _ rfl dX8_isFor_74 hP hD hS
    have hf := zz_ng hf cs16_1
    by_cases cs16_2 : (kinds0 (Int32.toNatClampNeg u1)) = (3 : Int32)
    · have hf := zz_ps hf cs16_2
      refine zz_ti (y := (3 : Int32)) cs16_2.symm ?_
      refine lv_tableIn (off := 34) (tgt := 50) hx hb dX8_isFor_16 (by decide) (by decide) rfl (by decide) ?_
      refine lv_iload_n hx hb dX8_isFor_50 rfl (lv_at hl 1 rfl) ?_
      refine lv_bipush (v := (7 : Int32)) hx hb dX8_isFor_51 (by decide) ?_
      obtain ⟨v4, hv4, hf⟩ := zz_lts hf
      have hK5 : ∀ ls : Array Slot, lv_has ls 3 [] → W p l e rmX8_isFor s m args below meth c H locs 0 0 Q (F0 m 61 ls [.int v4]) := by
        intro ls hl
        obtain rfl := zz_e1 hf
        exact hret _ _ _ _ (by rw [hv4]; (repeat' split) <;> rfl) dX8_isFor_61 hP hD hS
      refine lv_icmp_gt (tgt := 60) hx hb dX8_isFor_53 (by decide) (fun c53 => ?_) (fun c53 => ?_)
      · refine lv_iconst (v := (0 : Int32)) hx hb dX8_isFor_60 (by decide) ?_
        refine zz_ti (show v4 = (0 : Int32) by rw [hv4, if_pos c53]) ?_
        exact hK5 ls (lv_sub hl [] rfl)
      · refine lv_iconst (v := (1 : Int32)) hx hb dX8_isFor_56 (by decide) ?_
        refine lv_goto (tgt := 61) hx hb dX8_isFor_57 (by decide) ?_
        refine zz_ti (show v4 = (1 : Int32) by rw [hv4, if_neg c53]) ?_
        exact hK5 ls (lv_sub hl [] rfl)
    have hf := zz_ng hf cs16_2
    by_cases cs16_3 : (kinds0 (Int32.toNatClampNeg u1)) = (4 : Int32)
    · have hf := zz_ps hf cs16_3
      refine zz_ti (y := (4 : Int32)) cs16_3.symm ?_
      refine lv_tableIn (off := 46) (tgt := 62) hx hb dX8_isFor_16 (by decide) (by decide) rfl (by decide) ?_
      refine lv_iload_n hx hb dX8_isFor_62 rfl (lv_at hl 1 rfl) ?_
      refine lv_iconst (v := (2 : Int32)) hx hb dX8_isFor_63 (by decide) ?_
      obtain ⟨v6, hv6, hf⟩ := zz_lts hf
      have hK7 : ∀ ls : Array Slot, lv_has ls 3 [] → W p l e rmX8_isFor s m args below meth c H locs 0 0 Q (F0 m 72 ls [.int v6]) := by
        intro ls hl
        obtain rfl := zz_e1 hf
        exact hret _ _ _ _ (by rw [hv6]; (repeat' split) <;> rfl) dX8_isFor_72 hP hD hS
      refine lv_icmp_gt (tgt := 71) hx hb dX8_isFor_64 (by decide) (fun c64 => ?_) (fun c64 => ?_)
      · refine lv_iconst (v := (0 : Int32)) hx hb dX8_isFor_71 (by decide) ?_
        refine zz_ti (show v6 = (0 : Int32) by rw [hv6, if_pos c64]) ?_
        exact hK7 ls (lv_sub hl [] rfl)
      · refine lv_iconst (v := (1 : Int32)) hx hb dX8_isFor_67 (by decide) ?_
        refine lv_goto (tgt := 72) hx hb dX8_isFor_68 (by decide) ?_
        refine zz_ti (show v6 = (1 : Int32) by rw [hv6, if_neg c64]) ?_
        exact hK7 ls (lv_sub hl [] rfl)
    have hf := zz_ng hf cs16_3
    obtain ⟨cd16, hf⟩ := zz_gd hf
    refine lv_tableOut (tgt := 73) hx hb dX8_isFor_16 cd16 (by decide) ?_
    refine lv_iconst (v := (1 : Int32)) hx hb dX8_isFor_73 (by decide) ?_
    obtain rfl := zz_e1 hf
    exact hret _ _ _ _ rfl dX8_isFor_74 hP hD hS
  · have hf := zz_ps hf c5
    refine lv_iconst (v := (0 : Int32)) hx hb dX8_isFor_8 (by decide) ?_
    obtain rfl := zz_e1 hf
    exact hret _ _ _ _ rfl dX8_isFor_9 hP hD hS
def rmX8_neighbour : Room := { frames := 0, cells := 0, slots := 0, locals := 0 }
set_option maxHeartbeats 4000000 in
set_option maxRecDepth 100000 in
theorem zc_X8_neighbour (l : Launch) (D : va_G) (tb : Nat → Nat) (a0 a1 : Nat) (k1 : ClassId) (F : Nat) (u0 : Int32) (u1 : Int32) (count0 : Int32) (width0 : Int32) (shops0 : Int64) (kinds0 : Nat → Int32) (r : Int32) (hf : pX8_neighbour F u0 u1 count0 width0 shops0 kinds0 = some r) : zz_Mi l yX8_neighbour wsX8_neighbour rmX8_neighbour D tb [(k1, .int)] [.ref a0, .int u0, .int u1] (zw_8 a0 a1 k1 count0 width0 shops0 kinds0) (zw_8 a0 a1 k1 count0 width0 shops0 kinds0) r := by
  refine zz_ofi (cc := cX8_neighbour) (maxL := 4) (by decide) rfl (Nat.le_of_ble_eq_true rfl) ?_
  intro p e s m args below meth c A Q hfx hK hA hE hret H locs hP hD hS ls hl
  obtain ⟨hx, hb, hml, hown, hts⟩ := id hfx
  have inX8 : ∀ w ∈ u_ws RX8 TX8 4, w ∈ wsX8_neighbour := by decide +kernel
  have lk19 := hts (.fieldLink RX8 19 "CatBeat$Ward" "width" "I") (by decide +kernel)
  have lk15 := hts (.fieldLink RX8 15 "CatBeat$Ward" "count" "I") (by decide +kernel)
  have hl : lv_has ls 4 [(0, .ref a0), (1, .int u0), (2, .int u1)] := hl
  unfold pX8_neighbour at hf
  refine lv_aload_n hx hb dX8_neighbour_0 rfl (lv_at hl 0 rfl) ?_
  refine va_get (D := D) (ci := 8) (v := .int width0) (C := RX8) (T := TX8) (N := 4) hx hb hts inX8 hown hK hP 0 rfl rfl 2 (by decide) lk19 (fun _ h9 => h9) rfl dX8_neighbour_1 ?_
  obtain ⟨j17_2, hj17_2, hf⟩ := zz_lts hf
  have Kj17_2 : ∀ (y1 : Int32) (H : Heap) (locs : List Loc), va_P D vwCl (zw_8 a0 a1 k1 count0 width0 shops0 kinds0) H → va_D A (zw_8 a0 a1 k1 count0 width0 shops0 kinds0) → va_S A s.heap H locs → ∀ ls : Array Slot, lv_has ls 4 [(0, .ref a0), (1, .int u0), (2, .int u1)] → j17_2 y1 = some r → W p l e rmX8_neighbour s m args below meth c H locs 0 0 Q (F0 m 17 ls [.int y1]) := by
    intro y1 H locs hP hD hS ls hl hf
    rw [hj17_2] at hf
    refine lv_istore_n (lv' := [(3, .int y1), (0, .ref a0), (1, .int u0), (2, .int u1)]) hx hb dX8_neighbour_17 rfl hl (by decide) rfl (fun ls hl => ?_)
    refine lv_iload_n hx hb dX8_neighbour_18 rfl (lv_at hl 3 rfl) ?_
    by_cases cs19_0 : u1 = (0 : Int32)
    · have hf := zz_ps hf cs19_0
      refine zz_ti (y := (0 : Int32)) cs19_0.symm ?_
      refine lv_tableIn (off := 29) (tgt := 48) hx hb dX8_neighbour_19 (by decide) (by decide) rfl (by decide) ?_
      refine lv_iload_n hx hb dX8_neighbour_48 rfl (lv_at hl 2 rfl) ?_
      refine lv_aload_n hx hb dX8_neighbour_49 rfl (lv_at hl 1 rfl) ?_
      refine va_get (D := D) (ci := 8) (v := .int width0) (C := RX8) (T := TX8) (N := 4) hx hb hts inX8 hown hK hP 0 rfl rfl 2 (by decide) lk19 (fun _ h9 => h9) rfl dX8_neighbour_50 ?_
      obtain ⟨v3, hv3, hf⟩ := zz_lts hf
      have hK4 : ∀ ls : Array Slot, lv_has ls 4 [] → W p l e rmX8_neighbour s m args below meth c H locs 0 0 Q (F0 m 66 ls [.int v3]) := by
        intro ls hl
        obtain rfl := zz_e1 hf
        exact hret _ _ _ _ dX8_neighbour_66 hP hD hS
      refine lv_icmp_lt (tgt := 65) hx hb dX8_neighbour_53 (by decide) (fun c53 => ?_) (fun c53 => ?_)
      · refine lv_iconst (v := (-1 : Int32)) hx hb dX8_neighbour_65 (by decide) ?_
        refine zz_ti (show v3 = (-1 : Int32) by rw [hv3, if_pos c53]) ?_
        exact hK4 ls (lv_sub hl [] rfl)
      · refine lv_iload_n hx hb dX8_neighbour_56 rfl (lv_at hl 2 rfl) ?_
        refine lv_aload_n hx hb dX8_neighbour_57 rfl (lv_at hl 1 rfl) ?_
        refine va_get (D := D) (ci := 8) (v := .int width0) (C := RX8) (T := TX8) (N := 4) hx hb hts inX8 hown hK hP 0 rfl rfl 2 (by decide) lk19 (fun _ h9 => h9) rfl dX8_neighbour_58 ?_
        refine lv_isub hx hb dX8_neighbour_61 ?_
        refine lv_goto (tgt := 66) hx hb dX8_neighbour_62 (by decide) ?_
        refine zz_ti (show v3 = (u0 - width0) by rw [hv3, if_neg c53]) ?_
        exact hK4 ls (lv_sub hl [] rfl)
    have hf := zz_ng hf cs19_0
    by_cases cs19_1 : u1 = (1 : Int32)
    · have hf := zz_ps hf cs19_1
      refine zz_ti (y := (1 : Int32)) cs19_1.symm ?_
      refine lv_tableIn (off := 48) (tgt := 67) hx hb dX8_neighbour_19 (by decide) (by decide) rfl (by decide) ?_
      refine lv_iload_n hx hb dX8_neighbour_67 rfl (lv_at hl 0 rfl) ?_
      refine lv_iconst (v := (1 : Int32)) hx hb dX8_neighbour_68 (by decide) ?_
      refine lv_iadd hx hb dX8_neighbour_69 ?_
      refine lv_aload_n hx hb dX8_neighbour_70 rfl (lv_at hl 1 rfl) ?_
      refine va_get (D := D) (ci := 8) (v := .int width0) (C := RX8) (T := TX8) (N := 4) hx hb hts inX8 hown hK hP 0 rfl rfl 2 (by decide) lk19 (fun _ h9 => h9) rfl dX8_neighbour_71 ?_
      obtain ⟨v5, hv5, hf⟩ := zz_lts hf
      have hK6 : ∀ ls : Array Slot, lv_has ls 4 [] → W p l e rmX8_neighbour s m args below meth c H locs 0 0 Q (F0 m 84 ls [.int v5]) := by
        intro ls hl
        obtain rfl := zz_e1 hf
        exact hret _ _ _ _ dX8_neighbour_84 hP hD hS
      refine lv_icmp_ge (tgt := 83) hx hb dX8_neighbour_74 (by decide) (fun c74 => ?_) (fun c74 => ?_)
      · refine lv_iconst (v := (-1 : Int32)) hx hb dX8_neighbour_83 (by decide) ?_
        refine zz_ti (show v5 = (-1 : Int32) by rw [hv5, if_pos c74]) ?_
        exact hK6 ls (lv_sub hl [] rfl)
      · refine lv_iload_n hx hb dX8_neighbour_77 rfl (lv_at hl 2 rfl) ?_
        refine lv_iconst (v := (1 : Int32)) hx hb dX8_neighbour_78 (by decide) ?_
        refine lv_iadd hx hb dX8_neighbour_79 ?_
        refine lv_goto (tgt := 84) hx hb dX8_neighbour_80 (by decide) ?_
        refine zz_ti (show v5 = (u0 + (1 : Int32)) by rw [hv5, if_neg c74]) ?_
        exact hK6 ls (lv_sub hl [] rfl)
    have hf := zz_ng hf cs19_1
    by_cases cs19_2 : u1 = (2 : Int32)
    · have hf := zz_ps hf cs19_2
      refine zz_ti (y := (2 : Int32)) cs19_2.symm ?_
      refine lv_tableIn (off := 66) (tgt := 85) hx hb dX8_neighbour_19 (by decide) (by decide) rfl (by decide) ?_
      refine lv_iload_n hx hb dX8_neighbour_85 rfl (lv_at hl 2 rfl) ?_
      refine lv_aload_n hx hb dX8_neighbour_86 rfl (lv_at hl 1 rfl) ?_
      refine va_get (D := D) (ci := 8) (v := .int width0) (C := RX8) (T := TX8) (N := 4) hx hb hts inX8 hown hK hP 0 rfl rfl 2 (by decide) lk19 (fun _ h9 => h9) rfl dX8_neighbour_87 ?_
      refine lv_iadd hx hb dX8_neighbour_90 ?_
      refine lv_aload_n hx hb dX8_neighbour_91 rfl (lv_at hl 1 rfl) ?_
      refine va_get (D := D) (ci := 8) (v := .int count0) (C := RX8) (T := TX8) (N := 4) hx hb hts inX8 hown hK hP 0 rfl rfl 1 (by decide) lk15 (fun _ h9 => h9) rfl dX8_neighbour_92 ?_
      obtain ⟨v7, hv7, hf⟩ := zz_lts hf
      have hK8 : ∀ ls : Array Slot, lv_has ls 4 [] → W p l e rmX8_neighbour s m args below meth c H locs 0 0 Q (F0 m 108 ls [.int v7]) := by
        intro ls hl
        obtain rfl := zz_e1 hf
        exact hret _ _ _ _ dX8_neighbour_108 hP hD hS
      refine lv_icmp_ge (tgt := 107) hx hb dX8_neighbour_95 (by decide) (fun c95 => ?_) (fun c95 => ?_)
      · refine lv_iconst (v := (-1 : Int32)) hx hb dX8_neighbour_107 (by decide) ?_
        refine zz_ti (show v7 = (-1 : Int32) by rw [hv7, if_pos c95]) ?_
        exact hK8 ls (lv_sub hl [] rfl)
      · refine lv_iload_n hx hb dX8_neighbour_98 rfl (lv_at hl 2 rfl) ?_
        refine lv_aload_n hx hb dX8_neighbour_99 rfl (lv_at hl 1 rfl) ?_
        refine va_get (D := D) (ci := 8) (v := .int width0) (C := RX8) (T := TX8) (N := 4) hx hb hts inX8 hown hK hP 0 rfl rfl 2 (by decide) lk19 (fun _ h9 => h9) rfl dX8_neighbour_100 ?_
        refine lv_iadd hx hb dX8_neighbour_103 ?_
        refine lv_goto (tgt := 108) hx hb dX8_neighbour_104 (by decide) ?_
        refine zz_ti (show v7 = (u0 + width0) by rw [hv7, if_neg c95]) ?_
        exact hK8 ls (lv_sub hl [] rfl)
    have hf := zz_ng hf cs19_2
    by_cases cs19_3 : u1 = (3 : Int32)
    · have hf := zz_ps hf cs19_3
      refine zz_ti (y := (3 : Int32)) cs19_3.symm ?_
      refine lv_tableIn (off := 90) (tgt := 109) hx hb dX8_neighbour_19 (by decide) (by decide) rfl (by decide) ?_
      refine lv_iload_n hx hb dX8_neighbour_109 rfl (lv_at hl 0 rfl) ?_
      obtain ⟨v9, hv9, hf⟩ := zz_lts hf
      have hK10 : ∀ ls : Array Slot, lv_has ls 4 [] → W p l e rmX8_neighbour s m args below meth c H locs 0 0 Q (F0 m 120 ls [.int v9]) := by
        intro ls hl
        obtain rfl := zz_e1 hf
        exact hret _ _ _ _ dX8_neighbour_120 hP hD hS
      refine lv_if_le (tgt := 119) hx hb dX8_neighbour_110 (by decide) (fun c110 => ?_) (fun c110 => ?_)
      · refine lv_iconst (v := (-1 : Int32)) hx hb dX8_neighbour_119 (by decide) ?_
        refine zz_ti (show v9 = (-1 : Int32) by rw [hv9, if_pos c110]) ?_
        exact hK10 ls (lv_sub hl [] rfl)
      · refine lv_iload_n hx hb dX8_neighbour_113 rfl (lv_at hl 2 rfl) ?_
        refine lv_iconst (v := (1 : Int32)) hx hb dX8_neighbour_114 (by decide) ?_
        refine lv_isub hx hb dX8_neighbour_115 ?_
        refine lv_goto (tgt := 120) hx hb dX8_neighbour_116 (by decide) ?_
        refine zz_ti (show v9 = (u0 - (1 : Int32)) by rw [hv9, if_neg c110]) ?_
        exact hK10 ls (lv_sub hl [] rfl)
    have hf := zz_ng hf cs19_3
    obtain ⟨cd19, hf⟩ := zz_gd hf
    refine lv_tableOut (tgt := 121) hx hb dX8_neighbour_19 cd19 (by decide) ?_
    refine lv_iload_n hx hb dX8_neighbour_121 rfl (lv_at hl 2 rfl) ?_
    obtain rfl := zz_e1 hf
    exact hret _ _ _ _ dX8_neighbour_122 hP hD hS
  refine lv_if_ne (tgt := 11) hx hb dX8_neighbour_4 (by decide) (fun c4 => ?_) (fun c4 => ?_)
  · have hf := zz_ng hf c4
    refine lv_iload_n hx hb dX8_neighbour_11 rfl (lv_at hl 1 rfl) ?_
    refine lv_aload_n hx hb dX8_neighbour_12 rfl (lv_at hl 0 rfl) ?_
    refine va_get (D := D) (ci := 8) (v := .int width0) (C := RX8) (T := TX8) (N := 4) hx hb hts inX8 hown hK hP 0 rfl rfl 2 (by decide) lk19 (fun _ h9 => h9) rfl dX8_neighbour_13 ?_
    obtain ⟨hg11, hf⟩ := zz_gd hf
    refine lv_irem hx hb dX8_neighbour_16 hg11 ?_
    exact Kj17_2 (u0 - u0 / width0 * width0) _ _ hP hD hS ls (lv_sub hl [0, 1, 2] rfl) hf
  · have hf := zz_ps hf c4
    refine lv_iconst (v := (0 : Int32)) hx hb dX8_neighbour_7 (by decide) ?_
    refine lv_goto (tgt := 17) hx hb dX8_neighbour_8 (by decide) ?_
    exact Kj17_2 (0 : Int32) _ _ hP hD hS ls (lv_sub hl [0, 1, 2] rfl) hf
def rmX8_viewFrom : Room := { frames := 1, cells := 0, slots := 0, locals := 23 }
set_option maxHeartbeats 4000000 in
set_option maxRecDepth 100000 in
theorem zc_X8_viewFrom (l : Launch) (D : va_G) (tb : Nat → Nat) (a0 a1 : Nat) (k1 : ClassId) (F : Nat) (u0 : Int32) (u1 : Int32) (count0 : Int32) (width0 : Int32) (shops0 : Int64) (kinds0 : Nat → Int32) (r : Int64) (hf : pX8_viewFrom F u0 u1 count0 width0 shops0 kinds0 = some r) : zz_Ml l yX8_viewFrom wsX8_viewFrom rmX8_viewFrom D tb [(k1, .int)] [.ref a0, .int u0, .int u1] (zw_8 a0 a1 k1 count0 width0 shops0 kinds0) (zw_8 a0 a1 k1 count0 width0 shops0 kinds0) r := by
  refine zz_ofl (cc := cX8_viewFrom) (maxL := 8) (by decide) rfl (Nat.le_of_ble_eq_true rfl) ?_
  intro p e s m args below meth c A Q hfx hK hA hE hret H locs hP hD hS ls hl
  obtain ⟨hx, hb, hml, hown, hts⟩ := id hfx
  have inX8 : ∀ w ∈ u_ws RX8 TX8 4, w ∈ wsX8_viewFrom := by decide +kernel
  have lk9 := hts (.fieldLink RX8 9 "CatBeat$Ward" "kinds" "[I") (by decide +kernel)
  have hl : lv_has ls 8 [(0, .ref a0), (1, .int u0), (2, .int u1)] := hl
  unfold pX8_viewFrom at hf
  refine lv_aload_n hx hb dX8_viewFrom_0 rfl (lv_at hl 0 rfl) ?_
  refine lv_iload_n hx hb dX8_viewFrom_1 rfl (lv_at hl 1 rfl) ?_
  obtain ⟨r1, hc2, hf⟩ := zz_b1s hf
  refine zz_ji (va_runV (As := [.int u0]) (rest := []) hfx (zc_X8_has l D tb a0 a1 k1 F u0 count0 width0 shops0 kinds0 r1 hc2 H.size) (cwV 1 hts gX8_viewFrom_X8_has rfl rfl rfl (by decide +kernel) ⟨Nat.le_of_ble_eq_true rfl, Nat.le_of_ble_eq_true rfl⟩) (zz_preV hK hP hD hS hA hE [0, 1] [0] rfl (by decide) rfl 0 rfl rfl rfl) rfl rfl hl.1 rfl (lv_room (Nat.le_of_ble_eq_true rfl)) dX8_viewFrom_2 ⟨Nat.zero_le _, Nat.zero_le _⟩) hP hD hS hA [0, 1] rfl rfl (fun H locs hP hD hS => ?_)
  have hP : va_P D vwCl (zw_8 a0 a1 k1 count0 width0 shops0 kinds0) H := hP
  have hD : va_D A (zw_8 a0 a1 k1 count0 width0 shops0 kinds0) := hD
  refine lv_if_ne (tgt := 10) hx hb dX8_viewFrom_5 (by decide) (fun c5 => ?_) (fun c5 => ?_)
  · have hf := zz_ng hf c5
    refine lv_lconst (v := (1 : Int64)) hx hb dX8_viewFrom_10 (by decide) ?_
    refine lv_iload_n hx hb dX8_viewFrom_11 rfl (lv_at hl 1 rfl) ?_
    refine lv_lshl (v := (zz_lshl (1 : Int64) u0)) hx hb dX8_viewFrom_12 rfl ?_
    obtain ⟨v3, hv3, hf⟩ := zz_lts hf
    refine zz_tl hv3 ?_
    refine lv_lstore_n (lv' := [(3, .long v3), (0, .ref a0), (1, .int u0), (2, .int u1)]) hx hb dX8_viewFrom_13 rfl hl (by decide) rfl (fun ls hl => ?_)
    refine lv_iconst (v := (0 : Int32)) hx hb dX8_viewFrom_14 (by decide) ?_
    refine lv_istore (lv' := [(5, .int (0 : Int32)), (3, .long v3), (0, .ref a0), (1, .int u0), (2, .int u1)]) hx hb dX8_viewFrom_15 hl (by decide) rfl (fun ls hl => ?_)
    have hLkL17_5 : ∀ (n17_5 : Nat) (x4 : Int64) (x5 : Int32) (H : Heap) (locs : List Loc), va_P D vwCl (zw_8 a0 a1 k1 count0 width0 shops0 kinds0) H → va_D A (zw_8 a0 a1 k1 count0 width0 shops0 kinds0) → va_S A s.heap H locs → ∀ ls : Array Slot, lv_has ls 8 [(0, .ref a0), (1, .int u0), (2, .int u1), (3, .long x4), (5, .int x5)] → pX8_viewFrom_L17_5 u0 u1 F count0 width0 shops0 kinds0 n17_5 x4 x5 = some r → W p l e rmX8_viewFrom s m args below meth c H locs 0 0 Q (F0 m 17 ls []) := by
      intro n17_5
      induction n17_5 with
      | zero =>
        intro x4 x5 H locs hP hD hS ls hl hf
        exact nomatch (show (none : Option _) = some _ from hf)
      | succ n17_5 ihkL17_5 =>
        intro x4 x5 H locs hP hD hS ls hl hf
        rw [pX8_viewFrom_L17_5] at hf
        refine lv_iload hx hb dX8_viewFrom_17 (lv_at hl 4 rfl) ?_
        refine lv_iconst (v := (4 : Int32)) hx hb dX8_viewFrom_19 (by decide) ?_
        refine lv_icmp_ge (tgt := 90) hx hb dX8_viewFrom_20 (by decide) (fun c20 => ?_) (fun c20 => ?_)
        · have hf := zz_ps hf c20
          refine lv_lload_n hx hb dX8_viewFrom_90 rfl (lv_at hl 3 rfl) ?_
          obtain rfl := zz_e1 hf
          exact hret _ _ _ _ dX8_viewFrom_91 hP hD hS
        · have hf := zz_ng hf c20
          refine lv_aload_n hx hb dX8_viewFrom_23 rfl (lv_at hl 0 rfl) ?_
          refine lv_iload_n hx hb dX8_viewFrom_24 rfl (lv_at hl 1 rfl) ?_
          refine lv_iload hx hb dX8_viewFrom_25 (lv_at hl 4 rfl) ?_
          obtain ⟨r7, hc8, hf⟩ := zz_b1s hf
          refine zz_ji (va_runV (As := [.int u0, .int x5]) (rest := []) hfx (zc_X8_neighbour l D tb a0 a1 k1 F u0 x5 count0 width0 shops0 kinds0 r7 hc8 H.size) (cwV 2 hts gX8_viewFrom_X8_neighbour rfl rfl rfl (by decide +kernel) ⟨Nat.le_of_ble_eq_true rfl, Nat.le_of_ble_eq_true rfl⟩) (zz_preV hK hP hD hS hA hE [0, 1] [0] rfl (by decide) rfl 0 rfl rfl rfl) rfl rfl hl.1 rfl (lv_room (Nat.le_of_ble_eq_true rfl)) dX8_viewFrom_27 ⟨Nat.zero_le _, Nat.zero_le _⟩) hP hD hS hA [0, 1] rfl rfl (fun H locs hP hD hS => ?_)
          have hP : va_P D vwCl (zw_8 a0 a1 k1 count0 width0 shops0 kinds0) H := hP
          have hD : va_D A (zw_8 a0 a1 k1 count0 width0 shops0 kinds0) := hD
          refine lv_istore (lv' := [(6, .int r7), (0, .ref a0), (1, .int u0), (2, .int u1), (3, .long x4), (5, .int x5)]) hx hb dX8_viewFrom_30 hl (by decide) rfl (fun ls hl => ?_)
          refine lv_iconst (v := (1 : Int32)) hx hb dX8_viewFrom_32 (by decide) ?_
          refine lv_istore (lv' := [(7, .int (1 : Int32)), (6, .int r7), (0, .ref a0), (1, .int u0), (2, .int u1), (3, .long x4), (5, .int x5)]) hx hb dX8_viewFrom_33 hl (by decide) rfl (fun ls hl => ?_)
          have hLkL35_11 : ∀ (n35_11 : Nat) (x9 : Int64) (x10 : Int32) (x11 : Int32) (H : Heap) (locs : List Loc), va_P D vwCl (zw_8 a0 a1 k1 count0 width0 shops0 kinds0) H → va_D A (zw_8 a0 a1 k1 count0 width0 shops0 kinds0) → va_S A s.heap H locs → ∀ ls : Array Slot, lv_has ls 8 [(0, .ref a0), (1, .int u0), (2, .int u1), (5, .int x5), (3, .long x9), (6, .int x10), (7, .int x11)] → pX8_viewFrom_L35_11 u1 F count0 width0 shops0 kinds0 x5 (fun b0 b1 => pX8_viewFrom_L17_5 u0 u1 F count0 width0 shops0 kinds0 n17_5 b0 b1) n35_11 x9 x10 x11 = some r → W p l e rmX8_viewFrom s m args below meth c H locs 0 0 Q (F0 m 35 ls []) := by
            intro n35_11
            induction n35_11 with
            | zero =>
              intro x9 x10 x11 H locs hP hD hS ls hl hf
              exact nomatch (show (none : Option _) = some _ from hf)
            | succ n35_11 ihkL35_11 =>
              intro x9 x10 x11 H locs hP hD hS ls hl hf
              rw [pX8_viewFrom_L35_11] at hf
              refine lv_iload hx hb dX8_viewFrom_35 (lv_at hl 6 rfl) ?_
              refine lv_iload_n hx hb dX8_viewFrom_37 rfl (lv_at hl 2 rfl) ?_
              obtain ⟨j84_13, hj84_13, hf⟩ := zz_lts hf
              have Kj84_13 : ∀  (H : Heap) (locs : List Loc), va_P D vwCl (zw_8 a0 a1 k1 count0 width0 shops0 kinds0) H → va_D A (zw_8 a0 a1 k1 count0 width0 shops0 kinds0) → va_S A s.heap H locs → ∀ ls : Array Slot, lv_has ls 8 [(0, .ref a0), (1, .int u0), (2, .int u1), (5, .int x5), (3, .long x9)] → j84_13 () = some r → W p l e rmX8_viewFrom s m args below meth c H locs 0 0 Q (F0 m 84 ls []) := by
                intro  H locs hP hD hS ls hl hf
                rw [hj84_13] at hf
                obtain ⟨v14, hv14, hf⟩ := zz_lts hf
                refine lv_iinc (v := v14) (lv' := [(5, .int v14), (0, .ref a0), (1, .int u0), (2, .int u1), (3, .long x9)]) hx hb dX8_viewFrom_84 hl (k := 3) rfl (by rw [hv14]; rfl) (by decide) rfl (fun ls hl => ?_)
                refine lv_goto (tgt := 17) hx hb dX8_viewFrom_87 (by decide) ?_
                exact ihkL17_5 x9 v14 _ _ hP hD hS ls (lv_sub hl [1, 2, 3, 4, 0] rfl) hf
              refine lv_icmp_gt (tgt := 84) hx hb dX8_viewFrom_38 (by decide) (fun c38 => ?_) (fun c38 => ?_)
              · have hf := zz_ps hf c38
                exact Kj84_13  _ _ hP hD hS ls (lv_sub hl [0, 1, 2, 3, 4] rfl) hf
              · have hf := zz_ng hf c38
                refine lv_aload_n hx hb dX8_viewFrom_41 rfl (lv_at hl 0 rfl) ?_
                refine lv_iload hx hb dX8_viewFrom_42 (lv_at hl 5 rfl) ?_
                obtain ⟨r15, hc16, hf⟩ := zz_b1s hf
                refine zz_ji (va_runV (As := [.int x10]) (rest := []) hfx (zc_X8_has l D tb a0 a1 k1 F x10 count0 width0 shops0 kinds0 r15 hc16 H.size) (cwV 1 hts gX8_viewFrom_X8_has rfl rfl rfl (by decide +kernel) ⟨Nat.le_of_ble_eq_true rfl, Nat.le_of_ble_eq_true rfl⟩) (zz_preV hK hP hD hS hA hE [0, 1] [0] rfl (by decide) rfl 0 rfl rfl rfl) rfl rfl hl.1 rfl (lv_room (Nat.le_of_ble_eq_true rfl)) dX8_viewFrom_44 ⟨Nat.zero_le _, Nat.zero_le _⟩) hP hD hS hA [0, 1] rfl rfl (fun H locs hP hD hS => ?_)
                have hP : va_P D vwCl (zw_8 a0 a1 k1 count0 width0 shops0 kinds0) H := hP
                have hD : va_D A (zw_8 a0 a1 k1 count0 width0 shops0 kinds0) := hD
                refine lv_if_eq (tgt := 84) hx hb dX8_viewFrom_47 (by decide) (fun c47 => ?_) (fun c47 => ?_)
                · have hf := zz_ps hf c47
                  exact Kj84_13  _ _ hP hD hS ls (lv_sub hl [0, 1, 2, 3, 4] rfl) hf
                · have hf := zz_ng hf c47
                  refine lv_aload_n hx hb dX8_viewFrom_50 rfl (lv_at hl 0 rfl) ?_
                  refine va_get (D := D) (ci := 8) (v := .ref a1) (C := RX8) (T := TX8) (N := 4) hx hb hts inX8 hown hK hP 0 rfl rfl 0 (by decide) lk9 (fun _ h9 => h9) rfl dX8_viewFrom_51 ?_
                  refine lv_iload hx hb dX8_viewFrom_54 (lv_at hl 5 rfl) ?_
                  obtain ⟨hg17, hf⟩ := zz_gd hf
                  refine va_iald hx hb hK hP 1 0 rfl rfl hg17 dX8_viewFrom_56 ?_
                  refine lv_iconst (v := (1 : Int32)) hx hb dX8_viewFrom_57 (by decide) ?_
                  refine lv_icmp_eq (tgt := 84) hx hb dX8_viewFrom_58 (by decide) (fun c58 => ?_) (fun c58 => ?_)
                  · have hf := zz_ps hf c58
                    exact Kj84_13  _ _ hP hD hS ls (lv_sub hl [0, 1, 2, 3, 4] rfl) hf
                  · have hf := zz_ng hf c58
                    refine lv_lload_n hx hb dX8_viewFrom_61 rfl (lv_at hl 4 rfl) ?_
                    refine lv_lconst (v := (1 : Int64)) hx hb dX8_viewFrom_62 (by decide) ?_
                    refine lv_iload hx hb dX8_viewFrom_63 (lv_at hl 5 rfl) ?_
                    refine lv_lshl (v := (zz_lshl (1 : Int64) x10)) hx hb dX8_viewFrom_65 rfl ?_
                    refine lv_lor hx hb dX8_viewFrom_66 ?_
                    obtain ⟨v18, hv18, hf⟩ := zz_lts hf
                    refine zz_tl hv18 ?_
                    refine lv_lstore_n (lv' := [(3, .long v18), (0, .ref a0), (1, .int u0), (2, .int u1), (5, .int x5), (6, .int x10), (7, .int x11)]) hx hb dX8_viewFrom_67 rfl hl (by decide) rfl (fun ls hl => ?_)
                    refine lv_aload_n hx hb dX8_viewFrom_68 rfl (lv_at hl 1 rfl) ?_
                    refine lv_iload hx hb dX8_viewFrom_69 (lv_at hl 5 rfl) ?_
                    refine lv_iload hx hb dX8_viewFrom_71 (lv_at hl 4 rfl) ?_
                    obtain ⟨r19, hc20, hf⟩ := zz_b1s hf
                    refine zz_ji (va_runV (As := [.int x10, .int x5]) (rest := []) hfx (zc_X8_neighbour l D tb a0 a1 k1 F x10 x5 count0 width0 shops0 kinds0 r19 hc20 H.size) (cwV 2 hts gX8_viewFrom_X8_neighbour rfl rfl rfl (by decide +kernel) ⟨Nat.le_of_ble_eq_true rfl, Nat.le_of_ble_eq_true rfl⟩) (zz_preV hK hP hD hS hA hE [0, 1] [0] rfl (by decide) rfl 0 rfl rfl rfl) rfl rfl hl.1 rfl (lv_room (Nat.le_of_ble_eq_true rfl)) dX8_viewFrom_73 ⟨Nat.zero_le _, Nat.zero_le _⟩) hP hD hS hA [0, 1] rfl rfl (fun H locs hP hD hS => ?_)
                    have hP : va_P D vwCl (zw_8 a0 a1 k1 count0 width0 shops0 kinds0) H := hP
                    have hD : va_D A (zw_8 a0 a1 k1 count0 width0 shops0 kinds0) := hD
                    refine lv_istore (lv' := [(6, .int r19), (3, .long v18), (0, .ref a0), (1, .int u0), (2, .int u1), (5, .int x5), (7, .int x11)]) hx hb dX8_viewFrom_76 hl (by decide) rfl (fun ls hl => ?_)
                    obtain ⟨v21, hv21, hf⟩ := zz_lts hf
                    refine lv_iinc (v := v21) (lv' := [(7, .int v21), (6, .int r19), (3, .long v18), (0, .ref a0), (1, .int u0), (2, .int u1), (5, .int x5)]) hx hb dX8_viewFrom_78 hl (k := 6) rfl (by rw [hv21]; rfl) (by decide) rfl (fun ls hl => ?_)
                    refine lv_goto (tgt := 35) hx hb dX8_viewFrom_81 (by decide) ?_
                    exact ihkL35_11 v18 r19 v21 _ _ hP hD hS ls (lv_sub hl [3, 4, 5, 6, 2, 1, 0] rfl) hf
          exact hLkL35_11 F x4 r7 (1 : Int32) _ _ hP hD hS ls (lv_sub hl [2, 3, 4, 6, 5, 1, 0] rfl) hf
    exact hLkL17_5 F v3 (0 : Int32) _ _ hP hD hS ls (lv_sub hl [2, 3, 4, 1, 0] rfl) hf
  · have hf := zz_ps hf c5
    refine lv_lconst (v := (0 : Int64)) hx hb dX8_viewFrom_8 (by decide) ?_
    obtain rfl := zz_e1 hf
    exact hret _ _ _ _ dX8_viewFrom_9 hP hD hS
def rmX0_lay : Room := { frames := 2, cells := 0, slots := 0, locals := 50 }
set_option maxHeartbeats 4000000 in
set_option maxRecDepth 100000 in
theorem zc_X0_lay (l : Launch) (D : va_G) (tb : Nat → Nat) (a0 a1 a2 a3 a4 a5 : Nat) (k1 k2 k3 k5 : ClassId) (F : Nat) (u1 : Int32) (u2 : Int32) (count0 : Int32) (next0 : Nat → Int32) (views0 : Nat → Int64) (held0 : Nat → Int32) (count1 : Int32) (width1 : Int32) (shops1 : Int64) (kinds1 : Nat → Int32) (o0 : Int32) (o1 : Nat → Int32) (o2 : Nat → Int64) (o3 : Nat → Int32) (hf : pX0_lay F u1 u2 count0 next0 views0 held0 count1 width1 shops1 kinds1 = some (o0, o1, o2, o3)) : zz_Mv l yX0_lay wsX0_lay rmX0_lay D tb [(k1, .int), (k2, .long), (k3, .boolean), (k5, .int)] [.ref a0, .ref a4, .int u1, .int u2] (zw_0_8 a0 a1 a2 a3 a4 a5 k1 k2 k3 k5 count0 next0 views0 held0 count1 width1 shops1 kinds1) (zw_0_8 a0 a1 a2 a3 a4 a5 k1 k2 k3 k5 o0 o1 o2 o3 count1 width1 shops1 kinds1)  := by
  refine zz_ofv (cc := cX0_lay) (maxL := 7) (by decide) rfl (Nat.le_of_ble_eq_true rfl) ?_
  intro p e s m args below meth c A Q hfx hK hA hE hret H locs hP hD hS ls hl
  obtain ⟨hx, hb, hml, hown, hts⟩ := id hfx
  have inX8 : ∀ w ∈ u_ws RX8 TX8 4, w ∈ wsX0_lay := by decide +kernel
  have inX0 : ∀ w ∈ u_ws RX0 TX0 4, w ∈ wsX0_lay := by decide +kernel
  have lk27 := hts (.fieldLink RX0 27 "CatBeat$Ward" "count" "I") (by decide +kernel)
  have lkm30 := hts (.methodLink RX0 30 Lib.Math.min.name) (by decide +kernel)
  have lk23 := hts (.fieldLink RX0 23 "CatBeat$Ground" "count" "I") (by decide +kernel)
  have lk19 := hts (.fieldLink RX0 19 "CatBeat$Ground" "held" "[Z") (by decide +kernel)
  have lk15 := hts (.fieldLink RX0 15 "CatBeat$Ground" "views" "[J") (by decide +kernel)
  have lk9 := hts (.fieldLink RX0 9 "CatBeat$Ground" "next" "[I") (by decide +kernel)
  have hl : lv_has ls 7 [(0, .ref a0), (1, .ref a4), (2, .int u1), (3, .int u2)] := hl
  unfold pX0_lay at hf
  refine lv_aload_n hx hb dX0_lay_0 rfl (lv_at hl 0 rfl) ?_
  refine lv_aload_n hx hb dX0_lay_1 rfl (lv_at hl 1 rfl) ?_
  refine va_get (D := D) (ci := 8) (v := .int count1) (C := RX8) (T := TX8) (N := 4) hx hb hts inX8 hown hK hP 4 rfl rfl 1 (by decide) lk27 (fun _ h9 => h9) rfl dX0_lay_2 ?_
  refine lv_bipush (v := (36 : Int32)) hx hb dX0_lay_5 (by decide) ?_
  refine va_mmin hx hb (hml.trans hl.1.symm) hown lkm30 (hts (.static Lib.Math.min.name) (by decide +kernel)) (hts (.initialized "java/lang/Math") (by decide +kernel)) (hts (.code Lib.Math.min.name Lib.Math.min.code 2 (some .int)) (by decide +kernel)) (Nat.le_of_ble_eq_true rfl) (Nat.le_of_ble_eq_true rfl) (Nat.zero_le _) (Nat.zero_le _) dX0_lay_7 ?_
  obtain ⟨f1, hf1, hf⟩ := zz_lts hf
  refine va_put (D := D) (ci := 0) (v := .int (if (36 : Int32) < count1 then (36 : Int32) else count1)) (ty := .int) (C := RX0) (T := TX0) (N := 4) hx hb hts inX0 tyX0 tyX0_ok nmX0 hown hK hP hD hS 0 rfl rfl 3 (by decide) lk23 (fun _ h9 => h9) rfl (by decide +kernel) rfl rfl (Nat.le_of_ble_eq_true rfl) dX0_lay_10 (fun H locs hP hD hS => ?_)
  have hP : va_P D vwCl (zw_0_8 a0 a1 a2 a3 a4 a5 k1 k2 k3 k5 f1 next0 views0 held0 count1 width1 shops1 kinds1) H := by rw [hf1]; exact hP
  have hD : va_D A (zw_0_8 a0 a1 a2 a3 a4 a5 k1 k2 k3 k5 f1 next0 views0 held0 count1 width1 shops1 kinds1) := by rw [hf1]; exact hD
  refine lv_iconst (v := (0 : Int32)) hx hb dX0_lay_13 (by decide) ?_
  refine lv_istore (lv' := [(4, .int (0 : Int32)), (0, .ref a0), (1, .ref a4), (2, .int u1), (3, .int u2)]) hx hb dX0_lay_14 hl (by decide) rfl (fun ls hl => ?_)
  have hLkL16_5 : ∀ (n16_5 : Nat) (x2 : Int32) (z3 : Nat → Int32) (z4 : Nat → Int64) (z5 : Nat → Int32) (H : Heap) (locs : List Loc), va_P D vwCl (zw_0_8 a0 a1 a2 a3 a4 a5 k1 k2 k3 k5 f1 z3 z4 z5 count1 width1 shops1 kinds1) H → va_D A (zw_0_8 a0 a1 a2 a3 a4 a5 k1 k2 k3 k5 f1 z3 z4 z5 count1 width1 shops1 kinds1) → va_S A s.heap H locs → ∀ ls : Array Slot, lv_has ls 7 [(0, .ref a0), (1, .ref a4), (2, .int u1), (3, .int u2), (4, .int x2)] → pX0_lay_L16_5 u1 u2 F count1 width1 shops1 kinds1 f1 n16_5 x2 z3 z4 z5 = some (o0, o1, o2, o3) → W p l e rmX0_lay s m args below meth c H locs 0 0 Q (F0 m 16 ls []) := by
    intro n16_5
    induction n16_5 with
    | zero =>
      intro x2 z3 z4 z5 H locs hP hD hS ls hl hf
      exact nomatch (show (none : Option _) = some _ from hf)
    | succ n16_5 ihkL16_5 =>
      intro x2 z3 z4 z5 H locs hP hD hS ls hl hf
      rw [pX0_lay_L16_5] at hf
      refine lv_iload hx hb dX0_lay_16 (lv_at hl 4 rfl) ?_
      refine lv_aload_n hx hb dX0_lay_18 rfl (lv_at hl 0 rfl) ?_
      refine va_get (D := D) (ci := 0) (v := .int f1) (C := RX0) (T := TX0) (N := 4) hx hb hts inX0 hown hK hP 0 rfl rfl 3 (by decide) lk23 (fun _ h9 => h9) rfl dX0_lay_19 ?_
      refine lv_icmp_ge (tgt := 113) hx hb dX0_lay_22 (by decide) (fun c22 => ?_) (fun c22 => ?_)
      · have hf := zz_ps hf c22
        obtain ⟨rfl, rfl, rfl, rfl⟩ := zz_e4 hf
        exact hret _ _ _ _ dX0_lay_113 hP hD hS
      · have hf := zz_ng hf c22
        refine lv_aload_n hx hb dX0_lay_25 rfl (lv_at hl 0 rfl) ?_
        refine va_get (D := D) (ci := 0) (v := .ref a3) (C := RX0) (T := TX0) (N := 4) hx hb hts inX0 hown hK hP 0 rfl rfl 2 (by decide) lk19 (fun _ h9 => h9) rfl dX0_lay_26 ?_
        refine lv_iload hx hb dX0_lay_29 (lv_at hl 4 rfl) ?_
        refine lv_aload_n hx hb dX0_lay_31 rfl (lv_at hl 1 rfl) ?_
        refine lv_iload_n hx hb dX0_lay_32 rfl (lv_at hl 2 rfl) ?_
        refine lv_iload hx hb dX0_lay_33 (lv_at hl 4 rfl) ?_
        obtain ⟨r7, hc8, hf⟩ := zz_b1s hf
        refine zz_ji (va_runV (As := [.int u1, .int x2]) (rest := [.int x2, .ref a3]) hfx (zc_X8_isFor l D tb a4 a5 k5 F u1 x2 count1 width1 shops1 kinds1 r7 hc8 H.size) (cwV 2 hts gX0_lay_X8_isFor rfl rfl rfl (by decide +kernel) ⟨Nat.le_of_ble_eq_true rfl, Nat.le_of_ble_eq_true rfl⟩) (zz_preV hK hP hD hS hA hE [4, 5] [3] rfl (by decide) rfl 4 rfl rfl rfl) rfl rfl hl.1 rfl (lv_room (Nat.le_of_ble_eq_true rfl)) dX0_lay_35 ⟨Nat.zero_le _, Nat.zero_le _⟩) hP hD hS hA [4, 5] rfl rfl (fun H locs hP hD hS => ?_)
        have hP : va_P D vwCl (zw_0_8 a0 a1 a2 a3 a4 a5 k1 k2 k3 k5 f1 z3 z4 z5 count1 width1 shops1 kinds1) H := hP
        have hD : va_D A (zw_0_8 a0 a1 a2 a3 a4 a5 k1 k2 k3 k5 f1 z3 z4 z5 count1 width1 shops1 kinds1) := hD
        obtain ⟨hg9, hf⟩ := zz_gd hf
        obtain ⟨f10, hf10, hf⟩ := zz_lts hf
        refine va_zast hx hb hK hP hD hS 3 2 rfl rfl hg9 dX0_lay_38 (fun H locs hP hD hS => ?_)
        have hP : va_P D vwCl (zw_0_8 a0 a1 a2 a3 a4 a5 k1 k2 k3 k5 f1 z3 z4 f10 count1 width1 shops1 kinds1) H := by rw [hf10]; exact hP
        have hD : va_D A (zw_0_8 a0 a1 a2 a3 a4 a5 k1 k2 k3 k5 f1 z3 z4 f10 count1 width1 shops1 kinds1) := by rw [hf10]; exact hD
        refine lv_aload_n hx hb dX0_lay_39 rfl (lv_at hl 0 rfl) ?_
        refine va_get (D := D) (ci := 0) (v := .ref a2) (C := RX0) (T := TX0) (N := 4) hx hb hts inX0 hown hK hP 0 rfl rfl 1 (by decide) lk15 (fun _ h9 => h9) rfl dX0_lay_40 ?_
        refine lv_iload hx hb dX0_lay_43 (lv_at hl 4 rfl) ?_
        refine lv_aload_n hx hb dX0_lay_45 rfl (lv_at hl 1 rfl) ?_
        refine lv_iload hx hb dX0_lay_46 (lv_at hl 4 rfl) ?_
        refine lv_iload_n hx hb dX0_lay_48 rfl (lv_at hl 3 rfl) ?_
        obtain ⟨r11, hc12, hf⟩ := zz_b1s hf
        refine zz_jl (va_runV (As := [.int x2, .int u2]) (rest := [.int x2, .ref a2]) hfx (zc_X8_viewFrom l D tb a4 a5 k5 F x2 u2 count1 width1 shops1 kinds1 r11 hc12 H.size) (cwV 2 hts gX0_lay_X8_viewFrom rfl rfl rfl (by decide +kernel) ⟨Nat.le_of_ble_eq_true rfl, Nat.le_of_ble_eq_true rfl⟩) (zz_preV hK hP hD hS hA hE [4, 5] [3] rfl (by decide) rfl 4 rfl rfl rfl) rfl rfl hl.1 rfl (lv_room (Nat.le_of_ble_eq_true rfl)) dX0_lay_49 ⟨Nat.zero_le _, Nat.zero_le _⟩) hP hD hS hA [4, 5] rfl rfl (fun H locs hP hD hS => ?_)
        have hP : va_P D vwCl (zw_0_8 a0 a1 a2 a3 a4 a5 k1 k2 k3 k5 f1 z3 z4 f10 count1 width1 shops1 kinds1) H := hP
        have hD : va_D A (zw_0_8 a0 a1 a2 a3 a4 a5 k1 k2 k3 k5 f1 z3 z4 f10 count1 width1 shops1 kinds1) := hD
        obtain ⟨hg13, hf⟩ := zz_gd hf
        obtain ⟨f14, hf14, hf⟩ := zz_lts hf
        refine va_last hx hb hK hP hD hS 2 1 rfl rfl hg13 dX0_lay_52 (fun H locs hP hD hS => ?_)
        have hP : va_P D vwCl (zw_0_8 a0 a1 a2 a3 a4 a5 k1 k2 k3 k5 f1 z3 f14 f10 count1 width1 shops1 kinds1) H := by rw [hf14]; exact hP
        have hD : va_D A (zw_0_8 a0 a1 a2 a3 a4 a5 k1 k2 k3 k5 f1 z3 f14 f10 count1 width1 shops1 kinds1) := by rw [hf14]; exact hD
        refine lv_iconst (v := (0 : Int32)) hx hb dX0_lay_53 (by decide) ?_
        refine lv_istore (lv' := [(5, .int (0 : Int32)), (0, .ref a0), (1, .ref a4), (2, .int u1), (3, .int u2), (4, .int x2)]) hx hb dX0_lay_54 hl (by decide) rfl (fun ls hl => ?_)
        have hLkL56_16 : ∀ (n56_16 : Nat) (x15 : Int32) (z16 : Nat → Int32) (H : Heap) (locs : List Loc), va_P D vwCl (zw_0_8 a0 a1 a2 a3 a4 a5 k1 k2 k3 k5 f1 z16 f14 f10 count1 width1 shops1 kinds1) H → va_D A (zw_0_8 a0 a1 a2 a3 a4 a5 k1 k2 k3 k5 f1 z16 f14 f10 count1 width1 shops1 kinds1) → va_S A s.heap H locs → ∀ ls : Array Slot, lv_has ls 7 [(0, .ref a0), (1, .ref a4), (2, .int u1), (3, .int u2), (4, .int x2), (5, .int x15)] → pX0_lay_L56_16 u1 F count1 width1 shops1 kinds1 x2 (fun b0 b1 b2 b3 => pX0_lay_L16_5 u1 u2 F count1 width1 shops1 kinds1 f1 n16_5 b0 b1 b2 b3) f10 f14 n56_16 x15 z16 = some (o0, o1, o2, o3) → W p l e rmX0_lay s m args below meth c H locs 0 0 Q (F0 m 56 ls []) := by
          intro n56_16
          induction n56_16 with
          | zero =>
            intro x15 z16 H locs hP hD hS ls hl hf
            exact nomatch (show (none : Option _) = some _ from hf)
          | succ n56_16 ihkL56_16 =>
            intro x15 z16 H locs hP hD hS ls hl hf
            rw [pX0_lay_L56_16] at hf
            refine lv_iload hx hb dX0_lay_56 (lv_at hl 5 rfl) ?_
            refine lv_iconst (v := (5 : Int32)) hx hb dX0_lay_58 (by decide) ?_
            refine lv_icmp_ge (tgt := 107) hx hb dX0_lay_59 (by decide) (fun c59 => ?_) (fun c59 => ?_)
            · have hf := zz_ps hf c59
              obtain ⟨v18, hv18, hf⟩ := zz_lts hf
              refine lv_iinc (v := v18) (lv' := [(4, .int v18), (0, .ref a0), (1, .ref a4), (2, .int u1), (3, .int u2), (5, .int x15)]) hx hb dX0_lay_107 hl (k := 4) rfl (by rw [hv18]; rfl) (by decide) rfl (fun ls hl => ?_)
              refine lv_goto (tgt := 16) hx hb dX0_lay_110 (by decide) ?_
              exact ihkL16_5 v18 z16 f14 f10 _ _ hP hD hS ls (lv_sub hl [1, 2, 3, 4, 0] rfl) hf
            · have hf := zz_ng hf c59
              refine lv_aload_n hx hb dX0_lay_62 rfl (lv_at hl 1 rfl) ?_
              refine lv_iload hx hb dX0_lay_63 (lv_at hl 4 rfl) ?_
              refine lv_iload hx hb dX0_lay_65 (lv_at hl 5 rfl) ?_
              obtain ⟨r19, hc20, hf⟩ := zz_b1s hf
              refine zz_ji (va_runV (As := [.int x2, .int x15]) (rest := []) hfx (zc_X8_neighbour l D tb a4 a5 k5 F x2 x15 count1 width1 shops1 kinds1 r19 hc20 H.size) (cwV 2 hts gX0_lay_X8_neighbour rfl rfl rfl (by decide +kernel) ⟨Nat.le_of_ble_eq_true rfl, Nat.le_of_ble_eq_true rfl⟩) (zz_preV hK hP hD hS hA hE [4, 5] [3] rfl (by decide) rfl 4 rfl rfl rfl) rfl rfl hl.1 rfl (lv_room (Nat.le_of_ble_eq_true rfl)) dX0_lay_67 ⟨Nat.zero_le _, Nat.zero_le _⟩) hP hD hS hA [4, 5] rfl rfl (fun H locs hP hD hS => ?_)
              have hP : va_P D vwCl (zw_0_8 a0 a1 a2 a3 a4 a5 k1 k2 k3 k5 f1 z16 f14 f10 count1 width1 shops1 kinds1) H := hP
              have hD : va_D A (zw_0_8 a0 a1 a2 a3 a4 a5 k1 k2 k3 k5 f1 z16 f14 f10 count1 width1 shops1 kinds1) := hD
              refine lv_istore (lv' := [(6, .int r19), (0, .ref a0), (1, .ref a4), (2, .int u1), (3, .int u2), (4, .int x2), (5, .int x15)]) hx hb dX0_lay_70 hl (by decide) rfl (fun ls hl => ?_)
              refine lv_aload_n hx hb dX0_lay_72 rfl (lv_at hl 1 rfl) ?_
              refine va_get (D := D) (ci := 0) (v := .ref a1) (C := RX0) (T := TX0) (N := 4) hx hb hts inX0 hown hK hP 0 rfl rfl 0 (by decide) lk9 (fun _ h9 => h9) rfl dX0_lay_73 ?_
              refine lv_iload hx hb dX0_lay_76 (lv_at hl 5 rfl) ?_
              refine lv_iconst (v := (5 : Int32)) hx hb dX0_lay_78 (by decide) ?_
              refine lv_imul hx hb dX0_lay_79 ?_
              refine lv_iload hx hb dX0_lay_80 (lv_at hl 6 rfl) ?_
              refine lv_iadd hx hb dX0_lay_82 ?_
              refine lv_aload_n hx hb dX0_lay_83 rfl (lv_at hl 2 rfl) ?_
              refine lv_iload_n hx hb dX0_lay_84 rfl (lv_at hl 3 rfl) ?_
              refine lv_iload hx hb dX0_lay_85 (lv_at hl 0 rfl) ?_
              obtain ⟨r21, hc22, hf⟩ := zz_b1s hf
              refine zz_ji (va_runV (As := [.int u1, .int r19]) (rest := [.int ((x2 * (5 : Int32)) + x15), .ref a1]) hfx (zc_X8_isFor l D tb a4 a5 k5 F u1 r19 count1 width1 shops1 kinds1 r21 hc22 H.size) (cwV 2 hts gX0_lay_X8_isFor rfl rfl rfl (by decide +kernel) ⟨Nat.le_of_ble_eq_true rfl, Nat.le_of_ble_eq_true rfl⟩) (zz_preV hK hP hD hS hA hE [4, 5] [3] rfl (by decide) rfl 4 rfl rfl rfl) rfl rfl hl.1 rfl (lv_room (Nat.le_of_ble_eq_true rfl)) dX0_lay_87 ⟨Nat.zero_le _, Nat.zero_le _⟩) hP hD hS hA [4, 5] rfl rfl (fun H locs hP hD hS => ?_)
              have hP : va_P D vwCl (zw_0_8 a0 a1 a2 a3 a4 a5 k1 k2 k3 k5 f1 z16 f14 f10 count1 width1 shops1 kinds1) H := hP
              have hD : va_D A (zw_0_8 a0 a1 a2 a3 a4 a5 k1 k2 k3 k5 f1 z16 f14 f10 count1 width1 shops1 kinds1) := hD
              obtain ⟨v23, hv23, hf⟩ := zz_lts hf
              have hK24 : ∀ ls : Array Slot, lv_has ls 7 [(0, .ref a0), (1, .ref a4), (2, .int u1), (3, .int u2), (4, .int x2), (5, .int x15)] → W p l e rmX0_lay s m args below meth c H locs 0 0 Q (F0 m 100 ls [.int v23, .int ((x2 * (5 : Int32)) + x15), .ref a1]) := by
                intro ls hl
                obtain ⟨hg25, hf⟩ := zz_gd hf
                obtain ⟨f26, hf26, hf⟩ := zz_lts hf
                refine va_iast hx hb hK hP hD hS 1 0 rfl rfl hg25 dX0_lay_100 (fun H locs hP hD hS => ?_)
                have hP : va_P D vwCl (zw_0_8 a0 a1 a2 a3 a4 a5 k1 k2 k3 k5 f1 f26 f14 f10 count1 width1 shops1 kinds1) H := by rw [hf26]; exact hP
                have hD : va_D A (zw_0_8 a0 a1 a2 a3 a4 a5 k1 k2 k3 k5 f1 f26 f14 f10 count1 width1 shops1 kinds1) := by rw [hf26]; exact hD
                obtain ⟨v27, hv27, hf⟩ := zz_lts hf
                refine lv_iinc (v := v27) (lv' := [(5, .int v27), (0, .ref a0), (1, .ref a4), (2, .int u1), (3, .int u2), (4, .int x2)]) hx hb dX0_lay_101 hl (k := 5) rfl (by rw [hv27]; rfl) (by decide) rfl (fun ls hl => ?_)
                refine lv_goto (tgt := 56) hx hb dX0_lay_104 (by decide) ?_
                exact ihkL56_16 v27 f26 _ _ hP hD hS ls (lv_sub hl [1, 2, 3, 4, 5, 0] rfl) hf
              refine lv_if_eq (tgt := 98) hx hb dX0_lay_90 (by decide) (fun c90 => ?_) (fun c90 => ?_)
              · refine lv_iload hx hb dX0_lay_98 (lv_at hl 5 rfl) ?_
                refine zz_ti (show v23 = x2 by rw [hv23, if_pos c90]) ?_
                exact hK24 ls (lv_sub hl [1, 2, 3, 4, 5, 6] rfl)
              · refine lv_iload hx hb dX0_lay_93 (lv_at hl 0 rfl) ?_
                refine lv_goto (tgt := 100) hx hb dX0_lay_95 (by decide) ?_
                refine zz_ti (show v23 = r19 by rw [hv23, if_neg c90]) ?_
                exact hK24 ls (lv_sub hl [1, 2, 3, 4, 5, 6] rfl)
        exact hLkL56_16 F (0 : Int32) z3 _ _ hP hD hS ls (lv_sub hl [1, 2, 3, 4, 5, 0] rfl) hf
  exact hLkL16_5 F (0 : Int32) next0 views0 held0 _ _ hP hD hS ls (lv_sub hl [1, 2, 3, 4, 0] rfl) hf
def rmX0_holds : Room := { frames := 0, cells := 0, slots := 0, locals := 0 }
set_option maxHeartbeats 4000000 in
set_option maxRecDepth 100000 in
theorem zc_X0_holds (l : Launch) (D : va_G) (tb : Nat → Nat) (a0 a1 a2 a3 : Nat) (k1 k2 k3 : ClassId) (F : Nat) (u0 : Int32) (count0 : Int32) (next0 : Nat → Int32) (views0 : Nat → Int64) (held0 : Nat → Int32) (r : Int32) (hf : pX0_holds F u0 count0 next0 views0 held0 = some r) : zz_Mi l yX0_holds wsX0_holds rmX0_holds D tb [(k1, .int), (k2, .long), (k3, .boolean)] [.ref a0, .int u0] (zw_0 a0 a1 a2 a3 k1 k2 k3 count0 next0 views0 held0) (zw_0 a0 a1 a2 a3 k1 k2 k3 count0 next0 views0 held0) r := by
  refine zz_ofz (cc := cX0_holds) (maxL := 2) (by decide) rfl (Nat.le_of_ble_eq_true rfl) ?_
  intro p e s m args below meth c A Q hfx hK hA hE hret H locs hP hD hS ls hl
  obtain ⟨hx, hb, hml, hown, hts⟩ := id hfx
  have inX0 : ∀ w ∈ u_ws RX0 TX0 4, w ∈ wsX0_holds := by decide +kernel
  have lk23 := hts (.fieldLink RX0 23 "CatBeat$Ground" "count" "I") (by decide +kernel)
  have lk19 := hts (.fieldLink RX0 19 "CatBeat$Ground" "held" "[Z") (by decide +kernel)
  have hl : lv_has ls 2 [(0, .ref a0), (1, .int u0)] := hl
  unfold pX0_holds at hf
  refine lv_iload_n hx hb dX0_holds_0 rfl (lv_at hl 1 rfl) ?_
  obtain ⟨j26_2, hj26_2, hf⟩ := zz_lts hf
  have Kj26_2 : ∀ (y1 : Int32) (H : Heap) (locs : List Loc), va_P D vwCl (zw_0 a0 a1 a2 a3 k1 k2 k3 count0 next0 views0 held0) H → va_D A (zw_0 a0 a1 a2 a3 k1 k2 k3 count0 next0 views0 held0) → va_S A s.heap H locs → ∀ ls : Array Slot, lv_has ls 2 [] → j26_2 y1 = some r → W p l e rmX0_holds s m args below meth c H locs 0 0 Q (F0 m 26 ls [.int y1]) := by
    intro y1 H locs hP hD hS ls hl hf
    rw [hj26_2] at hf
    obtain ⟨hg3, hf⟩ := zz_gd hf
    obtain rfl := zz_e1 hf
    exact hret _ _ _ _ (zz_nb hg3) dX0_holds_26 hP hD hS
  obtain ⟨j25_4, hj25_4, hf⟩ := zz_lts hf
  have Kj25_4 : ∀  (H : Heap) (locs : List Loc), va_P D vwCl (zw_0 a0 a1 a2 a3 k1 k2 k3 count0 next0 views0 held0) H → va_D A (zw_0 a0 a1 a2 a3 k1 k2 k3 count0 next0 views0 held0) → va_S A s.heap H locs → ∀ ls : Array Slot, lv_has ls 2 [] → j25_4 () = some r → W p l e rmX0_holds s m args below meth c H locs 0 0 Q (F0 m 25 ls []) := by
    intro  H locs hP hD hS ls hl hf
    rw [hj25_4] at hf
    refine lv_iconst (v := (0 : Int32)) hx hb dX0_holds_25 (by decide) ?_
    exact Kj26_2 (0 : Int32) _ _ hP hD hS ls (lv_sub hl [] rfl) hf
  refine lv_if_lt (tgt := 25) hx hb dX0_holds_1 (by decide) (fun c1 => ?_) (fun c1 => ?_)
  · have hf := zz_ps hf c1
    exact Kj25_4  _ _ hP hD hS ls (lv_sub hl [] rfl) hf
  · have hf := zz_ng hf c1
    refine lv_iload_n hx hb dX0_holds_4 rfl (lv_at hl 1 rfl) ?_
    refine lv_aload_n hx hb dX0_holds_5 rfl (lv_at hl 0 rfl) ?_
    refine va_get (D := D) (ci := 0) (v := .int count0) (C := RX0) (T := TX0) (N := 4) hx hb hts inX0 hown hK hP 0 rfl rfl 3 (by decide) lk23 (fun _ h9 => h9) rfl dX0_holds_6 ?_
    refine lv_icmp_ge (tgt := 25) hx hb dX0_holds_9 (by decide) (fun c9 => ?_) (fun c9 => ?_)
    · have hf := zz_ps hf c9
      exact Kj25_4  _ _ hP hD hS ls (lv_sub hl [] rfl) hf
    · have hf := zz_ng hf c9
      refine lv_aload_n hx hb dX0_holds_12 rfl (lv_at hl 0 rfl) ?_
      refine va_get (D := D) (ci := 0) (v := .ref a3) (C := RX0) (T := TX0) (N := 4) hx hb hts inX0 hown hK hP 0 rfl rfl 2 (by decide) lk19 (fun _ h9 => h9) rfl dX0_holds_13 ?_
      refine lv_iload_n hx hb dX0_holds_16 rfl (lv_at hl 1 rfl) ?_
      obtain ⟨hg5, hf⟩ := zz_gd hf
      refine va_zald hx hb hK hP 3 2 rfl rfl hg5 dX0_holds_17 ?_
      refine lv_if_eq (tgt := 25) hx hb dX0_holds_18 (by decide) (fun c18 => ?_) (fun c18 => ?_)
      · have hf := zz_ps hf c18
        exact Kj25_4  _ _ hP hD hS ls (lv_sub hl [] rfl) hf
      · have hf := zz_ng hf c18
        refine lv_iconst (v := (1 : Int32)) hx hb dX0_holds_21 (by decide) ?_
        refine lv_goto (tgt := 26) hx hb dX0_holds_22 (by decide) ?_
        exact Kj26_2 (1 : Int32) _ _ hP hD hS ls (lv_sub hl [] rfl) hf
def rmX0_stepFrom : Room := { frames := 0, cells := 0, slots := 0, locals := 0 }
set_option maxHeartbeats 4000000 in
set_option maxRecDepth 100000 in
theorem zc_X0_stepFrom (l : Launch) (D : va_G) (tb : Nat → Nat) (a0 a1 a2 a3 : Nat) (k1 k2 k3 : ClassId) (F : Nat) (u0 : Int32) (u1 : Int32) (count0 : Int32) (next0 : Nat → Int32) (views0 : Nat → Int64) (held0 : Nat → Int32) (r : Int32) (hf : pX0_stepFrom F u0 u1 count0 next0 views0 held0 = some r) : zz_Mi l yX0_stepFrom wsX0_stepFrom rmX0_stepFrom D tb [(k1, .int), (k2, .long), (k3, .boolean)] [.ref a0, .int u0, .int u1] (zw_0 a0 a1 a2 a3 k1 k2 k3 count0 next0 views0 held0) (zw_0 a0 a1 a2 a3 k1 k2 k3 count0 next0 views0 held0) r := by
  refine zz_ofi (cc := cX0_stepFrom) (maxL := 3) (by decide) rfl (Nat.le_of_ble_eq_true rfl) ?_
  intro p e s m args below meth c A Q hfx hK hA hE hret H locs hP hD hS ls hl
  obtain ⟨hx, hb, hml, hown, hts⟩ := id hfx
  have inX0 : ∀ w ∈ u_ws RX0 TX0 4, w ∈ wsX0_stepFrom := by decide +kernel
  have lk23 := hts (.fieldLink RX0 23 "CatBeat$Ground" "count" "I") (by decide +kernel)
  have lk9 := hts (.fieldLink RX0 9 "CatBeat$Ground" "next" "[I") (by decide +kernel)
  have hl : lv_has ls 3 [(0, .ref a0), (1, .int u0), (2, .int u1)] := hl
  unfold pX0_stepFrom at hf
  refine lv_iload_n hx hb dX0_stepFrom_0 rfl (lv_at hl 1 rfl) ?_
  obtain ⟨j21_1, hj21_1, hf⟩ := zz_lts hf
  have Kj21_1 : ∀  (H : Heap) (locs : List Loc), va_P D vwCl (zw_0 a0 a1 a2 a3 k1 k2 k3 count0 next0 views0 held0) H → va_D A (zw_0 a0 a1 a2 a3 k1 k2 k3 count0 next0 views0 held0) → va_S A s.heap H locs → ∀ ls : Array Slot, lv_has ls 3 [(1, .int u0)] → j21_1 () = some r → W p l e rmX0_stepFrom s m args below meth c H locs 0 0 Q (F0 m 21 ls []) := by
    intro  H locs hP hD hS ls hl hf
    rw [hj21_1] at hf
    refine lv_iload_n hx hb dX0_stepFrom_21 rfl (lv_at hl 0 rfl) ?_
    obtain rfl := zz_e1 hf
    exact hret _ _ _ _ dX0_stepFrom_22 hP hD hS
  refine lv_if_lt (tgt := 21) hx hb dX0_stepFrom_1 (by decide) (fun c1 => ?_) (fun c1 => ?_)
  · have hf := zz_ps hf c1
    exact Kj21_1  _ _ hP hD hS ls (lv_sub hl [1] rfl) hf
  · have hf := zz_ng hf c1
    refine lv_iload_n hx hb dX0_stepFrom_4 rfl (lv_at hl 1 rfl) ?_
    refine lv_aload_n hx hb dX0_stepFrom_5 rfl (lv_at hl 0 rfl) ?_
    refine va_get (D := D) (ci := 0) (v := .int count0) (C := RX0) (T := TX0) (N := 4) hx hb hts inX0 hown hK hP 0 rfl rfl 3 (by decide) lk23 (fun _ h9 => h9) rfl dX0_stepFrom_6 ?_
    refine lv_icmp_ge (tgt := 21) hx hb dX0_stepFrom_9 (by decide) (fun c9 => ?_) (fun c9 => ?_)
    · have hf := zz_ps hf c9
      exact Kj21_1  _ _ hP hD hS ls (lv_sub hl [1] rfl) hf
    · have hf := zz_ng hf c9
      refine lv_iload_n hx hb dX0_stepFrom_12 rfl (lv_at hl 2 rfl) ?_
      refine lv_if_lt (tgt := 21) hx hb dX0_stepFrom_13 (by decide) (fun c13 => ?_) (fun c13 => ?_)
      · have hf := zz_ps hf c13
        exact Kj21_1  _ _ hP hD hS ls (lv_sub hl [1] rfl) hf
      · have hf := zz_ng hf c13
        refine lv_iload_n hx hb dX0_stepFrom_16 rfl (lv_at hl 2 rfl) ?_
        refine lv_iconst (v := (5 : Int32)) hx hb dX0_stepFrom_17 (by decide) ?_
        refine lv_icmp_lt (tgt := 23) hx hb dX0_stepFrom_18 (by decide) (fun c18 => ?_) (fun c18 => ?_)
        · have hf := zz_ps hf c18
          refine lv_aload_n hx hb dX0_stepFrom_23 rfl (lv_at hl 0 rfl) ?_
          refine va_get (D := D) (ci := 0) (v := .ref a1) (C := RX0) (T := TX0) (N := 4) hx hb hts inX0 hown hK hP 0 rfl rfl 0 (by decide) lk9 (fun _ h9 => h9) rfl dX0_stepFrom_24 ?_
          refine lv_iload_n hx hb dX0_stepFrom_27 rfl (lv_at hl 1 rfl) ?_
          refine lv_iconst (v := (5 : Int32)) hx hb dX0_stepFrom_28 (by decide) ?_
          refine lv_imul hx hb dX0_stepFrom_29 ?_
          refine lv_iload_n hx hb dX0_stepFrom_30 rfl (lv_at hl 2 rfl) ?_
          refine lv_iadd hx hb dX0_stepFrom_31 ?_
          obtain ⟨hg2, hf⟩ := zz_gd hf
          refine va_iald hx hb hK hP 1 0 rfl rfl hg2 dX0_stepFrom_32 ?_
          obtain rfl := zz_e1 hf
          exact hret _ _ _ _ dX0_stepFrom_33 hP hD hS
        · have hf := zz_ng hf c18
          exact Kj21_1  _ _ hP hD hS ls (lv_sub hl [1] rfl) hf
def rmX1_mayBe : Room := { frames := 1, cells := 0, slots := 0, locals := 20 }
set_option maxHeartbeats 4000000 in
set_option maxRecDepth 100000 in
theorem zc_X1_mayBe (l : Launch) (D : va_G) (tb : Nat → Nat)  (F : Nat) (u0 : Int32) (u1 : Int32)  (r : Int32) (hf : pX1_mayBe F u0 u1 = some r) : zz_Mi l yX1_mayBe wsX1_mayBe rmX1_mayBe D tb [] [.int u0, .int u1] zw_none zw_none r := by
  refine zz_ofz (cc := cX1_mayBe) (maxL := 2) (by decide) rfl (Nat.le_of_ble_eq_true rfl) ?_
  intro p e s m args below meth c A Q hfx hK hA hE hret H locs hP hD hS ls hl
  obtain ⟨hx, hb, hml, hown, hts⟩ := id hfx
  have hl : lv_has ls 2 [(0, .int u0), (1, .int u1)] := hl
  unfold pX1_mayBe at hf
  refine lv_iload_n hx hb dX1_mayBe_0 rfl (lv_at hl 0 rfl) ?_
  obtain ⟨j22_2, hj22_2, hf⟩ := zz_lts hf
  have Kj22_2 : ∀ (y1 : Int32) (H : Heap) (locs : List Loc), va_P D vwCl zw_none H → va_D A zw_none → va_S A s.heap H locs → ∀ ls : Array Slot, lv_has ls 2 [] → j22_2 y1 = some r → W p l e rmX1_mayBe s m args below meth c H locs 0 0 Q (F0 m 22 ls [.int y1]) := by
    intro y1 H locs hP hD hS ls hl hf
    rw [hj22_2] at hf
    obtain ⟨hg3, hf⟩ := zz_gd hf
    obtain rfl := zz_e1 hf
    exact hret _ _ _ _ (zz_nb hg3) dX1_mayBe_22 hP hD hS
  obtain ⟨j21_4, hj21_4, hf⟩ := zz_lts hf
  have Kj21_4 : ∀  (H : Heap) (locs : List Loc), va_P D vwCl zw_none H → va_D A zw_none → va_S A s.heap H locs → ∀ ls : Array Slot, lv_has ls 2 [] → j21_4 () = some r → W p l e rmX1_mayBe s m args below meth c H locs 0 0 Q (F0 m 21 ls []) := by
    intro  H locs hP hD hS ls hl hf
    rw [hj21_4] at hf
    refine lv_iconst (v := (0 : Int32)) hx hb dX1_mayBe_21 (by decide) ?_
    exact Kj22_2 (0 : Int32) _ _ hP hD hS ls (lv_sub hl [] rfl) hf
  refine lv_if_lt (tgt := 21) hx hb dX1_mayBe_1 (by decide) (fun c1 => ?_) (fun c1 => ?_)
  · have hf := zz_ps hf c1
    exact Kj21_4  _ _ hP hD hS ls (lv_sub hl [] rfl) hf
  · have hf := zz_ng hf c1
    refine lv_iload_n hx hb dX1_mayBe_4 rfl (lv_at hl 0 rfl) ?_
    refine lv_bipush (v := (36 : Int32)) hx hb dX1_mayBe_5 (by decide) ?_
    refine lv_icmp_ge (tgt := 21) hx hb dX1_mayBe_7 (by decide) (fun c7 => ?_) (fun c7 => ?_)
    · have hf := zz_ps hf c7
      exact Kj21_4  _ _ hP hD hS ls (lv_sub hl [] rfl) hf
    · have hf := zz_ng hf c7
      refine lv_iload_n hx hb dX1_mayBe_10 rfl (lv_at hl 1 rfl) ?_
      obtain ⟨r5, hc6, hf⟩ := zz_b1s hf
      refine zz_ji (va_runSN (As := [.int u1]) (rest := []) hfx (zc_X9_isEither l D tb  F u1  r5 hc6 H.size) ⟨va_cnB 1 hts gX1_mayBe_X9_isEither_n22 rfl rfl rfl hE.1 (hts (.initialized RX9) (by decide +kernel)) (by decide +kernel) ⟨Nat.le_of_ble_eq_true rfl, Nat.le_of_ble_eq_true rfl⟩, hts (.static yX9_isEither) (by decide +kernel), trivial⟩ (zz_preS hK hP hD hS hA hE [] [] rfl (by decide) rfl) rfl rfl hl.1 rfl (lv_room (Nat.le_of_ble_eq_true rfl)) dX1_mayBe_11 ⟨Nat.zero_le _, Nat.zero_le _⟩) hP hD hS hA [] rfl rfl (fun H locs hP hD hS => ?_)
      have hP : va_P D vwCl zw_none H := hP
      have hD : va_D A zw_none := hD
      refine lv_if_eq (tgt := 21) hx hb dX1_mayBe_14 (by decide) (fun c14 => ?_) (fun c14 => ?_)
      · have hf := zz_ps hf c14
        exact Kj21_4  _ _ hP hD hS ls (lv_sub hl [] rfl) hf
      · have hf := zz_ng hf c14
        refine lv_iconst (v := (1 : Int32)) hx hb dX1_mayBe_17 (by decide) ?_
        refine lv_goto (tgt := 22) hx hb dX1_mayBe_18 (by decide) ?_
        exact Kj22_2 (1 : Int32) _ _ hP hD hS ls (lv_sub hl [] rfl) hf
def rmX1_add : Room := { frames := 0, cells := 0, slots := 0, locals := 0 }
set_option maxHeartbeats 4000000 in
set_option maxRecDepth 100000 in
theorem zc_X1_add (l : Launch) (D : va_G) (tb : Nat → Nat) (a0 a1 a2 : Nat) (k1 k2 : ClassId) (F : Nat) (u0 : Int32) (u1 : Int32) (count0 : Int32) (cells0 : Nat → Int32) (outcomes0 : Nat → Int32) (r : Int32) (o1 : Int32) (o2 : Nat → Int32) (o3 : Nat → Int32) (hf : pX1_add F u0 u1 count0 cells0 outcomes0 = some (r, o1, o2, o3)) : zz_Mi l yX1_add wsX1_add rmX1_add D tb [(k1, .int), (k2, .int)] [.ref a0, .int u0, .int u1] (zw_1 a0 a1 a2 k1 k2 count0 cells0 outcomes0) (zw_1 a0 a1 a2 k1 k2 o1 o2 o3) r := by
  refine zz_ofz (cc := cX1_add) (maxL := 3) (by decide) rfl (Nat.le_of_ble_eq_true rfl) ?_
  intro p e s m args below meth c A Q hfx hK hA hE hret H locs hP hD hS ls hl
  obtain ⟨hx, hb, hml, hown, hts⟩ := id hfx
  have inX1 : ∀ w ∈ u_ws RX1 TX1 3, w ∈ wsX1_add := by decide +kernel
  have lk18 := hts (.fieldLink RX1 18 "CatBeat$Missed" "count" "I") (by decide +kernel)
  have lk9 := hts (.fieldLink RX1 9 "CatBeat$Missed" "cells" "[I") (by decide +kernel)
  have lk15 := hts (.fieldLink RX1 15 "CatBeat$Missed" "outcomes" "[I") (by decide +kernel)
  have hl : lv_has ls 3 [(0, .ref a0), (1, .int u0), (2, .int u1)] := hl
  unfold pX1_add at hf
  refine lv_aload_n hx hb dX1_add_0 rfl (lv_at hl 0 rfl) ?_
  refine va_get (D := D) (ci := 1) (v := .int count0) (C := RX1) (T := TX1) (N := 3) hx hb hts inX1 hown hK hP 0 rfl rfl 2 (by decide) lk18 (fun _ h9 => h9) rfl dX1_add_1 ?_
  refine lv_aload_n hx hb dX1_add_4 rfl (lv_at hl 0 rfl) ?_
  refine va_get (D := D) (ci := 1) (v := .ref a1) (C := RX1) (T := TX1) (N := 3) hx hb hts inX1 hown hK hP 0 rfl rfl 0 (by decide) lk9 (fun _ h9 => h9) rfl dX1_add_5 ?_
  refine va_alen (v := (8 : Int32)) hx hb hK hP 1 0 rfl rfl rfl dX1_add_8 ?_
  refine lv_icmp_lt (tgt := 14) hx hb dX1_add_9 (by decide) (fun c9 => ?_) (fun c9 => ?_)
  · have hf := zz_ps hf c9
    refine lv_aload_n hx hb dX1_add_14 rfl (lv_at hl 0 rfl) ?_
    refine va_get (D := D) (ci := 1) (v := .ref a1) (C := RX1) (T := TX1) (N := 3) hx hb hts inX1 hown hK hP 0 rfl rfl 0 (by decide) lk9 (fun _ h9 => h9) rfl dX1_add_15 ?_
    refine lv_aload_n hx hb dX1_add_18 rfl (lv_at hl 0 rfl) ?_
    refine va_get (D := D) (ci := 1) (v := .int count0) (C := RX1) (T := TX1) (N := 3) hx hb hts inX1 hown hK hP 0 rfl rfl 2 (by decide) lk18 (fun _ h9 => h9) rfl dX1_add_19 ?_
    refine lv_iload_n hx hb dX1_add_22 rfl (lv_at hl 1 rfl) ?_
    obtain ⟨hg1, hf⟩ := zz_gd hf
    obtain ⟨f2, hf2, hf⟩ := zz_lts hf
    refine va_iast hx hb hK hP hD hS 1 0 rfl rfl hg1 dX1_add_23 (fun H locs hP hD hS => ?_)
    have hP : va_P D vwCl (zw_1 a0 a1 a2 k1 k2 count0 f2 outcomes0) H := by rw [hf2]; exact hP
    have hD : va_D A (zw_1 a0 a1 a2 k1 k2 count0 f2 outcomes0) := by rw [hf2]; exact hD
    refine lv_aload_n hx hb dX1_add_24 rfl (lv_at hl 0 rfl) ?_
    refine va_get (D := D) (ci := 1) (v := .ref a2) (C := RX1) (T := TX1) (N := 3) hx hb hts inX1 hown hK hP 0 rfl rfl 1 (by decide) lk15 (fun _ h9 => h9) rfl dX1_add_25 ?_
    refine lv_aload_n hx hb dX1_add_28 rfl (lv_at hl 0 rfl) ?_
    refine va_get (D := D) (ci := 1) (v := .int count0) (C := RX1) (T := TX1) (N := 3) hx hb hts inX1 hown hK hP 0 rfl rfl 2 (by decide) lk18 (fun _ h9 => h9) rfl dX1_add_29 ?_
    refine lv_iload_n hx hb dX1_add_32 rfl (lv_at hl 2 rfl) ?_
    obtain ⟨hg3, hf⟩ := zz_gd hf
    obtain ⟨f4, hf4, hf⟩ := zz_lts hf
    refine va_iast hx hb hK hP hD hS 2 1 rfl rfl hg3 dX1_add_33 (fun H locs hP hD hS => ?_)
    have hP : va_P D vwCl (zw_1 a0 a1 a2 k1 k2 count0 f2 f4) H := by rw [hf4]; exact hP
    have hD : va_D A (zw_1 a0 a1 a2 k1 k2 count0 f2 f4) := by rw [hf4]; exact hD
    refine lv_aload_n hx hb dX1_add_34 rfl (lv_at hl 0 rfl) ?_
    refine lv_dup hx hb dX1_add_35 rfl ?_
    refine va_get (D := D) (ci := 1) (v := .int count0) (C := RX1) (T := TX1) (N := 3) hx hb hts inX1 hown hK hP 0 rfl rfl 2 (by decide) lk18 (fun _ h9 => h9) rfl dX1_add_36 ?_
    refine lv_iconst (v := (1 : Int32)) hx hb dX1_add_39 (by decide) ?_
    refine lv_iadd hx hb dX1_add_40 ?_
    obtain ⟨f5, hf5, hf⟩ := zz_lts hf
    refine va_put (D := D) (ci := 1) (v := .int (count0 + (1 : Int32))) (ty := .int) (C := RX1) (T := TX1) (N := 3) hx hb hts inX1 tyX1 tyX1_ok nmX1 hown hK hP hD hS 0 rfl rfl 2 (by decide) lk18 (fun _ h9 => h9) rfl (by decide +kernel) rfl rfl (Nat.le_of_ble_eq_true rfl) dX1_add_41 (fun H locs hP hD hS => ?_)
    have hP : va_P D vwCl (zw_1 a0 a1 a2 k1 k2 f5 f2 f4) H := by rw [hf5]; exact hP
    have hD : va_D A (zw_1 a0 a1 a2 k1 k2 f5 f2 f4) := by rw [hf5]; exact hD
    refine lv_iconst (v := (1 : Int32)) hx hb dX1_add_44 (by decide) ?_
    obtain ⟨rfl, rfl, rfl, rfl⟩ := zz_e4 hf
    exact hret _ _ _ _ rfl dX1_add_45 hP hD hS
  · have hf := zz_ng hf c9
    refine lv_iconst (v := (0 : Int32)) hx hb dX1_add_12 (by decide) ?_
    obtain ⟨rfl, rfl, rfl, rfl⟩ := zz_e4 hf
    exact hret _ _ _ _ rfl dX1_add_13 hP hD hS
def rmX1_addFrom : Room := { frames := 2, cells := 0, slots := 0, locals := 41 }
set_option maxHeartbeats 4000000 in
set_option maxRecDepth 100000 in
theorem zc_X1_addFrom (l : Launch) (D : va_G) (tb : Nat → Nat) (a0 a1 a2 a3 a4 : Nat) (k1 k2 k4 : ClassId) (F : Nat)  (count0 : Int32) (cells0 : Nat → Int32) (outcomes0 : Nat → Int32) (lost1 : Int32) (form1 : Int32) (size1 : Int32) (items1 : Nat → Int32) (r : Int32) (o1 : Int32) (o2 : Nat → Int32) (o3 : Nat → Int32) (hf : pX1_addFrom F count0 cells0 outcomes0 lost1 form1 size1 items1 = some (r, o1, o2, o3)) : zz_Mi l yX1_addFrom wsX1_addFrom rmX1_addFrom D tb [(k1, .int), (k2, .int), (k4, .int)] [.ref a0, .ref a3] (zw_1_5 a0 a1 a2 a3 a4 k1 k2 k4 count0 cells0 outcomes0 lost1 form1 size1 items1) (zw_1_5 a0 a1 a2 a3 a4 k1 k2 k4 o1 o2 o3 lost1 form1 size1 items1) r := by
  refine zz_ofi (cc := cX1_addFrom) (maxL := 6) (by decide) rfl (Nat.le_of_ble_eq_true rfl) ?_
  intro p e s m args below meth c A Q hfx hK hA hE hret H locs hP hD hS ls hl
  obtain ⟨hx, hb, hml, hown, hts⟩ := id hfx
  have inX5 : ∀ w ∈ u_ws RX5 TX5 4, w ∈ wsX1_addFrom := by decide +kernel
  have lk26 := hts (.fieldLink RX1 26 "CatBeat$Sheet" "size" "I") (by decide +kernel)
  have lk31 := hts (.fieldLink RX1 31 "CatBeat$Sheet" "items" "[I") (by decide +kernel)
  have hl : lv_has ls 6 [(0, .ref a0), (1, .ref a3)] := hl
  unfold pX1_addFrom at hf
  refine lv_iconst (v := (0 : Int32)) hx hb dX1_addFrom_0 (by decide) ?_
  refine lv_istore_n (lv' := [(2, .int (0 : Int32)), (0, .ref a0), (1, .ref a3)]) hx hb dX1_addFrom_1 rfl hl (by decide) rfl (fun ls hl => ?_)
  refine lv_iconst (v := (0 : Int32)) hx hb dX1_addFrom_2 (by decide) ?_
  refine lv_istore_n (lv' := [(3, .int (0 : Int32)), (2, .int (0 : Int32)), (0, .ref a0), (1, .ref a3)]) hx hb dX1_addFrom_3 rfl hl (by decide) rfl (fun ls hl => ?_)
  have hLkL4_5 : ∀ (n4_5 : Nat) (x1 : Int32) (x2 : Int32) (z3 : Int32) (z4 : Nat → Int32) (z5 : Nat → Int32) (H : Heap) (locs : List Loc), va_P D vwCl (zw_1_5 a0 a1 a2 a3 a4 k1 k2 k4 z3 z4 z5 lost1 form1 size1 items1) H → va_D A (zw_1_5 a0 a1 a2 a3 a4 k1 k2 k4 z3 z4 z5 lost1 form1 size1 items1) → va_S A s.heap H locs → ∀ ls : Array Slot, lv_has ls 6 [(0, .ref a0), (1, .ref a3), (2, .int x1), (3, .int x2)] → pX1_addFrom_L4_5 F size1 items1 n4_5 x1 x2 z3 z4 z5 = some (r, o1, o2, o3) → W p l e rmX1_addFrom s m args below meth c H locs 0 0 Q (F0 m 4 ls []) := by
    intro n4_5
    induction n4_5 with
    | zero =>
      intro x1 x2 z3 z4 z5 H locs hP hD hS ls hl hf
      exact nomatch (show (none : Option _) = some _ from hf)
    | succ n4_5 ihkL4_5 =>
      intro x1 x2 z3 z4 z5 H locs hP hD hS ls hl hf
      rw [pX1_addFrom_L4_5] at hf
      refine lv_iload_n hx hb dX1_addFrom_4 rfl (lv_at hl 3 rfl) ?_
      refine lv_iconst (v := (1 : Int32)) hx hb dX1_addFrom_5 (by decide) ?_
      refine lv_iadd hx hb dX1_addFrom_6 ?_
      refine lv_aload_n hx hb dX1_addFrom_7 rfl (lv_at hl 1 rfl) ?_
      refine va_get (D := D) (ci := 5) (v := .int size1) (C := RX5) (T := TX5) (N := 4) hx hb hts inX5 hown hK hP 3 rfl rfl 3 (by decide) lk26 (fun _ h9 => h9) rfl dX1_addFrom_8 ?_
      refine lv_icmp_ge (tgt := 64) hx hb dX1_addFrom_11 (by decide) (fun c11 => ?_) (fun c11 => ?_)
      · have hf := zz_ps hf c11
        refine lv_iload_n hx hb dX1_addFrom_64 rfl (lv_at hl 2 rfl) ?_
        obtain ⟨rfl, rfl, rfl, rfl⟩ := zz_e4 hf
        exact hret _ _ _ _ dX1_addFrom_65 hP hD hS
      · have hf := zz_ng hf c11
        refine lv_aload_n hx hb dX1_addFrom_14 rfl (lv_at hl 1 rfl) ?_
        refine va_get (D := D) (ci := 5) (v := .ref a4) (C := RX5) (T := TX5) (N := 4) hx hb hts inX5 hown hK hP 3 rfl rfl 0 (by decide) lk31 (fun _ h9 => h9) rfl dX1_addFrom_15 ?_
        refine lv_iload_n hx hb dX1_addFrom_18 rfl (lv_at hl 3 rfl) ?_
        obtain ⟨hg7, hf⟩ := zz_gd hf
        refine va_iald hx hb hK hP 4 2 rfl rfl hg7 dX1_addFrom_19 ?_
        obtain ⟨v8, hv8, hf⟩ := zz_lts hf
        refine zz_ti hv8 ?_
        refine lv_istore (lv' := [(4, .int v8), (0, .ref a0), (1, .ref a3), (2, .int x1), (3, .int x2)]) hx hb dX1_addFrom_20 hl (by decide) rfl (fun ls hl => ?_)
        refine lv_aload_n hx hb dX1_addFrom_22 rfl (lv_at hl 2 rfl) ?_
        refine va_get (D := D) (ci := 5) (v := .ref a4) (C := RX5) (T := TX5) (N := 4) hx hb hts inX5 hown hK hP 3 rfl rfl 0 (by decide) lk31 (fun _ h9 => h9) rfl dX1_addFrom_23 ?_
        refine lv_iload_n hx hb dX1_addFrom_26 rfl (lv_at hl 4 rfl) ?_
        refine lv_iconst (v := (1 : Int32)) hx hb dX1_addFrom_27 (by decide) ?_
        refine lv_iadd hx hb dX1_addFrom_28 ?_
        obtain ⟨hg9, hf⟩ := zz_gd hf
        refine va_iald hx hb hK hP 4 2 rfl rfl hg9 dX1_addFrom_29 ?_
        obtain ⟨v10, hv10, hf⟩ := zz_lts hf
        refine zz_ti hv10 ?_
        refine lv_istore (lv' := [(5, .int v10), (4, .int v8), (0, .ref a0), (1, .ref a3), (2, .int x1), (3, .int x2)]) hx hb dX1_addFrom_30 hl (by decide) rfl (fun ls hl => ?_)
        refine lv_iload hx hb dX1_addFrom_32 (lv_at hl 1 rfl) ?_
        refine lv_iload hx hb dX1_addFrom_34 (lv_at hl 0 rfl) ?_
        obtain ⟨r11, hc12, hf⟩ := zz_b1s hf
        refine zz_ji (va_runS (As := [.int v8, .int v10]) (rest := []) hfx (zc_X1_mayBe l D tb  F v8 v10  r11 hc12 H.size) (va_cwS 2 hts gX1_addFrom_X1_mayBe rfl rfl rfl (by decide +kernel) ⟨Nat.le_of_ble_eq_true rfl, Nat.le_of_ble_eq_true rfl⟩) (zz_preS hK hP hD hS hA hE [] [] rfl (by decide) rfl) rfl rfl hl.1 rfl (lv_room (Nat.le_of_ble_eq_true rfl)) dX1_addFrom_36 ⟨Nat.zero_le _, Nat.zero_le _⟩) hP hD hS hA [] rfl rfl (fun H locs hP hD hS => ?_)
        have hP : va_P D vwCl (zw_1_5 a0 a1 a2 a3 a4 k1 k2 k4 z3 z4 z5 lost1 form1 size1 items1) H := hP
        have hD : va_D A (zw_1_5 a0 a1 a2 a3 a4 k1 k2 k4 z3 z4 z5 lost1 form1 size1 items1) := hD
        obtain ⟨j53_16, hj53_16, hf⟩ := zz_lts hf
        have Kj53_16 : ∀ (z13 : Int32) (z14 : Nat → Int32) (z15 : Nat → Int32) (H : Heap) (locs : List Loc), va_P D vwCl (zw_1_5 a0 a1 a2 a3 a4 k1 k2 k4 z13 z14 z15 lost1 form1 size1 items1) H → va_D A (zw_1_5 a0 a1 a2 a3 a4 k1 k2 k4 z13 z14 z15 lost1 form1 size1 items1) → va_S A s.heap H locs → ∀ ls : Array Slot, lv_has ls 6 [(2, .int x1)] → j53_16 z13 z14 z15 = some (r, o1, o2, o3) → W p l e rmX1_addFrom s m args below meth c H locs 0 0 Q (F0 m 53 ls []) := by
          intro z13 z14 z15 H locs hP hD hS ls hl hf
          rw [hj53_16] at hf
          refine lv_iload_n hx hb dX1_addFrom_53 rfl (lv_at hl 0 rfl) ?_
          obtain ⟨rfl, rfl, rfl, rfl⟩ := zz_e4 hf
          exact hret _ _ _ _ dX1_addFrom_54 hP hD hS
        refine lv_if_eq (tgt := 53) hx hb dX1_addFrom_39 (by decide) (fun c39 => ?_) (fun c39 => ?_)
        · have hf := zz_ps hf c39
          exact Kj53_16 z3 z4 z5 _ _ hP hD hS ls (lv_sub hl [4] rfl) hf
        · have hf := zz_ng hf c39
          refine lv_aload_n hx hb dX1_addFrom_42 rfl (lv_at hl 2 rfl) ?_
          refine lv_iload hx hb dX1_addFrom_43 (lv_at hl 1 rfl) ?_
          refine lv_iload hx hb dX1_addFrom_45 (lv_at hl 0 rfl) ?_
          obtain ⟨r17, f18, f19, f20, hc21, hf⟩ := zz_b4s hf
          refine zz_ji (va_runV (As := [.int v8, .int v10]) (rest := []) hfx (zc_X1_add l D tb a0 a1 a2 k1 k2 F v8 v10 z3 z4 z5 r17 f18 f19 f20 hc21 H.size) (cwV 2 hts gX1_addFrom_X1_add rfl rfl rfl (by decide +kernel) ⟨Nat.le_of_ble_eq_true rfl, Nat.le_of_ble_eq_true rfl⟩) (zz_preV hK hP hD hS hA hE [0, 1, 2] [0, 1] rfl (by decide) rfl 0 rfl rfl rfl) rfl rfl hl.1 rfl (lv_room (Nat.le_of_ble_eq_true rfl)) dX1_addFrom_47 ⟨Nat.zero_le _, Nat.zero_le _⟩) hP hD hS hA [0, 1, 2] rfl rfl (fun H locs hP hD hS => ?_)
          have hP : va_P D vwCl (zw_1_5 a0 a1 a2 a3 a4 k1 k2 k4 f18 f19 f20 lost1 form1 size1 items1) H := hP
          have hD : va_D A (zw_1_5 a0 a1 a2 a3 a4 k1 k2 k4 f18 f19 f20 lost1 form1 size1 items1) := hD
          refine lv_if_ne (tgt := 55) hx hb dX1_addFrom_50 (by decide) (fun c50 => ?_) (fun c50 => ?_)
          · have hf := zz_ng hf c50
            obtain ⟨v22, hv22, hf⟩ := zz_lts hf
            refine lv_iinc (v := v22) (lv' := [(2, .int v22), (5, .int v10), (4, .int v8), (0, .ref a0), (1, .ref a3), (3, .int x2)]) hx hb dX1_addFrom_55 hl (k := 4) rfl (by rw [hv22]; rfl) (by decide) rfl (fun ls hl => ?_)
            obtain ⟨v23, hv23, hf⟩ := zz_lts hf
            refine lv_iinc (v := v23) (lv' := [(3, .int v23), (2, .int v22), (5, .int v10), (4, .int v8), (0, .ref a0), (1, .ref a3)]) hx hb dX1_addFrom_58 hl (k := 5) rfl (by rw [hv23]; rfl) (by decide) rfl (fun ls hl => ?_)
            refine lv_goto (tgt := 4) hx hb dX1_addFrom_61 (by decide) ?_
            exact ihkL4_5 v22 v23 f18 f19 f20 _ _ hP hD hS ls (lv_sub hl [4, 5, 1, 0] rfl) hf
          · have hf := zz_ps hf c50
            exact Kj53_16 f18 f19 f20 _ _ hP hD hS ls (lv_sub hl [4] rfl) hf
  exact hLkL4_5 F (0 : Int32) (0 : Int32) count0 cells0 outcomes0 _ _ hP hD hS ls (lv_sub hl [2, 3, 1, 0] rfl) hf
def rmX1_agreesWith : Room := { frames := 0, cells := 0, slots := 0, locals := 0 }
set_option maxHeartbeats 4000000 in
set_option maxRecDepth 100000 in
theorem zc_X1_agreesWith (l : Launch) (D : va_G) (tb : Nat → Nat) (a0 a1 a2 : Nat) (k1 k2 : ClassId) (F : Nat) (u0 : Int64) (count0 : Int32) (cells0 : Nat → Int32) (outcomes0 : Nat → Int32) (r : Int32) (hf : pX1_agreesWith F u0 count0 cells0 outcomes0 = some r) : zz_Mi l yX1_agreesWith wsX1_agreesWith rmX1_agreesWith D tb [(k1, .int), (k2, .int)] [.ref a0, .long u0] (zw_1 a0 a1 a2 k1 k2 count0 cells0 outcomes0) (zw_1 a0 a1 a2 k1 k2 count0 cells0 outcomes0) r := by
  refine zz_ofz (cc := cX1_agreesWith) (maxL := 4) (by decide) rfl (Nat.le_of_ble_eq_true rfl) ?_
  intro p e s m args below meth c A Q hfx hK hA hE hret H locs hP hD hS ls hl
  obtain ⟨hx, hb, hml, hown, hts⟩ := id hfx
  have inX1 : ∀ w ∈ u_ws RX1 TX1 3, w ∈ wsX1_agreesWith := by decide +kernel
  have lk18 := hts (.fieldLink RX1 18 "CatBeat$Missed" "count" "I") (by decide +kernel)
  have lk9 := hts (.fieldLink RX1 9 "CatBeat$Missed" "cells" "[I") (by decide +kernel)
  have lk15 := hts (.fieldLink RX1 15 "CatBeat$Missed" "outcomes" "[I") (by decide +kernel)
  have hl : lv_has ls 4 [(0, .ref a0), (1, .long u0)] := hl
  unfold pX1_agreesWith at hf
  refine lv_iconst (v := (0 : Int32)) hx hb dX1_agreesWith_0 (by decide) ?_
  refine lv_istore_n (lv' := [(3, .int (0 : Int32)), (0, .ref a0), (1, .long u0)]) hx hb dX1_agreesWith_1 rfl hl (by decide) rfl (fun ls hl => ?_)
  have hLkL2_1 : ∀ (n2_1 : Nat) (x1 : Int32) (H : Heap) (locs : List Loc), va_P D vwCl (zw_1 a0 a1 a2 k1 k2 count0 cells0 outcomes0) H → va_D A (zw_1 a0 a1 a2 k1 k2 count0 cells0 outcomes0) → va_S A s.heap H locs → ∀ ls : Array Slot, lv_has ls 4 [(0, .ref a0), (1, .long u0), (3, .int x1)] → pX1_agreesWith_L2_1 u0 count0 cells0 outcomes0 n2_1 x1 = some r → W p l e rmX1_agreesWith s m args below meth c H locs 0 0 Q (F0 m 2 ls []) := by
    intro n2_1
    induction n2_1 with
    | zero =>
      intro x1 H locs hP hD hS ls hl hf
      exact nomatch (show (none : Option _) = some _ from hf)
    | succ n2_1 ihkL2_1 =>
      intro x1 H locs hP hD hS ls hl hf
      rw [pX1_agreesWith_L2_1] at hf
      refine lv_iload_n hx hb dX1_agreesWith_2 rfl (lv_at hl 2 rfl) ?_
      refine lv_aload_n hx hb dX1_agreesWith_3 rfl (lv_at hl 0 rfl) ?_
      refine va_get (D := D) (ci := 1) (v := .int count0) (C := RX1) (T := TX1) (N := 3) hx hb hts inX1 hown hK hP 0 rfl rfl 2 (by decide) lk18 (fun _ h9 => h9) rfl dX1_agreesWith_4 ?_
      refine lv_icmp_ge (tgt := 39) hx hb dX1_agreesWith_7 (by decide) (fun c7 => ?_) (fun c7 => ?_)
      · have hf := zz_ps hf c7
        refine lv_iconst (v := (1 : Int32)) hx hb dX1_agreesWith_39 (by decide) ?_
        obtain rfl := zz_e1 hf
        exact hret _ _ _ _ rfl dX1_agreesWith_40 hP hD hS
      · have hf := zz_ng hf c7
        refine lv_lload_n hx hb dX1_agreesWith_10 rfl (lv_at hl 1 rfl) ?_
        refine lv_aload_n hx hb dX1_agreesWith_11 rfl (lv_at hl 0 rfl) ?_
        refine va_get (D := D) (ci := 1) (v := .ref a1) (C := RX1) (T := TX1) (N := 3) hx hb hts inX1 hown hK hP 0 rfl rfl 0 (by decide) lk9 (fun _ h9 => h9) rfl dX1_agreesWith_12 ?_
        refine lv_iload_n hx hb dX1_agreesWith_15 rfl (lv_at hl 2 rfl) ?_
        obtain ⟨hg3, hf⟩ := zz_gd hf
        refine va_iald hx hb hK hP 1 0 rfl rfl hg3 dX1_agreesWith_16 ?_
        refine lv_lushr (v := (zz_lushr u0 (cells0 (Int32.toNatClampNeg x1)))) hx hb dX1_agreesWith_17 rfl ?_
        refine lv_lconst (v := (1 : Int64)) hx hb dX1_agreesWith_18 (by decide) ?_
        refine lv_land hx hb dX1_agreesWith_19 ?_
        refine lv_aload_n hx hb dX1_agreesWith_20 rfl (lv_at hl 0 rfl) ?_
        refine va_get (D := D) (ci := 1) (v := .ref a2) (C := RX1) (T := TX1) (N := 3) hx hb hts inX1 hown hK hP 0 rfl rfl 1 (by decide) lk15 (fun _ h9 => h9) rfl dX1_agreesWith_21 ?_
        refine lv_iload_n hx hb dX1_agreesWith_24 rfl (lv_at hl 2 rfl) ?_
        obtain ⟨hg4, hf⟩ := zz_gd hf
        refine va_iald hx hb hK hP 2 1 rfl rfl hg4 dX1_agreesWith_25 ?_
        refine lv_i2l (v := (Int32.toInt64 (outcomes0 (Int32.toNatClampNeg x1)))) hx hb dX1_agreesWith_26 rfl ?_
        refine W.lcmp hx hb dX1_agreesWith_27 ?_
        refine lv_if_eq (tgt := 33) hx hb dX1_agreesWith_28 (by decide) (fun c28 => ?_) (fun c28 => ?_)
        · have hf := zz_ps hf c28
          obtain ⟨v5, hv5, hf⟩ := zz_lts hf
          refine lv_iinc (v := v5) (lv' := [(3, .int v5), (0, .ref a0), (1, .long u0)]) hx hb dX1_agreesWith_33 hl (k := 2) rfl (by rw [hv5]; rfl) (by decide) rfl (fun ls hl => ?_)
          refine lv_goto (tgt := 2) hx hb dX1_agreesWith_36 (by decide) ?_
          exact ihkL2_1 v5 _ _ hP hD hS ls (lv_sub hl [1, 2, 0] rfl) hf
        · have hf := zz_ng hf c28
          refine lv_iconst (v := (0 : Int32)) hx hb dX1_agreesWith_31 (by decide) ?_
          obtain rfl := zz_e1 hf
          exact hret _ _ _ _ rfl dX1_agreesWith_32 hP hD hS
  exact hLkL2_1 F (0 : Int32) _ _ hP hD hS ls (lv_sub hl [1, 2, 0] rfl) hf
def rmX2_walk : Room := { frames := 1, cells := 0, slots := 0, locals := 22 }
set_option maxHeartbeats 4000000 in
set_option maxRecDepth 100000 in
theorem zc_X2_walk (l : Launch) (D : va_G) (tb : Nat → Nat) (a0 a1 a2 a3 a4 a5 a6 a7 a8 : Nat) (k1 k2 k4 k5 k6 k8 : ClassId) (F : Nat) (u1 : Int32) (places0 : Nat → Int32) (views0 : Nat → Int64) (count1 : Int32) (next1 : Nat → Int32) (views1 : Nat → Int64) (held1 : Nat → Int32) (count2 : Int32) (steps2 : Nat → Int32) (o0 : Nat → Int32) (o1 : Nat → Int64) (hf : pX2_walk F u1 places0 views0 count1 next1 views1 held1 count2 steps2 = some (o0, o1)) : zz_Mv l yX2_walk wsX2_walk rmX2_walk D tb [(k1, .int), (k2, .long), (k4, .int), (k5, .long), (k6, .boolean), (k8, .int)] [.ref a0, .ref a3, .int u1, .ref a7] (zw_2_0_4 a0 a1 a2 a3 a4 a5 a6 a7 a8 k1 k2 k4 k5 k6 k8 places0 views0 count1 next1 views1 held1 count2 steps2) (zw_2_0_4 a0 a1 a2 a3 a4 a5 a6 a7 a8 k1 k2 k4 k5 k6 k8 o0 o1 count1 next1 views1 held1 count2 steps2)  := by
  refine zz_ofv (cc := cX2_walk) (maxL := 7) (by decide) rfl (Nat.le_of_ble_eq_true rfl) ?_
  intro p e s m args below meth c A Q hfx hK hA hE hret H locs hP hD hS ls hl
  obtain ⟨hx, hb, hml, hown, hts⟩ := id hfx
  have inX2 : ∀ w ∈ u_ws RX2 TX2 2, w ∈ wsX2_walk := by decide +kernel
  have inX4 : ∀ w ∈ u_ws RX4 TX4 2, w ∈ wsX2_walk := by decide +kernel
  have inX0 : ∀ w ∈ u_ws RX0 TX0 4, w ∈ wsX2_walk := by decide +kernel
  have lk9 := hts (.fieldLink RX2 9 "CatBeat$Night" "places" "[I") (by decide +kernel)
  have lk15 := hts (.fieldLink RX2 15 "CatBeat$Night" "views" "[J") (by decide +kernel)
  have lk26 := hts (.fieldLink RX2 26 "CatBeat$Round" "count" "I") (by decide +kernel)
  have lk32 := hts (.fieldLink RX2 32 "CatBeat$Round" "steps" "[I") (by decide +kernel)
  have lk25 := hts (.fieldLink RX2 25 "CatBeat$Ground" "views" "[J") (by decide +kernel)
  have hl : lv_has ls 7 [(0, .ref a0), (1, .ref a3), (2, .int u1), (3, .ref a7)] := hl
  unfold pX2_walk at hf
  refine lv_aload_n hx hb dX2_walk_0 rfl (lv_at hl 1 rfl) ?_
  refine lv_iload_n hx hb dX2_walk_1 rfl (lv_at hl 2 rfl) ?_
  obtain ⟨r1, hc2, hf⟩ := zz_b1s hf
  refine zz_ji (va_runV (As := [.int u1]) (rest := []) hfx (zc_X0_holds l D tb a3 a4 a5 a6 k4 k5 k6 F u1 count1 next1 views1 held1 r1 hc2 H.size) (cwV 1 hts gX2_walk_X0_holds rfl rfl rfl (by decide +kernel) ⟨Nat.le_of_ble_eq_true rfl, Nat.le_of_ble_eq_true rfl⟩) (zz_preV hK hP hD hS hA hE [3, 4, 5, 6] [2, 3, 4] rfl (by decide) rfl 3 rfl rfl rfl) rfl rfl hl.1 rfl (lv_room (Nat.le_of_ble_eq_true rfl)) dX2_walk_2 ⟨Nat.zero_le _, Nat.zero_le _⟩) hP hD hS hA [3, 4, 5, 6] rfl rfl (fun H locs hP hD hS => ?_)
  have hP : va_P D vwCl (zw_2_0_4 a0 a1 a2 a3 a4 a5 a6 a7 a8 k1 k2 k4 k5 k6 k8 places0 views0 count1 next1 views1 held1 count2 steps2) H := hP
  have hD : va_D A (zw_2_0_4 a0 a1 a2 a3 a4 a5 a6 a7 a8 k1 k2 k4 k5 k6 k8 places0 views0 count1 next1 views1 held1 count2 steps2) := hD
  obtain ⟨v3, hv3, hf⟩ := zz_lts hf
  have hK4 : ∀ ls : Array Slot, lv_has ls 7 [(0, .ref a0), (1, .ref a3), (3, .ref a7)] → W p l e rmX2_walk s m args below meth c H locs 0 0 Q (F0 m 13 ls [.int v3]) := by
    intro ls hl
    refine lv_istore (lv' := [(4, .int v3), (0, .ref a0), (1, .ref a3), (3, .ref a7)]) hx hb dX2_walk_13 hl (by decide) rfl (fun ls hl => ?_)
    refine lv_iconst (v := (0 : Int32)) hx hb dX2_walk_15 (by decide) ?_
    refine lv_istore (lv' := [(5, .int (0 : Int32)), (4, .int v3), (0, .ref a0), (1, .ref a3), (3, .ref a7)]) hx hb dX2_walk_16 hl (by decide) rfl (fun ls hl => ?_)
    refine lv_iconst (v := (0 : Int32)) hx hb dX2_walk_18 (by decide) ?_
    refine lv_istore (lv' := [(6, .int (0 : Int32)), (5, .int (0 : Int32)), (4, .int v3), (0, .ref a0), (1, .ref a3), (3, .ref a7)]) hx hb dX2_walk_19 hl (by decide) rfl (fun ls hl => ?_)
    have hLkL21_9 : ∀ (n21_9 : Nat) (x5 : Int32) (x6 : Int32) (x7 : Int32) (z8 : Nat → Int32) (z9 : Nat → Int64) (H : Heap) (locs : List Loc), va_P D vwCl (zw_2_0_4 a0 a1 a2 a3 a4 a5 a6 a7 a8 k1 k2 k4 k5 k6 k8 z8 z9 count1 next1 views1 held1 count2 steps2) H → va_D A (zw_2_0_4 a0 a1 a2 a3 a4 a5 a6 a7 a8 k1 k2 k4 k5 k6 k8 z8 z9 count1 next1 views1 held1 count2 steps2) → va_S A s.heap H locs → ∀ ls : Array Slot, lv_has ls 7 [(0, .ref a0), (1, .ref a3), (3, .ref a7), (4, .int x5), (5, .int x6), (6, .int x7)] → pX2_walk_L21_9 F count1 next1 views1 held1 count2 steps2 n21_9 x5 x6 x7 z8 z9 = some (o0, o1) → W p l e rmX2_walk s m args below meth c H locs 0 0 Q (F0 m 21 ls []) := by
      intro n21_9
      induction n21_9 with
      | zero =>
        intro x5 x6 x7 z8 z9 H locs hP hD hS ls hl hf
        exact nomatch (show (none : Option _) = some _ from hf)
      | succ n21_9 ihkL21_9 =>
        intro x5 x6 x7 z8 z9 H locs hP hD hS ls hl hf
        rw [pX2_walk_L21_9] at hf
        refine lv_iload hx hb dX2_walk_21 (lv_at hl 5 rfl) ?_
        refine lv_bipush (v := (96 : Int32)) hx hb dX2_walk_23 (by decide) ?_
        refine lv_icmp_ge (tgt := 115) hx hb dX2_walk_25 (by decide) (fun c25 => ?_) (fun c25 => ?_)
        · have hf := zz_ps hf c25
          obtain ⟨rfl, rfl⟩ := zz_e2 hf
          exact hret _ _ _ _ dX2_walk_115 hP hD hS
        · have hf := zz_ng hf c25
          refine lv_aload_n hx hb dX2_walk_28 rfl (lv_at hl 0 rfl) ?_
          refine va_get (D := D) (ci := 2) (v := .ref a1) (C := RX2) (T := TX2) (N := 2) hx hb hts inX2 hown hK hP 0 rfl rfl 0 (by decide) lk9 (fun _ h9 => h9) rfl dX2_walk_29 ?_
          refine lv_iload hx hb dX2_walk_32 (lv_at hl 5 rfl) ?_
          refine lv_iload hx hb dX2_walk_34 (lv_at hl 3 rfl) ?_
          obtain ⟨hg11, hf⟩ := zz_gd hf
          obtain ⟨f12, hf12, hf⟩ := zz_lts hf
          refine va_iast hx hb hK hP hD hS 1 0 rfl rfl hg11 dX2_walk_36 (fun H locs hP hD hS => ?_)
          have hP : va_P D vwCl (zw_2_0_4 a0 a1 a2 a3 a4 a5 a6 a7 a8 k1 k2 k4 k5 k6 k8 f12 z9 count1 next1 views1 held1 count2 steps2) H := by rw [hf12]; exact hP
          have hD : va_D A (zw_2_0_4 a0 a1 a2 a3 a4 a5 a6 a7 a8 k1 k2 k4 k5 k6 k8 f12 z9 count1 next1 views1 held1 count2 steps2) := by rw [hf12]; exact hD
          refine lv_aload_n hx hb dX2_walk_37 rfl (lv_at hl 0 rfl) ?_
          refine va_get (D := D) (ci := 2) (v := .ref a2) (C := RX2) (T := TX2) (N := 2) hx hb hts inX2 hown hK hP 0 rfl rfl 1 (by decide) lk15 (fun _ h9 => h9) rfl dX2_walk_38 ?_
          refine lv_iload hx hb dX2_walk_41 (lv_at hl 5 rfl) ?_
          refine lv_aload_n hx hb dX2_walk_43 rfl (lv_at hl 1 rfl) ?_
          refine lv_iload hx hb dX2_walk_44 (lv_at hl 3 rfl) ?_
          obtain ⟨r13, hc14, hf⟩ := zz_b1s hf
          refine zz_ji (va_runV (As := [.int x5]) (rest := [.int x7, .ref a2]) hfx (zc_X0_holds l D tb a3 a4 a5 a6 k4 k5 k6 F x5 count1 next1 views1 held1 r13 hc14 H.size) (cwV 1 hts gX2_walk_X0_holds rfl rfl rfl (by decide +kernel) ⟨Nat.le_of_ble_eq_true rfl, Nat.le_of_ble_eq_true rfl⟩) (zz_preV hK hP hD hS hA hE [3, 4, 5, 6] [2, 3, 4] rfl (by decide) rfl 3 rfl rfl rfl) rfl rfl hl.1 rfl (lv_room (Nat.le_of_ble_eq_true rfl)) dX2_walk_46 ⟨Nat.zero_le _, Nat.zero_le _⟩) hP hD hS hA [3, 4, 5, 6] rfl rfl (fun H locs hP hD hS => ?_)
          have hP : va_P D vwCl (zw_2_0_4 a0 a1 a2 a3 a4 a5 a6 a7 a8 k1 k2 k4 k5 k6 k8 f12 z9 count1 next1 views1 held1 count2 steps2) H := hP
          have hD : va_D A (zw_2_0_4 a0 a1 a2 a3 a4 a5 a6 a7 a8 k1 k2 k4 k5 k6 k8 f12 z9 count1 next1 views1 held1 count2 steps2) := hD
          obtain ⟨j63_16, hj63_16, hf⟩ := zz_lts hf
          have Kj63_16 : ∀ (y15 : Int64) (H : Heap) (locs : List Loc), va_P D vwCl (zw_2_0_4 a0 a1 a2 a3 a4 a5 a6 a7 a8 k1 k2 k4 k5 k6 k8 f12 z9 count1 next1 views1 held1 count2 steps2) H → va_D A (zw_2_0_4 a0 a1 a2 a3 a4 a5 a6 a7 a8 k1 k2 k4 k5 k6 k8 f12 z9 count1 next1 views1 held1 count2 steps2) → va_S A s.heap H locs → ∀ ls : Array Slot, lv_has ls 7 [(0, .ref a0), (1, .ref a3), (3, .ref a7), (4, .int x5), (5, .int x6), (6, .int x7)] → j63_16 y15 = some (o0, o1) → W p l e rmX2_walk s m args below meth c H locs 0 0 Q (F0 m 63 ls [.long y15, .int x7, .ref a2]) := by
            intro y15 H locs hP hD hS ls hl hf
            rw [hj63_16] at hf
            obtain ⟨hg17, hf⟩ := zz_gd hf
            obtain ⟨f18, hf18, hf⟩ := zz_lts hf
            refine va_last hx hb hK hP hD hS 2 1 rfl rfl hg17 dX2_walk_63 (fun H locs hP hD hS => ?_)
            have hP : va_P D vwCl (zw_2_0_4 a0 a1 a2 a3 a4 a5 a6 a7 a8 k1 k2 k4 k5 k6 k8 f12 f18 count1 next1 views1 held1 count2 steps2) H := by rw [hf18]; exact hP
            have hD : va_D A (zw_2_0_4 a0 a1 a2 a3 a4 a5 a6 a7 a8 k1 k2 k4 k5 k6 k8 f12 f18 count1 next1 views1 held1 count2 steps2) := by rw [hf18]; exact hD
            refine lv_iload hx hb dX2_walk_64 (lv_at hl 4 rfl) ?_
            refine lv_aload_n hx hb dX2_walk_66 rfl (lv_at hl 2 rfl) ?_
            refine va_get (D := D) (ci := 4) (v := .int count2) (C := RX4) (T := TX4) (N := 2) hx hb hts inX4 hown hK hP 7 rfl rfl 1 (by decide) lk26 (fun _ h9 => h9) rfl dX2_walk_67 ?_
            obtain ⟨j88_20, hj88_20, hf⟩ := zz_lts hf
            have Kj88_20 : ∀ (x19 : Int32) (H : Heap) (locs : List Loc), va_P D vwCl (zw_2_0_4 a0 a1 a2 a3 a4 a5 a6 a7 a8 k1 k2 k4 k5 k6 k8 f12 f18 count1 next1 views1 held1 count2 steps2) H → va_D A (zw_2_0_4 a0 a1 a2 a3 a4 a5 a6 a7 a8 k1 k2 k4 k5 k6 k8 f12 f18 count1 next1 views1 held1 count2 steps2) → va_S A s.heap H locs → ∀ ls : Array Slot, lv_has ls 7 [(0, .ref a0), (1, .ref a3), (3, .ref a7), (5, .int x6), (6, .int x7), (4, .int x19)] → j88_20 x19 = some (o0, o1) → W p l e rmX2_walk s m args below meth c H locs 0 0 Q (F0 m 88 ls []) := by
              intro x19 H locs hP hD hS ls hl hf
              rw [hj88_20] at hf
              refine lv_iload hx hb dX2_walk_88 (lv_at hl 3 rfl) ?_
              refine lv_iconst (v := (1 : Int32)) hx hb dX2_walk_90 (by decide) ?_
              refine lv_iadd hx hb dX2_walk_91 ?_
              refine lv_aload_n hx hb dX2_walk_92 rfl (lv_at hl 2 rfl) ?_
              refine va_get (D := D) (ci := 4) (v := .int count2) (C := RX4) (T := TX4) (N := 2) hx hb hts inX4 hown hK hP 7 rfl rfl 1 (by decide) lk26 (fun _ h9 => h9) rfl dX2_walk_93 ?_
              obtain ⟨v21, hv21, hf⟩ := zz_lts hf
              have hK22 : ∀ ls : Array Slot, lv_has ls 7 [(0, .ref a0), (1, .ref a3), (3, .ref a7), (6, .int x7), (4, .int x19)] → W p l e rmX2_walk s m args below meth c H locs 0 0 Q (F0 m 107 ls [.int v21]) := by
                intro ls hl
                refine lv_istore (lv' := [(5, .int v21), (0, .ref a0), (1, .ref a3), (3, .ref a7), (6, .int x7), (4, .int x19)]) hx hb dX2_walk_107 hl (by decide) rfl (fun ls hl => ?_)
                obtain ⟨v23, hv23, hf⟩ := zz_lts hf
                refine lv_iinc (v := v23) (lv' := [(6, .int v23), (5, .int v21), (0, .ref a0), (1, .ref a3), (3, .ref a7), (4, .int x19)]) hx hb dX2_walk_109 hl (k := 4) rfl (by rw [hv23]; rfl) (by decide) rfl (fun ls hl => ?_)
                refine lv_goto (tgt := 21) hx hb dX2_walk_112 (by decide) ?_
                exact ihkL21_9 x19 v21 v23 f12 f18 _ _ hP hD hS ls (lv_sub hl [2, 3, 4, 5, 1, 0] rfl) hf
              refine lv_icmp_ge (tgt := 106) hx hb dX2_walk_96 (by decide) (fun c96 => ?_) (fun c96 => ?_)
              · refine lv_iconst (v := (0 : Int32)) hx hb dX2_walk_106 (by decide) ?_
                refine zz_ti (show v21 = (0 : Int32) by rw [hv21, if_pos c96]) ?_
                exact hK22 ls (lv_sub hl [0, 1, 2, 4, 5] rfl)
              · refine lv_iload hx hb dX2_walk_99 (lv_at hl 3 rfl) ?_
                refine lv_iconst (v := (1 : Int32)) hx hb dX2_walk_101 (by decide) ?_
                refine lv_iadd hx hb dX2_walk_102 ?_
                refine lv_goto (tgt := 107) hx hb dX2_walk_103 (by decide) ?_
                refine zz_ti (show v21 = (x6 + (1 : Int32)) by rw [hv21, if_neg c96]) ?_
                exact hK22 ls (lv_sub hl [0, 1, 2, 4, 5] rfl)
            refine lv_icmp_ge (tgt := 88) hx hb dX2_walk_70 (by decide) (fun c70 => ?_) (fun c70 => ?_)
            · have hf := zz_ps hf c70
              exact Kj88_20 x5 _ _ hP hD hS ls (lv_sub hl [0, 1, 2, 4, 5, 3] rfl) hf
            · have hf := zz_ng hf c70
              refine lv_aload_n hx hb dX2_walk_73 rfl (lv_at hl 1 rfl) ?_
              refine lv_iload hx hb dX2_walk_74 (lv_at hl 3 rfl) ?_
              refine lv_aload_n hx hb dX2_walk_76 rfl (lv_at hl 2 rfl) ?_
              refine va_get (D := D) (ci := 4) (v := .ref a8) (C := RX4) (T := TX4) (N := 2) hx hb hts inX4 hown hK hP 7 rfl rfl 0 (by decide) lk32 (fun _ h9 => h9) rfl dX2_walk_77 ?_
              refine lv_iload hx hb dX2_walk_80 (lv_at hl 4 rfl) ?_
              obtain ⟨hg24, hf⟩ := zz_gd hf
              refine va_iald hx hb hK hP 8 5 rfl rfl hg24 dX2_walk_82 ?_
              obtain ⟨r25, hc26, hf⟩ := zz_b1s hf
              refine zz_ji (va_runV (As := [.int x5, .int (steps2 (Int32.toNatClampNeg x6))]) (rest := []) hfx (zc_X0_stepFrom l D tb a3 a4 a5 a6 k4 k5 k6 F x5 (steps2 (Int32.toNatClampNeg x6)) count1 next1 views1 held1 r25 hc26 H.size) (cwV 2 hts gX2_walk_X0_stepFrom rfl rfl rfl (by decide +kernel) ⟨Nat.le_of_ble_eq_true rfl, Nat.le_of_ble_eq_true rfl⟩) (zz_preV hK hP hD hS hA hE [3, 4, 5, 6] [2, 3, 4] rfl (by decide) rfl 3 rfl rfl rfl) rfl rfl hl.1 rfl (lv_room (Nat.le_of_ble_eq_true rfl)) dX2_walk_83 ⟨Nat.zero_le _, Nat.zero_le _⟩) hP hD hS hA [3, 4, 5, 6] rfl rfl (fun H locs hP hD hS => ?_)
              have hP : va_P D vwCl (zw_2_0_4 a0 a1 a2 a3 a4 a5 a6 a7 a8 k1 k2 k4 k5 k6 k8 f12 f18 count1 next1 views1 held1 count2 steps2) H := hP
              have hD : va_D A (zw_2_0_4 a0 a1 a2 a3 a4 a5 a6 a7 a8 k1 k2 k4 k5 k6 k8 f12 f18 count1 next1 views1 held1 count2 steps2) := hD
              refine lv_istore (lv' := [(4, .int r25), (0, .ref a0), (1, .ref a3), (3, .ref a7), (5, .int x6), (6, .int x7)]) hx hb dX2_walk_86 hl (by decide) rfl (fun ls hl => ?_)
              exact Kj88_20 r25 _ _ hP hD hS ls (lv_sub hl [1, 2, 3, 4, 5, 0] rfl) hf
          refine lv_if_eq (tgt := 62) hx hb dX2_walk_49 (by decide) (fun c49 => ?_) (fun c49 => ?_)
          · have hf := zz_ps hf c49
            refine lv_lconst (v := (0 : Int64)) hx hb dX2_walk_62 (by decide) ?_
            exact Kj63_16 (0 : Int64) _ _ hP hD hS ls (lv_sub hl [0, 1, 2, 3, 4, 5] rfl) hf
          · have hf := zz_ng hf c49
            refine lv_aload_n hx hb dX2_walk_52 rfl (lv_at hl 1 rfl) ?_
            refine va_get (D := D) (ci := 0) (v := .ref a5) (C := RX0) (T := TX0) (N := 4) hx hb hts inX0 hown hK hP 3 rfl rfl 1 (by decide) lk25 (fun _ h9 => h9) rfl dX2_walk_53 ?_
            refine lv_iload hx hb dX2_walk_56 (lv_at hl 3 rfl) ?_
            obtain ⟨hg27, hf⟩ := zz_gd hf
            refine va_lald hx hb hK hP 5 3 rfl rfl hg27 dX2_walk_58 ?_
            refine lv_goto (tgt := 63) hx hb dX2_walk_59 (by decide) ?_
            exact Kj63_16 (views1 (Int32.toNatClampNeg x5)) _ _ hP hD hS ls (lv_sub hl [0, 1, 2, 3, 4, 5] rfl) hf
    exact hLkL21_9 F v3 (0 : Int32) (0 : Int32) places0 views0 _ _ hP hD hS ls (lv_sub hl [3, 4, 5, 2, 1, 0] rfl) hf
  refine lv_if_eq (tgt := 12) hx hb dX2_walk_5 (by decide) (fun c5 => ?_) (fun c5 => ?_)
  · refine lv_iconst (v := (-1 : Int32)) hx hb dX2_walk_12 (by decide) ?_
    refine zz_ti (show v3 = (-1 : Int32) by rw [hv3, if_pos c5]) ?_
    exact hK4 ls (lv_sub hl [0, 1, 3] rfl)
  · refine lv_iload_n hx hb dX2_walk_8 rfl (lv_at hl 2 rfl) ?_
    refine lv_goto (tgt := 13) hx hb dX2_walk_9 (by decide) ?_
    refine zz_ti (show v3 = u1 by rw [hv3, if_neg c5]) ?_
    exact hK4 ls (lv_sub hl [0, 1, 3] rfl)
def rmX2_momentsSeen : Room := { frames := 0, cells := 0, slots := 0, locals := 0 }
set_option maxHeartbeats 4000000 in
set_option maxRecDepth 100000 in
theorem zc_X2_momentsSeen (l : Launch) (D : va_G) (tb : Nat → Nat) (a0 a1 a2 : Nat) (k1 k2 : ClassId) (F : Nat) (u0 : Int32) (places0 : Nat → Int32) (views0 : Nat → Int64) (r : Int32) (hf : pX2_momentsSeen F u0 places0 views0 = some r) : zz_Mi l yX2_momentsSeen wsX2_momentsSeen rmX2_momentsSeen D tb [(k1, .int), (k2, .long)] [.ref a0, .int u0] (zw_2 a0 a1 a2 k1 k2 places0 views0) (zw_2 a0 a1 a2 k1 k2 places0 views0) r := by
  refine zz_ofi (cc := cX2_momentsSeen) (maxL := 6) (by decide) rfl (Nat.le_of_ble_eq_true rfl) ?_
  intro p e s m args below meth c A Q hfx hK hA hE hret H locs hP hD hS ls hl
  obtain ⟨hx, hb, hml, hown, hts⟩ := id hfx
  have inX2 : ∀ w ∈ u_ws RX2 TX2 2, w ∈ wsX2_momentsSeen := by decide +kernel
  have lk15 := hts (.fieldLink RX2 15 "CatBeat$Night" "views" "[J") (by decide +kernel)
  have hl : lv_has ls 6 [(0, .ref a0), (1, .int u0)] := hl
  unfold pX2_momentsSeen at hf
  refine lv_lconst (v := (1 : Int64)) hx hb dX2_momentsSeen_0 (by decide) ?_
  refine lv_iload_n hx hb dX2_momentsSeen_1 rfl (lv_at hl 1 rfl) ?_
  refine lv_lshl (v := (zz_lshl (1 : Int64) u0)) hx hb dX2_momentsSeen_2 rfl ?_
  obtain ⟨v1, hv1, hf⟩ := zz_lts hf
  refine zz_tl hv1 ?_
  refine lv_lstore_n (lv' := [(2, .long v1), (0, .ref a0), (1, .int u0)]) hx hb dX2_momentsSeen_3 rfl hl (by decide) rfl (fun ls hl => ?_)
  refine lv_iconst (v := (0 : Int32)) hx hb dX2_momentsSeen_4 (by decide) ?_
  refine lv_istore (lv' := [(4, .int (0 : Int32)), (2, .long v1), (0, .ref a0), (1, .int u0)]) hx hb dX2_momentsSeen_5 hl (by decide) rfl (fun ls hl => ?_)
  refine lv_iconst (v := (0 : Int32)) hx hb dX2_momentsSeen_7 (by decide) ?_
  refine lv_istore (lv' := [(5, .int (0 : Int32)), (4, .int (0 : Int32)), (2, .long v1), (0, .ref a0), (1, .int u0)]) hx hb dX2_momentsSeen_8 hl (by decide) rfl (fun ls hl => ?_)
  have hLkL10_3 : ∀ (n10_3 : Nat) (x2 : Int32) (x3 : Int32) (H : Heap) (locs : List Loc), va_P D vwCl (zw_2 a0 a1 a2 k1 k2 places0 views0) H → va_D A (zw_2 a0 a1 a2 k1 k2 places0 views0) → va_S A s.heap H locs → ∀ ls : Array Slot, lv_has ls 6 [(2, .long v1), (0, .ref a0), (4, .int x2), (5, .int x3)] → pX2_momentsSeen_L10_3 views0 v1 n10_3 x2 x3 = some r → W p l e rmX2_momentsSeen s m args below meth c H locs 0 0 Q (F0 m 10 ls []) := by
    intro n10_3
    induction n10_3 with
    | zero =>
      intro x2 x3 H locs hP hD hS ls hl hf
      exact nomatch (show (none : Option _) = some _ from hf)
    | succ n10_3 ihkL10_3 =>
      intro x2 x3 H locs hP hD hS ls hl hf
      rw [pX2_momentsSeen_L10_3] at hf
      refine lv_iload hx hb dX2_momentsSeen_10 (lv_at hl 3 rfl) ?_
      refine lv_bipush (v := (96 : Int32)) hx hb dX2_momentsSeen_12 (by decide) ?_
      refine lv_icmp_ge (tgt := 40) hx hb dX2_momentsSeen_14 (by decide) (fun c14 => ?_) (fun c14 => ?_)
      · have hf := zz_ps hf c14
        refine lv_iload hx hb dX2_momentsSeen_40 (lv_at hl 2 rfl) ?_
        obtain rfl := zz_e1 hf
        exact hret _ _ _ _ dX2_momentsSeen_42 hP hD hS
      · have hf := zz_ng hf c14
        refine lv_aload_n hx hb dX2_momentsSeen_17 rfl (lv_at hl 1 rfl) ?_
        refine va_get (D := D) (ci := 2) (v := .ref a2) (C := RX2) (T := TX2) (N := 2) hx hb hts inX2 hown hK hP 0 rfl rfl 1 (by decide) lk15 (fun _ h9 => h9) rfl dX2_momentsSeen_18 ?_
        refine lv_iload hx hb dX2_momentsSeen_21 (lv_at hl 3 rfl) ?_
        obtain ⟨hg5, hf⟩ := zz_gd hf
        refine va_lald hx hb hK hP 2 1 rfl rfl hg5 dX2_momentsSeen_23 ?_
        refine lv_lload_n hx hb dX2_momentsSeen_24 rfl (lv_at hl 0 rfl) ?_
        refine lv_land hx hb dX2_momentsSeen_25 ?_
        refine lv_lconst (v := (0 : Int64)) hx hb dX2_momentsSeen_26 (by decide) ?_
        refine W.lcmp hx hb dX2_momentsSeen_27 ?_
        obtain ⟨j34_7, hj34_7, hf⟩ := zz_lts hf
        have Kj34_7 : ∀ (x6 : Int32) (H : Heap) (locs : List Loc), va_P D vwCl (zw_2 a0 a1 a2 k1 k2 places0 views0) H → va_D A (zw_2 a0 a1 a2 k1 k2 places0 views0) → va_S A s.heap H locs → ∀ ls : Array Slot, lv_has ls 6 [(2, .long v1), (0, .ref a0), (5, .int x3), (4, .int x6)] → j34_7 x6 = some r → W p l e rmX2_momentsSeen s m args below meth c H locs 0 0 Q (F0 m 34 ls []) := by
          intro x6 H locs hP hD hS ls hl hf
          rw [hj34_7] at hf
          obtain ⟨v8, hv8, hf⟩ := zz_lts hf
          refine lv_iinc (v := v8) (lv' := [(5, .int v8), (2, .long v1), (0, .ref a0), (4, .int x6)]) hx hb dX2_momentsSeen_34 hl (k := 2) rfl (by rw [hv8]; rfl) (by decide) rfl (fun ls hl => ?_)
          refine lv_goto (tgt := 10) hx hb dX2_momentsSeen_37 (by decide) ?_
          exact ihkL10_3 x6 v8 _ _ hP hD hS ls (lv_sub hl [1, 2, 3, 0] rfl) hf
        refine lv_if_eq (tgt := 34) hx hb dX2_momentsSeen_28 (by decide) (fun c28 => ?_) (fun c28 => ?_)
        · have hf := zz_ps hf c28
          exact Kj34_7 x2 _ _ hP hD hS ls (lv_sub hl [0, 1, 3, 2] rfl) hf
        · have hf := zz_ng hf c28
          obtain ⟨v9, hv9, hf⟩ := zz_lts hf
          refine lv_iinc (v := v9) (lv' := [(4, .int v9), (2, .long v1), (0, .ref a0), (5, .int x3)]) hx hb dX2_momentsSeen_31 hl (k := 2) rfl (by rw [hv9]; rfl) (by decide) rfl (fun ls hl => ?_)
          exact Kj34_7 v9 _ _ hP hD hS ls (lv_sub hl [1, 2, 3, 0] rfl) hf
  exact hLkL10_3 F (0 : Int32) (0 : Int32) _ _ hP hD hS ls (lv_sub hl [2, 3, 1, 0] rfl) hf
def rmX2_longestUnseen : Room := { frames := 1, cells := 0, slots := 0, locals := 21 }
set_option maxHeartbeats 4000000 in
set_option maxRecDepth 100000 in
theorem zc_X2_longestUnseen (l : Launch) (D : va_G) (tb : Nat → Nat) (a0 a1 a2 : Nat) (k1 k2 : ClassId) (F : Nat) (u0 : Int32) (places0 : Nat → Int32) (views0 : Nat → Int64) (r : Int32) (hf : pX2_longestUnseen F u0 places0 views0 = some r) : zz_Mi l yX2_longestUnseen wsX2_longestUnseen rmX2_longestUnseen D tb [(k1, .int), (k2, .long)] [.ref a0, .int u0] (zw_2 a0 a1 a2 k1 k2 places0 views0) (zw_2 a0 a1 a2 k1 k2 places0 views0) r := by
  refine zz_ofi (cc := cX2_longestUnseen) (maxL := 7) (by decide) rfl (Nat.le_of_ble_eq_true rfl) ?_
  intro p e s m args below meth c A Q hfx hK hA hE hret H locs hP hD hS ls hl
  obtain ⟨hx, hb, hml, hown, hts⟩ := id hfx
  have inX2 : ∀ w ∈ u_ws RX2 TX2 2, w ∈ wsX2_longestUnseen := by decide +kernel
  have lk15 := hts (.fieldLink RX2 15 "CatBeat$Night" "views" "[J") (by decide +kernel)
  have lkm39 := hts (.methodLink RX2 39 Lib.Math.max.name) (by decide +kernel)
  have hl : lv_has ls 7 [(0, .ref a0), (1, .int u0)] := hl
  unfold pX2_longestUnseen at hf
  refine lv_lconst (v := (1 : Int64)) hx hb dX2_longestUnseen_0 (by decide) ?_
  refine lv_iload_n hx hb dX2_longestUnseen_1 rfl (lv_at hl 1 rfl) ?_
  refine lv_lshl (v := (zz_lshl (1 : Int64) u0)) hx hb dX2_longestUnseen_2 rfl ?_
  obtain ⟨v1, hv1, hf⟩ := zz_lts hf
  refine zz_tl hv1 ?_
  refine lv_lstore_n (lv' := [(2, .long v1), (0, .ref a0), (1, .int u0)]) hx hb dX2_longestUnseen_3 rfl hl (by decide) rfl (fun ls hl => ?_)
  refine lv_iconst (v := (0 : Int32)) hx hb dX2_longestUnseen_4 (by decide) ?_
  refine lv_istore (lv' := [(4, .int (0 : Int32)), (2, .long v1), (0, .ref a0), (1, .int u0)]) hx hb dX2_longestUnseen_5 hl (by decide) rfl (fun ls hl => ?_)
  refine lv_iconst (v := (0 : Int32)) hx hb dX2_longestUnseen_7 (by decide) ?_
  refine lv_istore (lv' := [(5, .int (0 : Int32)), (4, .int (0 : Int32)), (2, .long v1), (0, .ref a0), (1, .int u0)]) hx hb dX2_longestUnseen_8 hl (by decide) rfl (fun ls hl => ?_)
  refine lv_iconst (v := (0 : Int32)) hx hb dX2_longestUnseen_10 (by decide) ?_
  refine lv_istore (lv' := [(6, .int (0 : Int32)), (5, .int (0 : Int32)), (4, .int (0 : Int32)), (2, .long v1), (0, .ref a0), (1, .int u0)]) hx hb dX2_longestUnseen_11 hl (by decide) rfl (fun ls hl => ?_)
  have hLkL13_4 : ∀ (n13_4 : Nat) (x2 : Int32) (x3 : Int32) (x4 : Int32) (H : Heap) (locs : List Loc), va_P D vwCl (zw_2 a0 a1 a2 k1 k2 places0 views0) H → va_D A (zw_2 a0 a1 a2 k1 k2 places0 views0) → va_S A s.heap H locs → ∀ ls : Array Slot, lv_has ls 7 [(2, .long v1), (0, .ref a0), (4, .int x2), (5, .int x3), (6, .int x4)] → pX2_longestUnseen_L13_4 views0 v1 n13_4 x2 x3 x4 = some r → W p l e rmX2_longestUnseen s m args below meth c H locs 0 0 Q (F0 m 13 ls []) := by
    intro n13_4
    induction n13_4 with
    | zero =>
      intro x2 x3 x4 H locs hP hD hS ls hl hf
      exact nomatch (show (none : Option _) = some _ from hf)
    | succ n13_4 ihkL13_4 =>
      intro x2 x3 x4 H locs hP hD hS ls hl hf
      rw [pX2_longestUnseen_L13_4] at hf
      refine lv_iload hx hb dX2_longestUnseen_13 (lv_at hl 4 rfl) ?_
      refine lv_bipush (v := (96 : Int32)) hx hb dX2_longestUnseen_15 (by decide) ?_
      refine lv_icmp_ge (tgt := 59) hx hb dX2_longestUnseen_17 (by decide) (fun c17 => ?_) (fun c17 => ?_)
      · have hf := zz_ps hf c17
        refine lv_iload hx hb dX2_longestUnseen_59 (lv_at hl 2 rfl) ?_
        obtain rfl := zz_e1 hf
        exact hret _ _ _ _ dX2_longestUnseen_61 hP hD hS
      · have hf := zz_ng hf c17
        refine lv_aload_n hx hb dX2_longestUnseen_20 rfl (lv_at hl 1 rfl) ?_
        refine va_get (D := D) (ci := 2) (v := .ref a2) (C := RX2) (T := TX2) (N := 2) hx hb hts inX2 hown hK hP 0 rfl rfl 1 (by decide) lk15 (fun _ h9 => h9) rfl dX2_longestUnseen_21 ?_
        refine lv_iload hx hb dX2_longestUnseen_24 (lv_at hl 4 rfl) ?_
        obtain ⟨hg6, hf⟩ := zz_gd hf
        refine va_lald hx hb hK hP 2 1 rfl rfl hg6 dX2_longestUnseen_26 ?_
        refine lv_lload_n hx hb dX2_longestUnseen_27 rfl (lv_at hl 0 rfl) ?_
        refine lv_land hx hb dX2_longestUnseen_28 ?_
        refine lv_lconst (v := (0 : Int64)) hx hb dX2_longestUnseen_29 (by decide) ?_
        refine W.lcmp hx hb dX2_longestUnseen_30 ?_
        obtain ⟨v7, hv7, hf⟩ := zz_lts hf
        have hK8 : ∀ ls : Array Slot, lv_has ls 7 [(2, .long v1), (0, .ref a0), (4, .int x2), (6, .int x4)] → W p l e rmX2_longestUnseen s m args below meth c H locs 0 0 Q (F0 m 42 ls [.int v7]) := by
          intro ls hl
          refine lv_istore (lv' := [(5, .int v7), (2, .long v1), (0, .ref a0), (4, .int x2), (6, .int x4)]) hx hb dX2_longestUnseen_42 hl (by decide) rfl (fun ls hl => ?_)
          refine lv_iload hx hb dX2_longestUnseen_44 (lv_at hl 3 rfl) ?_
          refine lv_iload hx hb dX2_longestUnseen_46 (lv_at hl 0 rfl) ?_
          refine va_mmax hx hb (hml.trans hl.1.symm) hown lkm39 (hts (.static Lib.Math.max.name) (by decide +kernel)) (hts (.initialized "java/lang/Math") (by decide +kernel)) (hts (.code Lib.Math.max.name Lib.Math.max.code 2 (some .int)) (by decide +kernel)) (Nat.le_of_ble_eq_true rfl) (Nat.le_of_ble_eq_true rfl) (Nat.zero_le _) (Nat.zero_le _) dX2_longestUnseen_48 ?_
          obtain ⟨v9, hv9, hf⟩ := zz_lts hf
          refine zz_ti hv9 ?_
          refine lv_istore (lv' := [(4, .int v9), (5, .int v7), (2, .long v1), (0, .ref a0), (6, .int x4)]) hx hb dX2_longestUnseen_51 hl (by decide) rfl (fun ls hl => ?_)
          obtain ⟨v10, hv10, hf⟩ := zz_lts hf
          refine lv_iinc (v := v10) (lv' := [(6, .int v10), (4, .int v9), (5, .int v7), (2, .long v1), (0, .ref a0)]) hx hb dX2_longestUnseen_53 hl (k := 4) rfl (by rw [hv10]; rfl) (by decide) rfl (fun ls hl => ?_)
          refine lv_goto (tgt := 13) hx hb dX2_longestUnseen_56 (by decide) ?_
          exact ihkL13_4 v9 v7 v10 _ _ hP hD hS ls (lv_sub hl [3, 4, 1, 2, 0] rfl) hf
        refine lv_if_eq (tgt := 38) hx hb dX2_longestUnseen_31 (by decide) (fun c31 => ?_) (fun c31 => ?_)
        · refine lv_iload hx hb dX2_longestUnseen_38 (lv_at hl 3 rfl) ?_
          refine lv_iconst (v := (1 : Int32)) hx hb dX2_longestUnseen_40 (by decide) ?_
          refine lv_iadd hx hb dX2_longestUnseen_41 ?_
          refine zz_ti (show v7 = (x3 + (1 : Int32)) by rw [hv7, if_pos c31]) ?_
          exact hK8 ls (lv_sub hl [0, 1, 2, 4] rfl)
        · refine lv_iconst (v := (0 : Int32)) hx hb dX2_longestUnseen_34 (by decide) ?_
          refine lv_goto (tgt := 42) hx hb dX2_longestUnseen_35 (by decide) ?_
          refine zz_ti (show v7 = (0 : Int32) by rw [hv7, if_neg c31]) ?_
          exact hK8 ls (lv_sub hl [0, 1, 2, 4] rfl)
  exact hLkL13_4 F (0 : Int32) (0 : Int32) (0 : Int32) _ _ hP hD hS ls (lv_sub hl [3, 4, 2, 1, 0] rfl) hf
def rmX2_endOfUnseen : Room := { frames := 0, cells := 0, slots := 0, locals := 0 }
set_option maxHeartbeats 4000000 in
set_option maxRecDepth 100000 in
theorem zc_X2_endOfUnseen (l : Launch) (D : va_G) (tb : Nat → Nat) (a0 a1 a2 : Nat) (k1 k2 : ClassId) (F : Nat) (u0 : Int32) (u1 : Int32) (places0 : Nat → Int32) (views0 : Nat → Int64) (r : Int32) (hf : pX2_endOfUnseen F u0 u1 places0 views0 = some r) : zz_Mi l yX2_endOfUnseen wsX2_endOfUnseen rmX2_endOfUnseen D tb [(k1, .int), (k2, .long)] [.ref a0, .int u0, .int u1] (zw_2 a0 a1 a2 k1 k2 places0 views0) (zw_2 a0 a1 a2 k1 k2 places0 views0) r := by
  refine zz_ofi (cc := cX2_endOfUnseen) (maxL := 7) (by decide) rfl (Nat.le_of_ble_eq_true rfl) ?_
  intro p e s m args below meth c A Q hfx hK hA hE hret H locs hP hD hS ls hl
  obtain ⟨hx, hb, hml, hown, hts⟩ := id hfx
  have inX2 : ∀ w ∈ u_ws RX2 TX2 2, w ∈ wsX2_endOfUnseen := by decide +kernel
  have lk15 := hts (.fieldLink RX2 15 "CatBeat$Night" "views" "[J") (by decide +kernel)
  have hl : lv_has ls 7 [(0, .ref a0), (1, .int u0), (2, .int u1)] := hl
  unfold pX2_endOfUnseen at hf
  refine lv_lconst (v := (1 : Int64)) hx hb dX2_endOfUnseen_0 (by decide) ?_
  refine lv_iload_n hx hb dX2_endOfUnseen_1 rfl (lv_at hl 1 rfl) ?_
  refine lv_lshl (v := (zz_lshl (1 : Int64) u0)) hx hb dX2_endOfUnseen_2 rfl ?_
  obtain ⟨v1, hv1, hf⟩ := zz_lts hf
  refine zz_tl hv1 ?_
  refine lv_lstore_n (lv' := [(3, .long v1), (0, .ref a0), (1, .int u0), (2, .int u1)]) hx hb dX2_endOfUnseen_3 rfl hl (by decide) rfl (fun ls hl => ?_)
  refine lv_iconst (v := (0 : Int32)) hx hb dX2_endOfUnseen_4 (by decide) ?_
  refine lv_istore (lv' := [(5, .int (0 : Int32)), (3, .long v1), (0, .ref a0), (1, .int u0), (2, .int u1)]) hx hb dX2_endOfUnseen_5 hl (by decide) rfl (fun ls hl => ?_)
  refine lv_iconst (v := (0 : Int32)) hx hb dX2_endOfUnseen_7 (by decide) ?_
  refine lv_istore (lv' := [(6, .int (0 : Int32)), (5, .int (0 : Int32)), (3, .long v1), (0, .ref a0), (1, .int u0), (2, .int u1)]) hx hb dX2_endOfUnseen_8 hl (by decide) rfl (fun ls hl => ?_)
  have hLkL10_3 : ∀ (n10_3 : Nat) (x2 : Int32) (x3 : Int32) (H : Heap) (locs : List Loc), va_P D vwCl (zw_2 a0 a1 a2 k1 k2 places0 views0) H → va_D A (zw_2 a0 a1 a2 k1 k2 places0 views0) → va_S A s.heap H locs → ∀ ls : Array Slot, lv_has ls 7 [(3, .long v1), (0, .ref a0), (2, .int u1), (5, .int x2), (6, .int x3)] → pX2_endOfUnseen_L10_3 u1 views0 v1 n10_3 x2 x3 = some r → W p l e rmX2_endOfUnseen s m args below meth c H locs 0 0 Q (F0 m 10 ls []) := by
    intro n10_3
    induction n10_3 with
    | zero =>
      intro x2 x3 H locs hP hD hS ls hl hf
      exact nomatch (show (none : Option _) = some _ from hf)
    | succ n10_3 ihkL10_3 =>
      intro x2 x3 H locs hP hD hS ls hl hf
      rw [pX2_endOfUnseen_L10_3] at hf
      refine lv_iload hx hb dX2_endOfUnseen_10 (lv_at hl 4 rfl) ?_
      refine lv_bipush (v := (96 : Int32)) hx hb dX2_endOfUnseen_12 (by decide) ?_
      refine lv_icmp_ge (tgt := 56) hx hb dX2_endOfUnseen_14 (by decide) (fun c14 => ?_) (fun c14 => ?_)
      · have hf := zz_ps hf c14
        refine lv_iconst (v := (-1 : Int32)) hx hb dX2_endOfUnseen_56 (by decide) ?_
        obtain rfl := zz_e1 hf
        exact hret _ _ _ _ dX2_endOfUnseen_57 hP hD hS
      · have hf := zz_ng hf c14
        refine lv_aload_n hx hb dX2_endOfUnseen_17 rfl (lv_at hl 1 rfl) ?_
        refine va_get (D := D) (ci := 2) (v := .ref a2) (C := RX2) (T := TX2) (N := 2) hx hb hts inX2 hown hK hP 0 rfl rfl 1 (by decide) lk15 (fun _ h9 => h9) rfl dX2_endOfUnseen_18 ?_
        refine lv_iload hx hb dX2_endOfUnseen_21 (lv_at hl 4 rfl) ?_
        obtain ⟨hg5, hf⟩ := zz_gd hf
        refine va_lald hx hb hK hP 2 1 rfl rfl hg5 dX2_endOfUnseen_23 ?_
        refine lv_lload_n hx hb dX2_endOfUnseen_24 rfl (lv_at hl 0 rfl) ?_
        refine lv_land hx hb dX2_endOfUnseen_25 ?_
        refine lv_lconst (v := (0 : Int64)) hx hb dX2_endOfUnseen_26 (by decide) ?_
        refine W.lcmp hx hb dX2_endOfUnseen_27 ?_
        obtain ⟨v6, hv6, hf⟩ := zz_lts hf
        have hK7 : ∀ ls : Array Slot, lv_has ls 7 [(3, .long v1), (0, .ref a0), (2, .int u1), (6, .int x3)] → W p l e rmX2_endOfUnseen s m args below meth c H locs 0 0 Q (F0 m 39 ls [.int v6]) := by
          intro ls hl
          refine lv_istore (lv' := [(5, .int v6), (3, .long v1), (0, .ref a0), (2, .int u1), (6, .int x3)]) hx hb dX2_endOfUnseen_39 hl (by decide) rfl (fun ls hl => ?_)
          refine lv_iload hx hb dX2_endOfUnseen_41 (lv_at hl 0 rfl) ?_
          refine lv_iload_n hx hb dX2_endOfUnseen_43 rfl (lv_at hl 3 rfl) ?_
          refine lv_icmp_lt (tgt := 50) hx hb dX2_endOfUnseen_44 (by decide) (fun c44 => ?_) (fun c44 => ?_)
          · have hf := zz_ps hf c44
            obtain ⟨v8, hv8, hf⟩ := zz_lts hf
            refine lv_iinc (v := v8) (lv' := [(6, .int v8), (5, .int v6), (3, .long v1), (0, .ref a0), (2, .int u1)]) hx hb dX2_endOfUnseen_50 hl (k := 4) rfl (by rw [hv8]; rfl) (by decide) rfl (fun ls hl => ?_)
            refine lv_goto (tgt := 10) hx hb dX2_endOfUnseen_53 (by decide) ?_
            exact ihkL10_3 v6 v8 _ _ hP hD hS ls (lv_sub hl [2, 3, 4, 1, 0] rfl) hf
          · have hf := zz_ng hf c44
            refine lv_iload hx hb dX2_endOfUnseen_47 (lv_at hl 4 rfl) ?_
            obtain rfl := zz_e1 hf
            exact hret _ _ _ _ dX2_endOfUnseen_49 hP hD hS
        refine lv_if_eq (tgt := 35) hx hb dX2_endOfUnseen_28 (by decide) (fun c28 => ?_) (fun c28 => ?_)
        · refine lv_iload hx hb dX2_endOfUnseen_35 (lv_at hl 3 rfl) ?_
          refine lv_iconst (v := (1 : Int32)) hx hb dX2_endOfUnseen_37 (by decide) ?_
          refine lv_iadd hx hb dX2_endOfUnseen_38 ?_
          refine zz_ti (show v6 = (x2 + (1 : Int32)) by rw [hv6, if_pos c28]) ?_
          exact hK7 ls (lv_sub hl [0, 1, 2, 4] rfl)
        · refine lv_iconst (v := (0 : Int32)) hx hb dX2_endOfUnseen_31 (by decide) ?_
          refine lv_goto (tgt := 39) hx hb dX2_endOfUnseen_32 (by decide) ?_
          refine zz_ti (show v6 = (0 : Int32) by rw [hv6, if_neg c28]) ?_
          exact hK7 ls (lv_sub hl [0, 1, 2, 4] rfl)
  exact hLkL10_3 F (0 : Int32) (0 : Int32) _ _ hP hD hS ls (lv_sub hl [2, 3, 5, 1, 0] rfl) hf
def rmJ7_fill_d0a16 : Room := { frames := 0, cells := 0, slots := 0, locals := 0 }
set_option maxHeartbeats 4000000 in
set_option maxRecDepth 100000 in
theorem zc_J7_fill_d0a16 (l : Launch) (D : va_G) (tb : Nat → Nat) (a0 : Nat) (k0 : ClassId) (n0 : Nat) (F : Nat) (u1 : Int64) (f0 : Nat → Int64) (o0 : Nat → Int64) (hf : pJ7_fill_d0a16 F n0 u1 f0 = some o0) : zz_Mv l yJ7_fill_d0a16 wsJ7_fill_d0a16 rmJ7_fill_d0a16 D tb [(k0, .long)] [.ref a0, .long u1] (zw_arrJ a0 k0 n0 f0) (zw_arrJ a0 k0 n0 o0)  := by
  refine zz_ofv (cc := cJ7_fill_d0a16) (maxL := 5) (by decide) rfl (Nat.le_of_ble_eq_true rfl) ?_
  intro p e s m args below meth c A Q hfx hK hA hE hret H locs hP hD hS ls hl
  obtain ⟨hx, hb, hml, hown, hts⟩ := id hfx
  have hl : lv_has ls 5 [(0, .ref a0), (1, .long u1)] := hl
  unfold pJ7_fill_d0a16 at hf
  refine lv_iconst (v := (0 : Int32)) hx hb dJ7_fill_d0a16_0 (by decide) ?_
  refine lv_istore_n (lv' := [(3, .int (0 : Int32)), (0, .ref a0), (1, .long u1)]) hx hb dJ7_fill_d0a16_1 rfl hl (by decide) rfl (fun ls hl => ?_)
  refine lv_aload_n hx hb dJ7_fill_d0a16_2 rfl (lv_at hl 1 rfl) ?_
  refine va_alen (v := (Int32.ofNat n0)) hx hb hK hP 0 0 rfl rfl rfl dJ7_fill_d0a16_3 ?_
  obtain ⟨v1, hv1, hf⟩ := zz_lts hf
  refine zz_ti hv1 ?_
  refine lv_istore (lv' := [(4, .int v1), (3, .int (0 : Int32)), (0, .ref a0), (1, .long u1)]) hx hb dJ7_fill_d0a16_4 hl (by decide) rfl (fun ls hl => ?_)
  have hLkL6_3 : ∀ (n6_3 : Nat) (x2 : Int32) (z3 : Nat → Int64) (H : Heap) (locs : List Loc), va_P D vwCl (zw_arrJ a0 k0 n0 z3) H → va_D A (zw_arrJ a0 k0 n0 z3) → va_S A s.heap H locs → ∀ ls : Array Slot, lv_has ls 5 [(4, .int v1), (0, .ref a0), (1, .long u1), (3, .int x2)] → pJ7_fill_d0a16_L6_3 u1 n0 v1 n6_3 x2 z3 = some o0 → W p l e rmJ7_fill_d0a16 s m args below meth c H locs 0 0 Q (F0 m 6 ls []) := by
    intro n6_3
    induction n6_3 with
    | zero =>
      intro x2 z3 H locs hP hD hS ls hl hf
      exact nomatch (show (none : Option _) = some _ from hf)
    | succ n6_3 ihkL6_3 =>
      intro x2 z3 H locs hP hD hS ls hl hf
      rw [pJ7_fill_d0a16_L6_3] at hf
      refine lv_iload_n hx hb dJ7_fill_d0a16_6 rfl (lv_at hl 3 rfl) ?_
      refine lv_iload hx hb dJ7_fill_d0a16_7 (lv_at hl 0 rfl) ?_
      refine lv_icmp_ge (tgt := 22) hx hb dJ7_fill_d0a16_9 (by decide) (fun c9 => ?_) (fun c9 => ?_)
      · have hf := zz_ps hf c9
        obtain rfl := zz_e1 hf
        exact hret _ _ _ _ dJ7_fill_d0a16_22 hP hD hS
      · have hf := zz_ng hf c9
        refine lv_aload_n hx hb dJ7_fill_d0a16_12 rfl (lv_at hl 1 rfl) ?_
        refine lv_iload_n hx hb dJ7_fill_d0a16_13 rfl (lv_at hl 3 rfl) ?_
        refine lv_lload_n hx hb dJ7_fill_d0a16_14 rfl (lv_at hl 2 rfl) ?_
        obtain ⟨hg5, hf⟩ := zz_gd hf
        obtain ⟨f6, hf6, hf⟩ := zz_lts hf
        refine va_last hx hb hK hP hD hS 0 0 rfl rfl hg5 dJ7_fill_d0a16_15 (fun H locs hP hD hS => ?_)
        have hP : va_P D vwCl (zw_arrJ a0 k0 n0 f6) H := by rw [hf6]; exact hP
        have hD : va_D A (zw_arrJ a0 k0 n0 f6) := by rw [hf6]; exact hD
        obtain ⟨v7, hv7, hf⟩ := zz_lts hf
        refine lv_iinc (v := v7) (lv' := [(3, .int v7), (4, .int v1), (0, .ref a0), (1, .long u1)]) hx hb dJ7_fill_d0a16_16 hl (k := 3) rfl (by rw [hv7]; rfl) (by decide) rfl (fun ls hl => ?_)
        refine lv_goto (tgt := 6) hx hb dJ7_fill_d0a16_19 (by decide) ?_
        exact ihkL6_3 v7 f6 _ _ hP hD hS ls (lv_sub hl [1, 2, 3, 0] rfl) hf
  exact hLkL6_3 F (0 : Int32) f0 _ _ hP hD hS ls (lv_sub hl [0, 2, 3, 1] rfl) hf
def rmX3_startFor : Room := { frames := 1, cells := 0, slots := 0, locals := 24 }
set_option maxHeartbeats 4000000 in
set_option maxRecDepth 100000 in
theorem zc_X3_startFor (l : Launch) (D : va_G) (tb : Nat → Nat) (a0 a1 : Nat) (k1 : ClassId) (F : Nat) (u0 : Int32) (need0 : Int32) (ways0 : Nat → Int64) (o0 : Int32) (o1 : Nat → Int64) (hf : pX3_startFor F u0 need0 ways0 = some (o0, o1)) : zz_Mv l yX3_startFor wsX3_startFor rmX3_startFor D tb [(k1, .long)] [.ref a0, .int u0] (zw_3 a0 a1 k1 need0 ways0) (zw_3 a0 a1 k1 o0 o1)  := by
  refine zz_ofv (cc := cX3_startFor) (maxL := 2) (by decide) rfl (Nat.le_of_ble_eq_true rfl) ?_
  intro p e s m args below meth c A Q hfx hK hA hE hret H locs hP hD hS ls hl
  obtain ⟨hx, hb, hml, hown, hts⟩ := id hfx
  have inX3 : ∀ w ∈ u_ws RX3 TX3 2, w ∈ wsX3_startFor := by decide +kernel
  have lkm19 := hts (.methodLink RX3 19 Lib.Math.min.name) (by decide +kernel)
  have lkm25 := hts (.methodLink RX3 25 Lib.Math.max.name) (by decide +kernel)
  have lk15 := hts (.fieldLink RX3 15 "CatBeat$Odds" "need" "I") (by decide +kernel)
  have lk9 := hts (.fieldLink RX3 9 "CatBeat$Odds" "ways" "[J") (by decide +kernel)
  have hl : lv_has ls 2 [(0, .ref a0), (1, .int u0)] := hl
  unfold pX3_startFor at hf
  refine lv_aload_n hx hb dX3_startFor_0 rfl (lv_at hl 0 rfl) ?_
  refine lv_iconst (v := (1 : Int32)) hx hb dX3_startFor_1 (by decide) ?_
  refine lv_iload_n hx hb dX3_startFor_2 rfl (lv_at hl 1 rfl) ?_
  refine lv_bipush (v := (9 : Int32)) hx hb dX3_startFor_3 (by decide) ?_
  refine va_mmin hx hb (hml.trans hl.1.symm) hown lkm19 (hts (.static Lib.Math.min.name) (by decide +kernel)) (hts (.initialized "java/lang/Math") (by decide +kernel)) (hts (.code Lib.Math.min.name Lib.Math.min.code 2 (some .int)) (by decide +kernel)) (Nat.le_of_ble_eq_true rfl) (Nat.le_of_ble_eq_true rfl) (Nat.zero_le _) (Nat.zero_le _) dX3_startFor_5 ?_
  refine va_mmax hx hb (hml.trans hl.1.symm) hown lkm25 (hts (.static Lib.Math.max.name) (by decide +kernel)) (hts (.initialized "java/lang/Math") (by decide +kernel)) (hts (.code Lib.Math.max.name Lib.Math.max.code 2 (some .int)) (by decide +kernel)) (Nat.le_of_ble_eq_true rfl) (Nat.le_of_ble_eq_true rfl) (Nat.zero_le _) (Nat.zero_le _) dX3_startFor_8 ?_
  obtain ⟨f1, hf1, hf⟩ := zz_lts hf
  refine va_put (D := D) (ci := 3) (v := .int (if (1 : Int32) < (if (9 : Int32) < u0 then (9 : Int32) else u0) then (if (9 : Int32) < u0 then (9 : Int32) else u0) else (1 : Int32))) (ty := .int) (C := RX3) (T := TX3) (N := 2) hx hb hts inX3 tyX3 tyX3_ok nmX3 hown hK hP hD hS 0 rfl rfl 1 (by decide) lk15 (fun _ h9 => h9) rfl (by decide +kernel) rfl rfl (Nat.le_of_ble_eq_true rfl) dX3_startFor_11 (fun H locs hP hD hS => ?_)
  have hP : va_P D vwCl (zw_3 a0 a1 k1 f1 ways0) H := by rw [hf1]; exact hP
  have hD : va_D A (zw_3 a0 a1 k1 f1 ways0) := by rw [hf1]; exact hD
  refine lv_aload_n hx hb dX3_startFor_14 rfl (lv_at hl 0 rfl) ?_
  refine va_get (D := D) (ci := 3) (v := .ref a1) (C := RX3) (T := TX3) (N := 2) hx hb hts inX3 hown hK hP 0 rfl rfl 0 (by decide) lk9 (fun _ h9 => h9) rfl dX3_startFor_15 ?_
  refine lv_lconst (v := (0 : Int64)) hx hb dX3_startFor_18 (by decide) ?_
  obtain ⟨f2, hc3, hf⟩ := zz_b1s hf
  refine zz_jv (va_runS (As := [.ref a1, .long (0 : Int64)]) (rest := []) hfx (zc_J7_fill_d0a16 l D tb a1 k1 10 F (0 : Int64) ways0 f2 hc3 H.size) (va_cwS 2 hts gX3_startFor_J7_fill_d0a16 rfl rfl rfl (by decide +kernel) ⟨Nat.le_of_ble_eq_true rfl, Nat.le_of_ble_eq_true rfl⟩) (zz_preS hK hP hD hS hA hE [1] [0] rfl (by decide) rfl) rfl rfl hl.1 rfl (lv_room (Nat.le_of_ble_eq_true rfl)) dX3_startFor_19 ⟨Nat.zero_le _, Nat.zero_le _⟩) hP hD hS hA [1] rfl rfl (fun H locs hP hD hS => ?_)
  have hP : va_P D vwCl (zw_3 a0 a1 k1 f1 f2) H := hP
  have hD : va_D A (zw_3 a0 a1 k1 f1 f2) := hD
  refine lv_aload_n hx hb dX3_startFor_22 rfl (lv_at hl 0 rfl) ?_
  refine va_get (D := D) (ci := 3) (v := .ref a1) (C := RX3) (T := TX3) (N := 2) hx hb hts inX3 hown hK hP 0 rfl rfl 0 (by decide) lk9 (fun _ h9 => h9) rfl dX3_startFor_23 ?_
  refine lv_iconst (v := (0 : Int32)) hx hb dX3_startFor_26 (by decide) ?_
  refine lv_lconst (v := (1 : Int64)) hx hb dX3_startFor_27 (by decide) ?_
  obtain ⟨f4, hf4, hf⟩ := zz_lts hf
  refine va_last hx hb hK hP hD hS 1 0 rfl rfl (show zz_in (0 : Int32) 10 by decide) dX3_startFor_28 (fun H locs hP hD hS => ?_)
  have hP : va_P D vwCl (zw_3 a0 a1 k1 f1 f4) H := by rw [hf4]; exact hP
  have hD : va_D A (zw_3 a0 a1 k1 f1 f4) := by rw [hf4]; exact hD
  obtain ⟨rfl, rfl⟩ := zz_e2 hf
  exact hret _ _ _ _ dX3_startFor_29 hP hD hS
def rmX3_goOn : Room := { frames := 0, cells := 0, slots := 0, locals := 0 }
set_option maxHeartbeats 4000000 in
set_option maxRecDepth 100000 in
theorem zc_X3_goOn (l : Launch) (D : va_G) (tb : Nat → Nat) (a0 a1 : Nat) (k1 : ClassId) (F : Nat) (u0 : Int64) (u1 : Int64) (need0 : Int32) (ways0 : Nat → Int64) (o0 : Nat → Int64) (hf : pX3_goOn F u0 u1 need0 ways0 = some o0) : zz_Mv l yX3_goOn wsX3_goOn rmX3_goOn D tb [(k1, .long)] [.ref a0, .long u0, .long u1] (zw_3 a0 a1 k1 need0 ways0) (zw_3 a0 a1 k1 need0 o0)  := by
  refine zz_ofv (cc := cX3_goOn) (maxL := 8) (by decide) rfl (Nat.le_of_ble_eq_true rfl) ?_
  intro p e s m args below meth c A Q hfx hK hA hE hret H locs hP hD hS ls hl
  obtain ⟨hx, hb, hml, hown, hts⟩ := id hfx
  have inX3 : ∀ w ∈ u_ws RX3 TX3 2, w ∈ wsX3_goOn := by decide +kernel
  have lk9 := hts (.fieldLink RX3 9 "CatBeat$Odds" "ways" "[J") (by decide +kernel)
  have lk15 := hts (.fieldLink RX3 15 "CatBeat$Odds" "need" "I") (by decide +kernel)
  have hl : lv_has ls 8 [(0, .ref a0), (1, .long u0), (3, .long u1)] := hl
  unfold pX3_goOn at hf
  refine lv_lconst (v := (0 : Int64)) hx hb dX3_goOn_0 (by decide) ?_
  refine lv_lstore (lv' := [(5, .long (0 : Int64)), (0, .ref a0), (1, .long u0), (3, .long u1)]) hx hb dX3_goOn_1 hl (by decide) rfl (fun ls hl => ?_)
  refine lv_aload_n hx hb dX3_goOn_3 rfl (lv_at hl 1 rfl) ?_
  refine va_get (D := D) (ci := 3) (v := .ref a1) (C := RX3) (T := TX3) (N := 2) hx hb hts inX3 hown hK hP 0 rfl rfl 0 (by decide) lk9 (fun _ h9 => h9) rfl dX3_goOn_4 ?_
  refine lv_aload_n hx hb dX3_goOn_7 rfl (lv_at hl 1 rfl) ?_
  refine va_get (D := D) (ci := 3) (v := .int need0) (C := RX3) (T := TX3) (N := 2) hx hb hts inX3 hown hK hP 0 rfl rfl 1 (by decide) lk15 (fun _ h9 => h9) rfl dX3_goOn_8 ?_
  refine lv_aload_n hx hb dX3_goOn_11 rfl (lv_at hl 1 rfl) ?_
  refine va_get (D := D) (ci := 3) (v := .ref a1) (C := RX3) (T := TX3) (N := 2) hx hb hts inX3 hown hK hP 0 rfl rfl 0 (by decide) lk9 (fun _ h9 => h9) rfl dX3_goOn_12 ?_
  refine lv_aload_n hx hb dX3_goOn_15 rfl (lv_at hl 1 rfl) ?_
  refine va_get (D := D) (ci := 3) (v := .int need0) (C := RX3) (T := TX3) (N := 2) hx hb hts inX3 hown hK hP 0 rfl rfl 1 (by decide) lk15 (fun _ h9 => h9) rfl dX3_goOn_16 ?_
  obtain ⟨hg1, hf⟩ := zz_gd hf
  refine va_lald hx hb hK hP 1 0 rfl rfl hg1 dX3_goOn_19 ?_
  refine lv_lload_n hx hb dX3_goOn_20 rfl (lv_at hl 3 rfl) ?_
  refine lv_lmul hx hb dX3_goOn_21 ?_
  refine lv_aload_n hx hb dX3_goOn_22 rfl (lv_at hl 1 rfl) ?_
  refine va_get (D := D) (ci := 3) (v := .ref a1) (C := RX3) (T := TX3) (N := 2) hx hb hts inX3 hown hK hP 0 rfl rfl 0 (by decide) lk9 (fun _ h9 => h9) rfl dX3_goOn_23 ?_
  refine lv_aload_n hx hb dX3_goOn_26 rfl (lv_at hl 1 rfl) ?_
  refine va_get (D := D) (ci := 3) (v := .int need0) (C := RX3) (T := TX3) (N := 2) hx hb hts inX3 hown hK hP 0 rfl rfl 1 (by decide) lk15 (fun _ h9 => h9) rfl dX3_goOn_27 ?_
  refine lv_iconst (v := (1 : Int32)) hx hb dX3_goOn_30 (by decide) ?_
  refine lv_isub hx hb dX3_goOn_31 ?_
  obtain ⟨hg2, hf⟩ := zz_gd hf
  refine va_lald hx hb hK hP 1 0 rfl rfl hg2 dX3_goOn_32 ?_
  refine lv_lload_n hx hb dX3_goOn_33 rfl (lv_at hl 2 rfl) ?_
  refine lv_lmul hx hb dX3_goOn_34 ?_
  refine lv_ladd hx hb dX3_goOn_35 ?_
  obtain ⟨hg3, hf⟩ := zz_gd hf
  obtain ⟨f4, hf4, hf⟩ := zz_lts hf
  refine va_last hx hb hK hP hD hS 1 0 rfl rfl hg3 dX3_goOn_36 (fun H locs hP hD hS => ?_)
  have hP : va_P D vwCl (zw_3 a0 a1 k1 need0 f4) H := by rw [hf4]; exact hP
  have hD : va_D A (zw_3 a0 a1 k1 need0 f4) := by rw [hf4]; exact hD
  refine lv_aload_n hx hb dX3_goOn_37 rfl (lv_at hl 1 rfl) ?_
  refine va_get (D := D) (ci := 3) (v := .int need0) (C := RX3) (T := TX3) (N := 2) hx hb hts inX3 hown hK hP 0 rfl rfl 1 (by decide) lk15 (fun _ h9 => h9) rfl dX3_goOn_38 ?_
  refine lv_iconst (v := (1 : Int32)) hx hb dX3_goOn_41 (by decide) ?_
  refine lv_isub hx hb dX3_goOn_42 ?_
  obtain ⟨v5, hv5, hf⟩ := zz_lts hf
  refine zz_ti hv5 ?_
  refine lv_istore (lv' := [(7, .int v5), (5, .long (0 : Int64)), (0, .ref a0), (1, .long u0), (3, .long u1)]) hx hb dX3_goOn_43 hl (by decide) rfl (fun ls hl => ?_)
  have hLkL45_8 : ∀ (n45_8 : Nat) (x6 : Int64) (x7 : Int32) (z8 : Nat → Int64) (H : Heap) (locs : List Loc), va_P D vwCl (zw_3 a0 a1 k1 need0 z8) H → va_D A (zw_3 a0 a1 k1 need0 z8) → va_S A s.heap H locs → ∀ ls : Array Slot, lv_has ls 8 [(0, .ref a0), (1, .long u0), (3, .long u1), (5, .long x6), (7, .int x7)] → pX3_goOn_L45_8 u0 u1 n45_8 x6 x7 z8 = some o0 → W p l e rmX3_goOn s m args below meth c H locs 0 0 Q (F0 m 45 ls []) := by
    intro n45_8
    induction n45_8 with
    | zero =>
      intro x6 x7 z8 H locs hP hD hS ls hl hf
      exact nomatch (show (none : Option _) = some _ from hf)
    | succ n45_8 ihkL45_8 =>
      intro x6 x7 z8 H locs hP hD hS ls hl hf
      rw [pX3_goOn_L45_8] at hf
      refine lv_iload hx hb dX3_goOn_45 (lv_at hl 4 rfl) ?_
      refine lv_if_lt (tgt := 100) hx hb dX3_goOn_47 (by decide) (fun c47 => ?_) (fun c47 => ?_)
      · have hf := zz_ps hf c47
        obtain rfl := zz_e1 hf
        exact hret _ _ _ _ dX3_goOn_100 hP hD hS
      · have hf := zz_ng hf c47
        refine lv_lload hx hb dX3_goOn_50 (lv_at hl 3 rfl) ?_
        refine lv_aload_n hx hb dX3_goOn_52 rfl (lv_at hl 0 rfl) ?_
        refine va_get (D := D) (ci := 3) (v := .ref a1) (C := RX3) (T := TX3) (N := 2) hx hb hts inX3 hown hK hP 0 rfl rfl 0 (by decide) lk9 (fun _ h9 => h9) rfl dX3_goOn_53 ?_
        refine lv_iload hx hb dX3_goOn_56 (lv_at hl 4 rfl) ?_
        obtain ⟨hg10, hf⟩ := zz_gd hf
        refine va_lald hx hb hK hP 1 0 rfl rfl hg10 dX3_goOn_58 ?_
        refine lv_lload_n hx hb dX3_goOn_59 rfl (lv_at hl 2 rfl) ?_
        refine lv_lload_n hx hb dX3_goOn_60 rfl (lv_at hl 1 rfl) ?_
        refine lv_lsub hx hb dX3_goOn_61 ?_
        refine lv_lmul hx hb dX3_goOn_62 ?_
        refine lv_ladd hx hb dX3_goOn_63 ?_
        obtain ⟨v11, hv11, hf⟩ := zz_lts hf
        refine zz_tl hv11 ?_
        refine lv_lstore (lv' := [(5, .long v11), (0, .ref a0), (1, .long u0), (3, .long u1), (7, .int x7)]) hx hb dX3_goOn_64 hl (by decide) rfl (fun ls hl => ?_)
        refine lv_aload_n hx hb dX3_goOn_66 rfl (lv_at hl 1 rfl) ?_
        refine va_get (D := D) (ci := 3) (v := .ref a1) (C := RX3) (T := TX3) (N := 2) hx hb hts inX3 hown hK hP 0 rfl rfl 0 (by decide) lk9 (fun _ h9 => h9) rfl dX3_goOn_67 ?_
        refine lv_iload hx hb dX3_goOn_70 (lv_at hl 4 rfl) ?_
        refine lv_iload hx hb dX3_goOn_72 (lv_at hl 4 rfl) ?_
        obtain ⟨j93_13, hj93_13, hf⟩ := zz_lts hf
        have Kj93_13 : ∀ (y12 : Int64) (H : Heap) (locs : List Loc), va_P D vwCl (zw_3 a0 a1 k1 need0 z8) H → va_D A (zw_3 a0 a1 k1 need0 z8) → va_S A s.heap H locs → ∀ ls : Array Slot, lv_has ls 8 [(5, .long v11), (0, .ref a0), (1, .long u0), (3, .long u1), (7, .int x7)] → j93_13 y12 = some o0 → W p l e rmX3_goOn s m args below meth c H locs 0 0 Q (F0 m 93 ls [.long y12, .int x7, .ref a1]) := by
          intro y12 H locs hP hD hS ls hl hf
          rw [hj93_13] at hf
          obtain ⟨hg14, hf⟩ := zz_gd hf
          obtain ⟨f15, hf15, hf⟩ := zz_lts hf
          refine va_last hx hb hK hP hD hS 1 0 rfl rfl hg14 dX3_goOn_93 (fun H locs hP hD hS => ?_)
          have hP : va_P D vwCl (zw_3 a0 a1 k1 need0 f15) H := by rw [hf15]; exact hP
          have hD : va_D A (zw_3 a0 a1 k1 need0 f15) := by rw [hf15]; exact hD
          obtain ⟨v16, hv16, hf⟩ := zz_lts hf
          refine lv_iinc (v := v16) (lv' := [(7, .int v16), (5, .long v11), (0, .ref a0), (1, .long u0), (3, .long u1)]) hx hb dX3_goOn_94 hl (k := 4) rfl (by rw [hv16]; rfl) (by decide) rfl (fun ls hl => ?_)
          refine lv_goto (tgt := 45) hx hb dX3_goOn_97 (by decide) ?_
          exact ihkL45_8 v11 v16 f15 _ _ hP hD hS ls (lv_sub hl [2, 3, 4, 1, 0] rfl) hf
        refine lv_if_ne (tgt := 82) hx hb dX3_goOn_74 (by decide) (fun c74 => ?_) (fun c74 => ?_)
        · have hf := zz_ng hf c74
          refine lv_aload_n hx hb dX3_goOn_82 rfl (lv_at hl 1 rfl) ?_
          refine va_get (D := D) (ci := 3) (v := .ref a1) (C := RX3) (T := TX3) (N := 2) hx hb hts inX3 hown hK hP 0 rfl rfl 0 (by decide) lk9 (fun _ h9 => h9) rfl dX3_goOn_83 ?_
          refine lv_iload hx hb dX3_goOn_86 (lv_at hl 4 rfl) ?_
          refine lv_iconst (v := (1 : Int32)) hx hb dX3_goOn_88 (by decide) ?_
          refine lv_isub hx hb dX3_goOn_89 ?_
          obtain ⟨hg17, hf⟩ := zz_gd hf
          refine va_lald hx hb hK hP 1 0 rfl rfl hg17 dX3_goOn_90 ?_
          refine lv_lload_n hx hb dX3_goOn_91 rfl (lv_at hl 2 rfl) ?_
          refine lv_lmul hx hb dX3_goOn_92 ?_
          exact Kj93_13 ((z8 (Int32.toNatClampNeg (x7 - (1 : Int32)))) * u0) _ _ hP hD hS ls (lv_sub hl [0, 1, 2, 3, 4] rfl) hf
        · have hf := zz_ps hf c74
          refine lv_lload hx hb dX3_goOn_77 (lv_at hl 0 rfl) ?_
          refine lv_goto (tgt := 93) hx hb dX3_goOn_79 (by decide) ?_
          exact Kj93_13 v11 _ _ hP hD hS ls (lv_sub hl [0, 1, 2, 3, 4] rfl) hf
  exact hLkL45_8 F (0 : Int64) v5 f4 _ _ hP hD hS ls (lv_sub hl [2, 3, 4, 1, 0] rfl) hf
def rmX3_taken : Room := { frames := 0, cells := 0, slots := 0, locals := 0 }
set_option maxHeartbeats 4000000 in
set_option maxRecDepth 100000 in
theorem zc_X3_taken (l : Launch) (D : va_G) (tb : Nat → Nat) (a0 a1 : Nat) (k1 : ClassId) (F : Nat)  (need0 : Int32) (ways0 : Nat → Int64) (r : Int64) (hf : pX3_taken F need0 ways0 = some r) : zz_Ml l yX3_taken wsX3_taken rmX3_taken D tb [(k1, .long)] [.ref a0] (zw_3 a0 a1 k1 need0 ways0) (zw_3 a0 a1 k1 need0 ways0) r := by
  refine zz_ofl (cc := cX3_taken) (maxL := 1) (by decide) rfl (Nat.le_of_ble_eq_true rfl) ?_
  intro p e s m args below meth c A Q hfx hK hA hE hret H locs hP hD hS ls hl
  obtain ⟨hx, hb, hml, hown, hts⟩ := id hfx
  have inX3 : ∀ w ∈ u_ws RX3 TX3 2, w ∈ wsX3_taken := by decide +kernel
  have lk9 := hts (.fieldLink RX3 9 "CatBeat$Odds" "ways" "[J") (by decide +kernel)
  have lk15 := hts (.fieldLink RX3 15 "CatBeat$Odds" "need" "I") (by decide +kernel)
  have hl : lv_has ls 1 [(0, .ref a0)] := hl
  unfold pX3_taken at hf
  refine lv_aload_n hx hb dX3_taken_0 rfl (lv_at hl 0 rfl) ?_
  refine va_get (D := D) (ci := 3) (v := .ref a1) (C := RX3) (T := TX3) (N := 2) hx hb hts inX3 hown hK hP 0 rfl rfl 0 (by decide) lk9 (fun _ h9 => h9) rfl dX3_taken_1 ?_
  refine lv_aload_n hx hb dX3_taken_4 rfl (lv_at hl 0 rfl) ?_
  refine va_get (D := D) (ci := 3) (v := .int need0) (C := RX3) (T := TX3) (N := 2) hx hb hts inX3 hown hK hP 0 rfl rfl 1 (by decide) lk15 (fun _ h9 => h9) rfl dX3_taken_5 ?_
  obtain ⟨hg1, hf⟩ := zz_gd hf
  refine va_lald hx hb hK hP 1 0 rfl rfl hg1 dX3_taken_8 ?_
  obtain rfl := zz_e1 hf
  exact hret _ _ _ _ dX3_taken_9 hP hD hS
def rmX4_stepOf : Room := { frames := 0, cells := 0, slots := 0, locals := 0 }
set_option maxHeartbeats 4000000 in
set_option maxRecDepth 100000 in
theorem zc_X4_stepOf (l : Launch) (D : va_G) (tb : Nat → Nat)  (F : Nat) (u0 : Int32)  (r : Int32) (hf : pX4_stepOf F u0 = some r) : zz_Mi l yX4_stepOf wsX4_stepOf rmX4_stepOf D tb [] [.int u0] zw_none zw_none r := by
  refine zz_ofi (cc := cX4_stepOf) (maxL := 1) (by decide) rfl (Nat.le_of_ble_eq_true rfl) ?_
  intro p e s m args below meth c A Q hfx hK hA hE hret H locs hP hD hS ls hl
  obtain ⟨hx, hb, hml, hown, hts⟩ := id hfx
  have hl : lv_has ls 1 [(0, .int u0)] := hl
  unfold pX4_stepOf at hf
  refine lv_iload_n hx hb dX4_stepOf_0 rfl (lv_at hl 0 rfl) ?_
  by_cases cs1_0 : u0 = (46 : Int32)
  · have hf := zz_ps hf cs1_0
    refine zz_ti (y := (46 : Int32)) cs1_0.symm ?_
    refine lv_lookup (off := 59) (tgt := 60) hx hb dX4_stepOf_1 (by decide) (by decide) (by decide) ?_
    refine lv_iconst (v := (4 : Int32)) hx hb dX4_stepOf_60 (by decide) ?_
    obtain rfl := zz_e1 hf
    exact hret _ _ _ _ dX4_stepOf_61 hP hD hS
  have hf := zz_ng hf cs1_0
  by_cases cs1_1 : u0 = (101 : Int32)
  · have hf := zz_ps hf cs1_1
    refine zz_ti (y := (101 : Int32)) cs1_1.symm ?_
    refine lv_lookup (off := 53) (tgt := 54) hx hb dX4_stepOf_1 (by decide) (by decide) (by decide) ?_
    refine lv_iconst (v := (1 : Int32)) hx hb dX4_stepOf_54 (by decide) ?_
    obtain rfl := zz_e1 hf
    exact hret _ _ _ _ dX4_stepOf_55 hP hD hS
  have hf := zz_ng hf cs1_1
  by_cases cs1_2 : u0 = (110 : Int32)
  · have hf := zz_ps hf cs1_2
    refine zz_ti (y := (110 : Int32)) cs1_2.symm ?_
    refine lv_lookup (off := 51) (tgt := 52) hx hb dX4_stepOf_1 (by decide) (by decide) (by decide) ?_
    refine lv_iconst (v := (0 : Int32)) hx hb dX4_stepOf_52 (by decide) ?_
    obtain rfl := zz_e1 hf
    exact hret _ _ _ _ dX4_stepOf_53 hP hD hS
  have hf := zz_ng hf cs1_2
  by_cases cs1_3 : u0 = (115 : Int32)
  · have hf := zz_ps hf cs1_3
    refine zz_ti (y := (115 : Int32)) cs1_3.symm ?_
    refine lv_lookup (off := 55) (tgt := 56) hx hb dX4_stepOf_1 (by decide) (by decide) (by decide) ?_
    refine lv_iconst (v := (2 : Int32)) hx hb dX4_stepOf_56 (by decide) ?_
    obtain rfl := zz_e1 hf
    exact hret _ _ _ _ dX4_stepOf_57 hP hD hS
  have hf := zz_ng hf cs1_3
  by_cases cs1_4 : u0 = (119 : Int32)
  · have hf := zz_ps hf cs1_4
    refine zz_ti (y := (119 : Int32)) cs1_4.symm ?_
    refine lv_lookup (off := 57) (tgt := 58) hx hb dX4_stepOf_1 (by decide) (by decide) (by decide) ?_
    refine lv_iconst (v := (3 : Int32)) hx hb dX4_stepOf_58 (by decide) ?_
    obtain rfl := zz_e1 hf
    exact hret _ _ _ _ dX4_stepOf_59 hP hD hS
  have hf := zz_ng hf cs1_4
  refine lv_lookup (off := 61) (tgt := 62) hx hb dX4_stepOf_1 (by decide) ((lv_osw cs1_0 (by decide)).trans ((lv_osw cs1_1 (by decide)).trans ((lv_osw cs1_2 (by decide)).trans ((lv_osw cs1_3 (by decide)).trans ((lv_osw cs1_4 (by decide)).trans (rfl)))))) (by decide) ?_
  refine lv_iconst (v := (-1 : Int32)) hx hb dX4_stepOf_62 (by decide) ?_
  obtain rfl := zz_e1 hf
  exact hret _ _ _ _ dX4_stepOf_63 hP hD hS
def rmX4_add : Room := { frames := 0, cells := 0, slots := 0, locals := 0 }
set_option maxHeartbeats 4000000 in
set_option maxRecDepth 100000 in
theorem zc_X4_add (l : Launch) (D : va_G) (tb : Nat → Nat) (a0 a1 : Nat) (k1 : ClassId) (F : Nat) (u0 : Int32) (count0 : Int32) (steps0 : Nat → Int32) (o0 : Int32) (o1 : Nat → Int32) (hf : pX4_add F u0 count0 steps0 = some (o0, o1)) : zz_Mv l yX4_add wsX4_add rmX4_add D tb [(k1, .int)] [.ref a0, .int u0] (zw_4 a0 a1 k1 count0 steps0) (zw_4 a0 a1 k1 o0 o1)  := by
  refine zz_ofv (cc := cX4_add) (maxL := 2) (by decide) rfl (Nat.le_of_ble_eq_true rfl) ?_
  intro p e s m args below meth c A Q hfx hK hA hE hret H locs hP hD hS ls hl
  obtain ⟨hx, hb, hml, hown, hts⟩ := id hfx
  have inX4 : ∀ w ∈ u_ws RX4 TX4 2, w ∈ wsX4_add := by decide +kernel
  have lk15 := hts (.fieldLink RX4 15 "CatBeat$Round" "count" "I") (by decide +kernel)
  have lk9 := hts (.fieldLink RX4 9 "CatBeat$Round" "steps" "[I") (by decide +kernel)
  have hl : lv_has ls 2 [(0, .ref a0), (1, .int u0)] := hl
  unfold pX4_add at hf
  refine lv_aload_n hx hb dX4_add_0 rfl (lv_at hl 0 rfl) ?_
  refine va_get (D := D) (ci := 4) (v := .int count0) (C := RX4) (T := TX4) (N := 2) hx hb hts inX4 hown hK hP 0 rfl rfl 1 (by decide) lk15 (fun _ h9 => h9) rfl dX4_add_1 ?_
  refine lv_aload_n hx hb dX4_add_4 rfl (lv_at hl 0 rfl) ?_
  refine va_get (D := D) (ci := 4) (v := .ref a1) (C := RX4) (T := TX4) (N := 2) hx hb hts inX4 hown hK hP 0 rfl rfl 0 (by decide) lk9 (fun _ h9 => h9) rfl dX4_add_5 ?_
  refine va_alen (v := (24 : Int32)) hx hb hK hP 1 0 rfl rfl rfl dX4_add_8 ?_
  obtain ⟨j32_3, hj32_3, hf⟩ := zz_lts hf
  have Kj32_3 : ∀ (z1 : Int32) (z2 : Nat → Int32) (H : Heap) (locs : List Loc), va_P D vwCl (zw_4 a0 a1 k1 z1 z2) H → va_D A (zw_4 a0 a1 k1 z1 z2) → va_S A s.heap H locs → ∀ ls : Array Slot, lv_has ls 2 [] → j32_3 z1 z2 = some (o0, o1) → W p l e rmX4_add s m args below meth c H locs 0 0 Q (F0 m 32 ls []) := by
    intro z1 z2 H locs hP hD hS ls hl hf
    rw [hj32_3] at hf
    obtain ⟨rfl, rfl⟩ := zz_e2 hf
    exact hret _ _ _ _ dX4_add_32 hP hD hS
  refine lv_icmp_ge (tgt := 32) hx hb dX4_add_9 (by decide) (fun c9 => ?_) (fun c9 => ?_)
  · have hf := zz_ps hf c9
    exact Kj32_3 count0 steps0 _ _ hP hD hS ls (lv_sub hl [] rfl) hf
  · have hf := zz_ng hf c9
    refine lv_aload_n hx hb dX4_add_12 rfl (lv_at hl 0 rfl) ?_
    refine va_get (D := D) (ci := 4) (v := .ref a1) (C := RX4) (T := TX4) (N := 2) hx hb hts inX4 hown hK hP 0 rfl rfl 0 (by decide) lk9 (fun _ h9 => h9) rfl dX4_add_13 ?_
    refine lv_aload_n hx hb dX4_add_16 rfl (lv_at hl 0 rfl) ?_
    refine va_get (D := D) (ci := 4) (v := .int count0) (C := RX4) (T := TX4) (N := 2) hx hb hts inX4 hown hK hP 0 rfl rfl 1 (by decide) lk15 (fun _ h9 => h9) rfl dX4_add_17 ?_
    refine lv_iload_n hx hb dX4_add_20 rfl (lv_at hl 1 rfl) ?_
    obtain ⟨hg4, hf⟩ := zz_gd hf
    obtain ⟨f5, hf5, hf⟩ := zz_lts hf
    refine va_iast hx hb hK hP hD hS 1 0 rfl rfl hg4 dX4_add_21 (fun H locs hP hD hS => ?_)
    have hP : va_P D vwCl (zw_4 a0 a1 k1 count0 f5) H := by rw [hf5]; exact hP
    have hD : va_D A (zw_4 a0 a1 k1 count0 f5) := by rw [hf5]; exact hD
    refine lv_aload_n hx hb dX4_add_22 rfl (lv_at hl 0 rfl) ?_
    refine lv_dup hx hb dX4_add_23 rfl ?_
    refine va_get (D := D) (ci := 4) (v := .int count0) (C := RX4) (T := TX4) (N := 2) hx hb hts inX4 hown hK hP 0 rfl rfl 1 (by decide) lk15 (fun _ h9 => h9) rfl dX4_add_24 ?_
    refine lv_iconst (v := (1 : Int32)) hx hb dX4_add_27 (by decide) ?_
    refine lv_iadd hx hb dX4_add_28 ?_
    obtain ⟨f6, hf6, hf⟩ := zz_lts hf
    refine va_put (D := D) (ci := 4) (v := .int (count0 + (1 : Int32))) (ty := .int) (C := RX4) (T := TX4) (N := 2) hx hb hts inX4 tyX4 tyX4_ok nmX4 hown hK hP hD hS 0 rfl rfl 1 (by decide) lk15 (fun _ h9 => h9) rfl (by decide +kernel) rfl rfl (Nat.le_of_ble_eq_true rfl) dX4_add_29 (fun H locs hP hD hS => ?_)
    have hP : va_P D vwCl (zw_4 a0 a1 k1 f6 f5) H := by rw [hf6]; exact hP
    have hD : va_D A (zw_4 a0 a1 k1 f6 f5) := by rw [hf6]; exact hD
    exact Kj32_3 f6 f5 _ _ hP hD hS ls (lv_sub hl [] rfl) hf
def rmX4_parse : Room := { frames := 1, cells := 0, slots := 0, locals := 21 }
set_option maxHeartbeats 4000000 in
set_option maxRecDepth 100000 in
theorem zc_X4_parse (l : Launch) (D : va_G) (tb : Nat → Nat) (a0 a1 a2 a3 : Nat) (k1 k3 : ClassId) (n1 : Nat) (F : Nat)  (count0 : Int32) (steps0 : Nat → Int32) (length1 : Int32) (bytes1 : Nat → Int32) (r : Int32) (o1 : Int32) (o2 : Nat → Int32) (hf : pX4_parse F n1 count0 steps0 length1 bytes1 = some (r, o1, o2)) : zz_Mi l yX4_parse wsX4_parse rmX4_parse D tb [(k1, .int), (k3, .int)] [.ref a0, .ref a2] (zw_4_6 a0 a1 a2 a3 k1 k3 n1 count0 steps0 length1 bytes1) (zw_4_6 a0 a1 a2 a3 k1 k3 n1 o1 o2 length1 bytes1) r := by
  refine zz_ofi (cc := cX4_parse) (maxL := 4) (by decide) rfl (Nat.le_of_ble_eq_true rfl) ?_
  intro p e s m args below meth c A Q hfx hK hA hE hret H locs hP hD hS ls hl
  obtain ⟨hx, hb, hml, hown, hts⟩ := id hfx
  have inX4 : ∀ w ∈ u_ws RX4 TX4 2, w ∈ wsX4_parse := by decide +kernel
  have inX6 : ∀ w ∈ u_ws RX6 TX6 2, w ∈ wsX4_parse := by decide +kernel
  have lk15 := hts (.fieldLink RX4 15 "CatBeat$Round" "count" "I") (by decide +kernel)
  have lk19 := hts (.fieldLink RX4 19 "CatBeat$Text" "length" "I") (by decide +kernel)
  have lk24 := hts (.fieldLink RX4 24 "CatBeat$Text" "bytes" "[I") (by decide +kernel)
  have hl : lv_has ls 4 [(0, .ref a0), (1, .ref a2)] := hl
  unfold pX4_parse at hf
  refine lv_aload_n hx hb dX4_parse_0 rfl (lv_at hl 0 rfl) ?_
  refine lv_iconst (v := (0 : Int32)) hx hb dX4_parse_1 (by decide) ?_
  obtain ⟨f1, hf1, hf⟩ := zz_lts hf
  refine va_put (D := D) (ci := 4) (v := .int (0 : Int32)) (ty := .int) (C := RX4) (T := TX4) (N := 2) hx hb hts inX4 tyX4 tyX4_ok nmX4 hown hK hP hD hS 0 rfl rfl 1 (by decide) lk15 (fun _ h9 => h9) rfl (by decide +kernel) rfl rfl (Nat.le_of_ble_eq_true rfl) dX4_parse_2 (fun H locs hP hD hS => ?_)
  have hP : va_P D vwCl (zw_4_6 a0 a1 a2 a3 k1 k3 n1 f1 steps0 length1 bytes1) H := by rw [hf1]; exact hP
  have hD : va_D A (zw_4_6 a0 a1 a2 a3 k1 k3 n1 f1 steps0 length1 bytes1) := by rw [hf1]; exact hD
  refine lv_iconst (v := (0 : Int32)) hx hb dX4_parse_5 (by decide) ?_
  refine lv_istore_n (lv' := [(2, .int (0 : Int32)), (0, .ref a0), (1, .ref a2)]) hx hb dX4_parse_6 rfl hl (by decide) rfl (fun ls hl => ?_)
  have hLkL7_4 : ∀ (n7_4 : Nat) (x2 : Int32) (z3 : Int32) (z4 : Nat → Int32) (H : Heap) (locs : List Loc), va_P D vwCl (zw_4_6 a0 a1 a2 a3 k1 k3 n1 z3 z4 length1 bytes1) H → va_D A (zw_4_6 a0 a1 a2 a3 k1 k3 n1 z3 z4 length1 bytes1) → va_S A s.heap H locs → ∀ ls : Array Slot, lv_has ls 4 [(0, .ref a0), (1, .ref a2), (2, .int x2)] → pX4_parse_L7_4 n1 F length1 bytes1 n7_4 x2 z3 z4 = some (r, o1, o2) → W p l e rmX4_parse s m args below meth c H locs 0 0 Q (F0 m 7 ls []) := by
    intro n7_4
    induction n7_4 with
    | zero =>
      intro x2 z3 z4 H locs hP hD hS ls hl hf
      exact nomatch (show (none : Option _) = some _ from hf)
    | succ n7_4 ihkL7_4 =>
      intro x2 z3 z4 H locs hP hD hS ls hl hf
      rw [pX4_parse_L7_4] at hf
      refine lv_iload_n hx hb dX4_parse_7 rfl (lv_at hl 2 rfl) ?_
      refine lv_aload_n hx hb dX4_parse_8 rfl (lv_at hl 1 rfl) ?_
      refine va_get (D := D) (ci := 6) (v := .int length1) (C := RX6) (T := TX6) (N := 2) hx hb hts inX6 hown hK hP 2 rfl rfl 1 (by decide) lk19 (fun _ h9 => h9) rfl dX4_parse_9 ?_
      refine lv_icmp_ge (tgt := 48) hx hb dX4_parse_12 (by decide) (fun c12 => ?_) (fun c12 => ?_)
      · have hf := zz_ps hf c12
        refine lv_iconst (v := (-1 : Int32)) hx hb dX4_parse_48 (by decide) ?_
        obtain ⟨rfl, rfl, rfl⟩ := zz_e3 hf
        exact hret _ _ _ _ dX4_parse_49 hP hD hS
      · have hf := zz_ng hf c12
        refine lv_aload_n hx hb dX4_parse_15 rfl (lv_at hl 1 rfl) ?_
        refine va_get (D := D) (ci := 6) (v := .ref a3) (C := RX6) (T := TX6) (N := 2) hx hb hts inX6 hown hK hP 2 rfl rfl 0 (by decide) lk24 (fun _ h9 => h9) rfl dX4_parse_16 ?_
        refine lv_iload_n hx hb dX4_parse_19 rfl (lv_at hl 2 rfl) ?_
        obtain ⟨hg6, hf⟩ := zz_gd hf
        refine va_iald hx hb hK hP 3 1 rfl rfl hg6 dX4_parse_20 ?_
        obtain ⟨r7, hc8, hf⟩ := zz_b1s hf
        refine zz_ji (va_runS (As := [.int (bytes1 (Int32.toNatClampNeg x2))]) (rest := []) hfx (zc_X4_stepOf l D tb  F (bytes1 (Int32.toNatClampNeg x2))  r7 hc8 H.size) (va_cwS 1 hts gX4_parse_X4_stepOf rfl rfl rfl (by decide +kernel) ⟨Nat.le_of_ble_eq_true rfl, Nat.le_of_ble_eq_true rfl⟩) (zz_preS hK hP hD hS hA hE [] [] rfl (by decide) rfl) rfl rfl hl.1 rfl (lv_room (Nat.le_of_ble_eq_true rfl)) dX4_parse_21 ⟨Nat.zero_le _, Nat.zero_le _⟩) hP hD hS hA [] rfl rfl (fun H locs hP hD hS => ?_)
        have hP : va_P D vwCl (zw_4_6 a0 a1 a2 a3 k1 k3 n1 z3 z4 length1 bytes1) H := hP
        have hD : va_D A (zw_4_6 a0 a1 a2 a3 k1 k3 n1 z3 z4 length1 bytes1) := hD
        refine lv_istore_n (lv' := [(3, .int r7), (0, .ref a0), (1, .ref a2), (2, .int x2)]) hx hb dX4_parse_24 rfl hl (by decide) rfl (fun ls hl => ?_)
        refine lv_iload_n hx hb dX4_parse_25 rfl (lv_at hl 0 rfl) ?_
        refine lv_iconst (v := (-1 : Int32)) hx hb dX4_parse_26 (by decide) ?_
        refine lv_icmp_ne (tgt := 37) hx hb dX4_parse_27 (by decide) (fun c27 => ?_) (fun c27 => ?_)
        · have hf := zz_ng hf c27
          refine lv_aload_n hx hb dX4_parse_37 rfl (lv_at hl 1 rfl) ?_
          refine lv_iload_n hx hb dX4_parse_38 rfl (lv_at hl 0 rfl) ?_
          obtain ⟨f9, f10, hc11, hf⟩ := zz_b2s hf
          refine zz_jv (va_runV (As := [.int r7]) (rest := []) hfx (zc_X4_add l D tb a0 a1 k1 F r7 z3 z4 f9 f10 hc11 H.size) (cwV 1 hts gX4_parse_X4_add rfl rfl rfl (by decide +kernel) ⟨Nat.le_of_ble_eq_true rfl, Nat.le_of_ble_eq_true rfl⟩) (zz_preV hK hP hD hS hA hE [0, 1] [0] rfl (by decide) rfl 0 rfl rfl rfl) rfl rfl hl.1 rfl (lv_room (Nat.le_of_ble_eq_true rfl)) dX4_parse_39 ⟨Nat.zero_le _, Nat.zero_le _⟩) hP hD hS hA [0, 1] rfl rfl (fun H locs hP hD hS => ?_)
          have hP : va_P D vwCl (zw_4_6 a0 a1 a2 a3 k1 k3 n1 f9 f10 length1 bytes1) H := hP
          have hD : va_D A (zw_4_6 a0 a1 a2 a3 k1 k3 n1 f9 f10 length1 bytes1) := hD
          obtain ⟨v12, hv12, hf⟩ := zz_lts hf
          refine lv_iinc (v := v12) (lv' := [(2, .int v12), (3, .int r7), (0, .ref a0), (1, .ref a2)]) hx hb dX4_parse_42 hl (k := 3) rfl (by rw [hv12]; rfl) (by decide) rfl (fun ls hl => ?_)
          refine lv_goto (tgt := 7) hx hb dX4_parse_45 (by decide) ?_
          exact ihkL7_4 v12 f9 f10 _ _ hP hD hS ls (lv_sub hl [2, 3, 0] rfl) hf
        · have hf := zz_ps hf c27
          refine lv_aload_n hx hb dX4_parse_30 rfl (lv_at hl 1 rfl) ?_
          refine lv_iconst (v := (0 : Int32)) hx hb dX4_parse_31 (by decide) ?_
          obtain ⟨f13, hf13, hf⟩ := zz_lts hf
          refine va_put (D := D) (ci := 4) (v := .int (0 : Int32)) (ty := .int) (C := RX4) (T := TX4) (N := 2) hx hb hts inX4 tyX4 tyX4_ok nmX4 hown hK hP hD hS 0 rfl rfl 1 (by decide) lk15 (fun _ h9 => h9) rfl (by decide +kernel) rfl rfl (Nat.le_of_ble_eq_true rfl) dX4_parse_32 (fun H locs hP hD hS => ?_)
          have hP : va_P D vwCl (zw_4_6 a0 a1 a2 a3 k1 k3 n1 f13 z4 length1 bytes1) H := by rw [hf13]; exact hP
          have hD : va_D A (zw_4_6 a0 a1 a2 a3 k1 k3 n1 f13 z4 length1 bytes1) := by rw [hf13]; exact hD
          refine lv_iload_n hx hb dX4_parse_35 rfl (lv_at hl 3 rfl) ?_
          obtain ⟨rfl, rfl, rfl⟩ := zz_e3 hf
          exact hret _ _ _ _ dX4_parse_36 hP hD hS
  exact hLkL7_4 F (0 : Int32) f1 steps0 _ _ hP hD hS ls (lv_sub hl [1, 2, 0] rfl) hf
def rmX4_takeAllBut : Room := { frames := 1, cells := 0, slots := 0, locals := 21 }
set_option maxHeartbeats 4000000 in
set_option maxRecDepth 100000 in
theorem zc_X4_takeAllBut (l : Launch) (D : va_G) (tb : Nat → Nat) (a0 a1 a2 a3 : Nat) (k1 k3 : ClassId) (F : Nat) (u1 : Int32) (u2 : Int32) (count0 : Int32) (steps0 : Nat → Int32) (count1 : Int32) (steps1 : Nat → Int32) (o0 : Int32) (o1 : Nat → Int32) (hf : pX4_takeAllBut F u1 u2 count0 steps0 count1 steps1 = some (o0, o1)) : zz_Mv l yX4_takeAllBut wsX4_takeAllBut rmX4_takeAllBut D tb [(k1, .int), (k3, .int)] [.ref a0, .ref a2, .int u1, .int u2] (zw_4_4 a0 a1 a2 a3 k1 k3 count0 steps0 count1 steps1) (zw_4_4 a0 a1 a2 a3 k1 k3 o0 o1 count1 steps1)  := by
  refine zz_ofv (cc := cX4_takeAllBut) (maxL := 5) (by decide) rfl (Nat.le_of_ble_eq_true rfl) ?_
  intro p e s m args below meth c A Q hfx hK hA hE hret H locs hP hD hS ls hl
  obtain ⟨hx, hb, hml, hown, hts⟩ := id hfx
  have inX4 : ∀ w ∈ u_ws RX4 TX4 2, w ∈ wsX4_takeAllBut := by decide +kernel
  have lk15 := hts (.fieldLink RX4 15 "CatBeat$Round" "count" "I") (by decide +kernel)
  have lk9 := hts (.fieldLink RX4 9 "CatBeat$Round" "steps" "[I") (by decide +kernel)
  have hl : lv_has ls 5 [(0, .ref a0), (1, .ref a2), (2, .int u1), (3, .int u2)] := hl
  unfold pX4_takeAllBut at hf
  refine lv_aload_n hx hb dX4_takeAllBut_0 rfl (lv_at hl 0 rfl) ?_
  refine lv_iconst (v := (0 : Int32)) hx hb dX4_takeAllBut_1 (by decide) ?_
  obtain ⟨f1, hf1, hf⟩ := zz_lts hf
  refine va_put (D := D) (ci := 4) (v := .int (0 : Int32)) (ty := .int) (C := RX4) (T := TX4) (N := 2) hx hb hts inX4 tyX4 tyX4_ok nmX4 hown hK hP hD hS 0 rfl rfl 1 (by decide) lk15 (fun _ h9 => h9) rfl (by decide +kernel) rfl rfl (Nat.le_of_ble_eq_true rfl) dX4_takeAllBut_2 (fun H locs hP hD hS => ?_)
  have hP : va_P D vwCl (zw_4_4 a0 a1 a2 a3 k1 k3 f1 steps0 count1 steps1) H := by rw [hf1]; exact hP
  have hD : va_D A (zw_4_4 a0 a1 a2 a3 k1 k3 f1 steps0 count1 steps1) := by rw [hf1]; exact hD
  refine lv_iconst (v := (0 : Int32)) hx hb dX4_takeAllBut_5 (by decide) ?_
  refine lv_istore (lv' := [(4, .int (0 : Int32)), (0, .ref a0), (1, .ref a2), (2, .int u1), (3, .int u2)]) hx hb dX4_takeAllBut_6 hl (by decide) rfl (fun ls hl => ?_)
  have hLkL8_4 : ∀ (n8_4 : Nat) (x2 : Int32) (z3 : Int32) (z4 : Nat → Int32) (H : Heap) (locs : List Loc), va_P D vwCl (zw_4_4 a0 a1 a2 a3 k1 k3 z3 z4 count1 steps1) H → va_D A (zw_4_4 a0 a1 a2 a3 k1 k3 z3 z4 count1 steps1) → va_S A s.heap H locs → ∀ ls : Array Slot, lv_has ls 5 [(0, .ref a0), (1, .ref a2), (2, .int u1), (3, .int u2), (4, .int x2)] → pX4_takeAllBut_L8_4 u1 u2 F count1 steps1 n8_4 x2 z3 z4 = some (o0, o1) → W p l e rmX4_takeAllBut s m args below meth c H locs 0 0 Q (F0 m 8 ls []) := by
    intro n8_4
    induction n8_4 with
    | zero =>
      intro x2 z3 z4 H locs hP hD hS ls hl hf
      exact nomatch (show (none : Option _) = some _ from hf)
    | succ n8_4 ihkL8_4 =>
      intro x2 z3 z4 H locs hP hD hS ls hl hf
      rw [pX4_takeAllBut_L8_4] at hf
      refine lv_iload hx hb dX4_takeAllBut_8 (lv_at hl 4 rfl) ?_
      refine lv_aload_n hx hb dX4_takeAllBut_10 rfl (lv_at hl 1 rfl) ?_
      refine va_get (D := D) (ci := 4) (v := .int count1) (C := RX4) (T := TX4) (N := 2) hx hb hts inX4 hown hK hP 2 rfl rfl 1 (by decide) lk15 (fun _ h9 => h9) rfl dX4_takeAllBut_11 ?_
      refine lv_icmp_ge (tgt := 46) hx hb dX4_takeAllBut_14 (by decide) (fun c14 => ?_) (fun c14 => ?_)
      · have hf := zz_ps hf c14
        obtain ⟨rfl, rfl⟩ := zz_e2 hf
        exact hret _ _ _ _ dX4_takeAllBut_46 hP hD hS
      · have hf := zz_ng hf c14
        refine lv_iload hx hb dX4_takeAllBut_17 (lv_at hl 4 rfl) ?_
        refine lv_iload_n hx hb dX4_takeAllBut_19 rfl (lv_at hl 2 rfl) ?_
        obtain ⟨j40_8, hj40_8, hf⟩ := zz_lts hf
        have Kj40_8 : ∀ (z6 : Int32) (z7 : Nat → Int32) (H : Heap) (locs : List Loc), va_P D vwCl (zw_4_4 a0 a1 a2 a3 k1 k3 z6 z7 count1 steps1) H → va_D A (zw_4_4 a0 a1 a2 a3 k1 k3 z6 z7 count1 steps1) → va_S A s.heap H locs → ∀ ls : Array Slot, lv_has ls 5 [(0, .ref a0), (1, .ref a2), (2, .int u1), (3, .int u2), (4, .int x2)] → j40_8 z6 z7 = some (o0, o1) → W p l e rmX4_takeAllBut s m args below meth c H locs 0 0 Q (F0 m 40 ls []) := by
          intro z6 z7 H locs hP hD hS ls hl hf
          rw [hj40_8] at hf
          obtain ⟨v9, hv9, hf⟩ := zz_lts hf
          refine lv_iinc (v := v9) (lv' := [(4, .int v9), (0, .ref a0), (1, .ref a2), (2, .int u1), (3, .int u2)]) hx hb dX4_takeAllBut_40 hl (k := 4) rfl (by rw [hv9]; rfl) (by decide) rfl (fun ls hl => ?_)
          refine lv_goto (tgt := 8) hx hb dX4_takeAllBut_43 (by decide) ?_
          exact ihkL8_4 v9 z6 z7 _ _ hP hD hS ls (lv_sub hl [1, 2, 3, 4, 0] rfl) hf
        refine lv_icmp_eq (tgt := 40) hx hb dX4_takeAllBut_20 (by decide) (fun c20 => ?_) (fun c20 => ?_)
        · have hf := zz_ps hf c20
          exact Kj40_8 z3 z4 _ _ hP hD hS ls (lv_sub hl [0, 1, 2, 3, 4] rfl) hf
        · have hf := zz_ng hf c20
          refine lv_iload hx hb dX4_takeAllBut_23 (lv_at hl 4 rfl) ?_
          refine lv_iload_n hx hb dX4_takeAllBut_25 rfl (lv_at hl 3 rfl) ?_
          refine lv_icmp_eq (tgt := 40) hx hb dX4_takeAllBut_26 (by decide) (fun c26 => ?_) (fun c26 => ?_)
          · have hf := zz_ps hf c26
            exact Kj40_8 z3 z4 _ _ hP hD hS ls (lv_sub hl [0, 1, 2, 3, 4] rfl) hf
          · have hf := zz_ng hf c26
            refine lv_aload_n hx hb dX4_takeAllBut_29 rfl (lv_at hl 0 rfl) ?_
            refine lv_aload_n hx hb dX4_takeAllBut_30 rfl (lv_at hl 1 rfl) ?_
            refine va_get (D := D) (ci := 4) (v := .ref a3) (C := RX4) (T := TX4) (N := 2) hx hb hts inX4 hown hK hP 2 rfl rfl 0 (by decide) lk9 (fun _ h9 => h9) rfl dX4_takeAllBut_31 ?_
            refine lv_iload hx hb dX4_takeAllBut_34 (lv_at hl 4 rfl) ?_
            obtain ⟨hg10, hf⟩ := zz_gd hf
            refine va_iald hx hb hK hP 3 1 rfl rfl hg10 dX4_takeAllBut_36 ?_
            obtain ⟨f11, f12, hc13, hf⟩ := zz_b2s hf
            refine zz_jv (va_runV (As := [.int (steps1 (Int32.toNatClampNeg x2))]) (rest := []) hfx (zc_X4_add l D tb a0 a1 k1 F (steps1 (Int32.toNatClampNeg x2)) z3 z4 f11 f12 hc13 H.size) (cwV 1 hts gX4_takeAllBut_X4_add rfl rfl rfl (by decide +kernel) ⟨Nat.le_of_ble_eq_true rfl, Nat.le_of_ble_eq_true rfl⟩) (zz_preV hK hP hD hS hA hE [0, 1] [0] rfl (by decide) rfl 0 rfl rfl rfl) rfl rfl hl.1 rfl (lv_room (Nat.le_of_ble_eq_true rfl)) dX4_takeAllBut_37 ⟨Nat.zero_le _, Nat.zero_le _⟩) hP hD hS hA [0, 1] rfl rfl (fun H locs hP hD hS => ?_)
            have hP : va_P D vwCl (zw_4_4 a0 a1 a2 a3 k1 k3 f11 f12 count1 steps1) H := hP
            have hD : va_D A (zw_4_4 a0 a1 a2 a3 k1 k3 f11 f12 count1 steps1) := hD
            exact Kj40_8 f11 f12 _ _ hP hD hS ls (lv_sub hl [0, 1, 2, 3, 4] rfl) hf
  exact hLkL8_4 F (0 : Int32) f1 steps0 _ _ hP hD hS ls (lv_sub hl [1, 2, 3, 4, 0] rfl) hf
def rmX4_drawLots : Room := { frames := 1, cells := 0, slots := 0, locals := 21 }
set_option maxHeartbeats 4000000 in
set_option maxRecDepth 100000 in
theorem zc_X4_drawLots (l : Launch) (D : va_G) (tb : Nat → Nat) (a0 a1 : Nat) (k1 : ClassId) (F : Nat) (u0 : Int32) (u1 : Int32) (count0 : Int32) (steps0 : Nat → Int32) (o0 : Int32) (o1 : Nat → Int32) (hf : pX4_drawLots F u0 u1 count0 steps0 = some (o0, o1)) : zz_Mv l yX4_drawLots wsX4_drawLots rmX4_drawLots D tb [(k1, .int)] [.ref a0, .int u0, .int u1] (zw_4 a0 a1 k1 count0 steps0) (zw_4 a0 a1 k1 o0 o1)  := by
  refine zz_ofv (cc := cX4_drawLots) (maxL := 5) (by decide) rfl (Nat.le_of_ble_eq_true rfl) ?_
  intro p e s m args below meth c A Q hfx hK hA hE hret H locs hP hD hS ls hl
  obtain ⟨hx, hb, hml, hown, hts⟩ := id hfx
  have inX4 : ∀ w ∈ u_ws RX4 TX4 2, w ∈ wsX4_drawLots := by decide +kernel
  have lk15 := hts (.fieldLink RX4 15 "CatBeat$Round" "count" "I") (by decide +kernel)
  have kc35 := hts (.constant RX4 35 (1103515245)) (by decide +kernel)
  have hl : lv_has ls 5 [(0, .ref a0), (1, .int u0), (2, .int u1)] := hl
  unfold pX4_drawLots at hf
  refine lv_aload_n hx hb dX4_drawLots_0 rfl (lv_at hl 0 rfl) ?_
  refine lv_iconst (v := (0 : Int32)) hx hb dX4_drawLots_1 (by decide) ?_
  obtain ⟨f1, hf1, hf⟩ := zz_lts hf
  refine va_put (D := D) (ci := 4) (v := .int (0 : Int32)) (ty := .int) (C := RX4) (T := TX4) (N := 2) hx hb hts inX4 tyX4 tyX4_ok nmX4 hown hK hP hD hS 0 rfl rfl 1 (by decide) lk15 (fun _ h9 => h9) rfl (by decide +kernel) rfl rfl (Nat.le_of_ble_eq_true rfl) dX4_drawLots_2 (fun H locs hP hD hS => ?_)
  have hP : va_P D vwCl (zw_4 a0 a1 k1 f1 steps0) H := by rw [hf1]; exact hP
  have hD : va_D A (zw_4 a0 a1 k1 f1 steps0) := by rw [hf1]; exact hD
  refine lv_iload_n hx hb dX4_drawLots_5 rfl (lv_at hl 1 rfl) ?_
  refine lv_istore_n (lv' := [(3, .int u0), (0, .ref a0), (1, .int u0), (2, .int u1)]) hx hb dX4_drawLots_6 rfl hl (by decide) rfl (fun ls hl => ?_)
  refine lv_iconst (v := (0 : Int32)) hx hb dX4_drawLots_7 (by decide) ?_
  refine lv_istore (lv' := [(4, .int (0 : Int32)), (3, .int u0), (0, .ref a0), (1, .int u0), (2, .int u1)]) hx hb dX4_drawLots_8 hl (by decide) rfl (fun ls hl => ?_)
  have hLkL10_5 : ∀ (n10_5 : Nat) (x2 : Int32) (x3 : Int32) (z4 : Int32) (z5 : Nat → Int32) (H : Heap) (locs : List Loc), va_P D vwCl (zw_4 a0 a1 k1 z4 z5) H → va_D A (zw_4 a0 a1 k1 z4 z5) → va_S A s.heap H locs → ∀ ls : Array Slot, lv_has ls 5 [(0, .ref a0), (2, .int u1), (3, .int x2), (4, .int x3)] → pX4_drawLots_L10_5 u1 F n10_5 x2 x3 z4 z5 = some (o0, o1) → W p l e rmX4_drawLots s m args below meth c H locs 0 0 Q (F0 m 10 ls []) := by
    intro n10_5
    induction n10_5 with
    | zero =>
      intro x2 x3 z4 z5 H locs hP hD hS ls hl hf
      exact nomatch (show (none : Option _) = some _ from hf)
    | succ n10_5 ihkL10_5 =>
      intro x2 x3 z4 z5 H locs hP hD hS ls hl hf
      rw [pX4_drawLots_L10_5] at hf
      refine lv_iload hx hb dX4_drawLots_10 (lv_at hl 3 rfl) ?_
      refine lv_iload_n hx hb dX4_drawLots_12 rfl (lv_at hl 1 rfl) ?_
      refine lv_icmp_ge (tgt := 41) hx hb dX4_drawLots_13 (by decide) (fun c13 => ?_) (fun c13 => ?_)
      · have hf := zz_ps hf c13
        obtain ⟨rfl, rfl⟩ := zz_e2 hf
        exact hret _ _ _ _ dX4_drawLots_41 hP hD hS
      · have hf := zz_ng hf c13
        refine lv_ldc (v := (1103515245 : Int32)) hx hb hown kc35 dX4_drawLots_16 ?_
        refine lv_iload_n hx hb dX4_drawLots_18 rfl (lv_at hl 2 rfl) ?_
        refine lv_imul hx hb dX4_drawLots_19 ?_
        refine lv_sipush (v := (12345 : Int32)) hx hb dX4_drawLots_20 (by decide) ?_
        refine lv_iadd hx hb dX4_drawLots_23 ?_
        obtain ⟨v7, hv7, hf⟩ := zz_lts hf
        refine zz_ti hv7 ?_
        refine lv_istore_n (lv' := [(3, .int v7), (0, .ref a0), (2, .int u1), (4, .int x3)]) hx hb dX4_drawLots_24 rfl hl (by decide) rfl (fun ls hl => ?_)
        refine lv_aload_n hx hb dX4_drawLots_25 rfl (lv_at hl 1 rfl) ?_
        refine lv_iload_n hx hb dX4_drawLots_26 rfl (lv_at hl 0 rfl) ?_
        refine lv_bipush (v := (16 : Int32)) hx hb dX4_drawLots_27 (by decide) ?_
        refine lv_iushr (v := (zz_ushr v7 (16 : Int32))) hx hb dX4_drawLots_29 rfl ?_
        refine lv_iconst (v := (5 : Int32)) hx hb dX4_drawLots_30 (by decide) ?_
        refine lv_irem hx hb dX4_drawLots_31 (by decide) ?_
        obtain ⟨f8, f9, hc10, hf⟩ := zz_b2s hf
        refine zz_jv (va_runV (As := [.int ((zz_ushr v7 (16 : Int32)) - (zz_ushr v7 (16 : Int32)) / (5 : Int32) * (5 : Int32))]) (rest := []) hfx (zc_X4_add l D tb a0 a1 k1 F ((zz_ushr v7 (16 : Int32)) - (zz_ushr v7 (16 : Int32)) / (5 : Int32) * (5 : Int32)) z4 z5 f8 f9 hc10 H.size) (cwV 1 hts gX4_drawLots_X4_add rfl rfl rfl (by decide +kernel) ⟨Nat.le_of_ble_eq_true rfl, Nat.le_of_ble_eq_true rfl⟩) (zz_preV hK hP hD hS hA hE [0, 1] [0] rfl (by decide) rfl 0 rfl rfl rfl) rfl rfl hl.1 rfl (lv_room (Nat.le_of_ble_eq_true rfl)) dX4_drawLots_32 ⟨Nat.zero_le _, Nat.zero_le _⟩) hP hD hS hA [0, 1] rfl rfl (fun H locs hP hD hS => ?_)
        have hP : va_P D vwCl (zw_4 a0 a1 k1 f8 f9) H := hP
        have hD : va_D A (zw_4 a0 a1 k1 f8 f9) := hD
        obtain ⟨v11, hv11, hf⟩ := zz_lts hf
        refine lv_iinc (v := v11) (lv' := [(4, .int v11), (3, .int v7), (0, .ref a0), (2, .int u1)]) hx hb dX4_drawLots_35 hl (k := 3) rfl (by rw [hv11]; rfl) (by decide) rfl (fun ls hl => ?_)
        refine lv_goto (tgt := 10) hx hb dX4_drawLots_38 (by decide) ?_
        exact ihkL10_5 v7 v11 f8 f9 _ _ hP hD hS ls (lv_sub hl [2, 3, 1, 0] rfl) hf
  exact hLkL10_5 F u0 (0 : Int32) f1 steps0 _ _ hP hD hS ls (lv_sub hl [2, 4, 1, 0] rfl) hf
def rmX5_isForm : Room := { frames := 0, cells := 0, slots := 0, locals := 0 }
set_option maxHeartbeats 4000000 in
set_option maxRecDepth 100000 in
theorem zc_X5_isForm (l : Launch) (D : va_G) (tb : Nat → Nat)  (F : Nat) (u0 : Int32)  (r : Int32) (hf : pX5_isForm F u0 = some r) : zz_Mi l yX5_isForm wsX5_isForm rmX5_isForm D tb [] [.int u0] zw_none zw_none r := by
  refine zz_ofz (cc := cX5_isForm) (maxL := 1) (by decide) rfl (Nat.le_of_ble_eq_true rfl) ?_
  intro p e s m args below meth c A Q hfx hK hA hE hret H locs hP hD hS ls hl
  obtain ⟨hx, hb, hml, hown, hts⟩ := id hfx
  have hl : lv_has ls 1 [(0, .int u0)] := hl
  unfold pX5_isForm at hf
  refine lv_iload_n hx hb dX5_isForm_0 rfl (lv_at hl 0 rfl) ?_
  obtain ⟨v1, hv1, hf⟩ := zz_lts hf
  have hK2 : ∀ ls : Array Slot, lv_has ls 1 [] → W p l e rmX5_isForm s m args below meth c H locs 0 0 Q (F0 m 14 ls [.int v1]) := by
    intro ls hl
    obtain rfl := zz_e1 hf
    exact hret _ _ _ _ (by rw [hv1]; (repeat' split) <;> rfl) dX5_isForm_14 hP hD hS
  refine lv_if_lt (tgt := 13) hx hb dX5_isForm_1 (by decide) (fun c1 => ?_) (fun c1 => ?_)
  · refine lv_iconst (v := (0 : Int32)) hx hb dX5_isForm_13 (by decide) ?_
    refine zz_ti (show v1 = (0 : Int32) by rw [hv1, if_pos c1]) ?_
    exact hK2 ls (lv_sub hl [] rfl)
  · refine lv_iload_n hx hb dX5_isForm_4 rfl (lv_at hl 0 rfl) ?_
    refine lv_iconst (v := (2 : Int32)) hx hb dX5_isForm_5 (by decide) ?_
    refine lv_icmp_gt (tgt := 13) hx hb dX5_isForm_6 (by decide) (fun c6 => ?_) (fun c6 => ?_)
    · refine lv_iconst (v := (0 : Int32)) hx hb dX5_isForm_13 (by decide) ?_
      refine zz_ti (show v1 = (0 : Int32) by rw [hv1, if_neg c1, if_pos c6]) ?_
      exact hK2 ls (lv_sub hl [] rfl)
    · refine lv_iconst (v := (1 : Int32)) hx hb dX5_isForm_9 (by decide) ?_
      refine lv_goto (tgt := 14) hx hb dX5_isForm_10 (by decide) ?_
      refine zz_ti (show v1 = (1 : Int32) by rw [hv1, if_neg c1, if_neg c6]) ?_
      exact hK2 ls (lv_sub hl [] rfl)
def rmJ7_fill_53178 : Room := { frames := 0, cells := 0, slots := 0, locals := 0 }
set_option maxHeartbeats 4000000 in
set_option maxRecDepth 100000 in
theorem zc_J7_fill_53178 (l : Launch) (D : va_G) (tb : Nat → Nat) (a0 : Nat) (k0 : ClassId) (n0 : Nat) (F : Nat) (u1 : Int32) (f0 : Nat → Int32) (o0 : Nat → Int32) (hf : pJ7_fill_53178 F n0 u1 f0 = some o0) : zz_Mv l yJ7_fill_53178 wsJ7_fill_53178 rmJ7_fill_53178 D tb [(k0, .int)] [.ref a0, .int u1] (zw_arrI a0 k0 n0 f0) (zw_arrI a0 k0 n0 o0)  := by
  refine zz_ofv (cc := cJ7_fill_53178) (maxL := 4) (by decide) rfl (Nat.le_of_ble_eq_true rfl) ?_
  intro p e s m args below meth c A Q hfx hK hA hE hret H locs hP hD hS ls hl
  obtain ⟨hx, hb, hml, hown, hts⟩ := id hfx
  have hl : lv_has ls 4 [(0, .ref a0), (1, .int u1)] := hl
  unfold pJ7_fill_53178 at hf
  refine lv_iconst (v := (0 : Int32)) hx hb dJ7_fill_53178_0 (by decide) ?_
  refine lv_istore_n (lv' := [(2, .int (0 : Int32)), (0, .ref a0), (1, .int u1)]) hx hb dJ7_fill_53178_1 rfl hl (by decide) rfl (fun ls hl => ?_)
  refine lv_aload_n hx hb dJ7_fill_53178_2 rfl (lv_at hl 1 rfl) ?_
  refine va_alen (v := (Int32.ofNat n0)) hx hb hK hP 0 0 rfl rfl rfl dJ7_fill_53178_3 ?_
  obtain ⟨v1, hv1, hf⟩ := zz_lts hf
  refine zz_ti hv1 ?_
  refine lv_istore_n (lv' := [(3, .int v1), (2, .int (0 : Int32)), (0, .ref a0), (1, .int u1)]) hx hb dJ7_fill_53178_4 rfl hl (by decide) rfl (fun ls hl => ?_)
  have hLkL5_3 : ∀ (n5_3 : Nat) (x2 : Int32) (z3 : Nat → Int32) (H : Heap) (locs : List Loc), va_P D vwCl (zw_arrI a0 k0 n0 z3) H → va_D A (zw_arrI a0 k0 n0 z3) → va_S A s.heap H locs → ∀ ls : Array Slot, lv_has ls 4 [(3, .int v1), (0, .ref a0), (1, .int u1), (2, .int x2)] → pJ7_fill_53178_L5_3 u1 n0 v1 n5_3 x2 z3 = some o0 → W p l e rmJ7_fill_53178 s m args below meth c H locs 0 0 Q (F0 m 5 ls []) := by
    intro n5_3
    induction n5_3 with
    | zero =>
      intro x2 z3 H locs hP hD hS ls hl hf
      exact nomatch (show (none : Option _) = some _ from hf)
    | succ n5_3 ihkL5_3 =>
      intro x2 z3 H locs hP hD hS ls hl hf
      rw [pJ7_fill_53178_L5_3] at hf
      refine lv_iload_n hx hb dJ7_fill_53178_5 rfl (lv_at hl 3 rfl) ?_
      refine lv_iload_n hx hb dJ7_fill_53178_6 rfl (lv_at hl 0 rfl) ?_
      refine lv_icmp_ge (tgt := 20) hx hb dJ7_fill_53178_7 (by decide) (fun c7 => ?_) (fun c7 => ?_)
      · have hf := zz_ps hf c7
        obtain rfl := zz_e1 hf
        exact hret _ _ _ _ dJ7_fill_53178_20 hP hD hS
      · have hf := zz_ng hf c7
        refine lv_aload_n hx hb dJ7_fill_53178_10 rfl (lv_at hl 1 rfl) ?_
        refine lv_iload_n hx hb dJ7_fill_53178_11 rfl (lv_at hl 3 rfl) ?_
        refine lv_iload_n hx hb dJ7_fill_53178_12 rfl (lv_at hl 2 rfl) ?_
        obtain ⟨hg5, hf⟩ := zz_gd hf
        obtain ⟨f6, hf6, hf⟩ := zz_lts hf
        refine va_iast hx hb hK hP hD hS 0 0 rfl rfl hg5 dJ7_fill_53178_13 (fun H locs hP hD hS => ?_)
        have hP : va_P D vwCl (zw_arrI a0 k0 n0 f6) H := by rw [hf6]; exact hP
        have hD : va_D A (zw_arrI a0 k0 n0 f6) := by rw [hf6]; exact hD
        obtain ⟨v7, hv7, hf⟩ := zz_lts hf
        refine lv_iinc (v := v7) (lv' := [(2, .int v7), (3, .int v1), (0, .ref a0), (1, .int u1)]) hx hb dJ7_fill_53178_14 hl (k := 3) rfl (by rw [hv7]; rfl) (by decide) rfl (fun ls hl => ?_)
        refine lv_goto (tgt := 5) hx hb dJ7_fill_53178_17 (by decide) ?_
        exact ihkL5_3 v7 f6 _ _ hP hD hS ls (lv_sub hl [1, 2, 3, 0] rfl) hf
  exact hLkL5_3 F (0 : Int32) f0 _ _ hP hD hS ls (lv_sub hl [0, 2, 3, 1] rfl) hf
def rmX5_renew : Room := { frames := 1, cells := 0, slots := 0, locals := 23 }
set_option maxHeartbeats 4000000 in
set_option maxRecDepth 100000 in
theorem zc_X5_renew (l : Launch) (D : va_G) (tb : Nat → Nat) (a0 a1 : Nat) (k1 : ClassId) (F : Nat) (u0 : Int32) (u1 : Int32) (lost0 : Int32) (form0 : Int32) (size0 : Int32) (items0 : Nat → Int32) (o0 : Int32) (o1 : Int32) (o2 : Int32) (o3 : Nat → Int32) (hf : pX5_renew F u0 u1 lost0 form0 size0 items0 = some (o0, o1, o2, o3)) : zz_Mv l yX5_renew wsX5_renew rmX5_renew D tb [(k1, .int)] [.ref a0, .int u0, .int u1] (zw_5 a0 a1 k1 lost0 form0 size0 items0) (zw_5 a0 a1 k1 o0 o1 o2 o3)  := by
  refine zz_ofv (cc := cX5_renew) (maxL := 3) (by decide) rfl (Nat.le_of_ble_eq_true rfl) ?_
  intro p e s m args below meth c A Q hfx hK hA hE hret H locs hP hD hS ls hl
  obtain ⟨hx, hb, hml, hown, hts⟩ := id hfx
  have inX5 : ∀ w ∈ u_ws RX5 TX5 4, w ∈ wsX5_renew := by decide +kernel
  have lk15 := hts (.fieldLink RX5 15 "CatBeat$Sheet" "lost" "Z") (by decide +kernel)
  have lk19 := hts (.fieldLink RX5 19 "CatBeat$Sheet" "form" "I") (by decide +kernel)
  have lk9 := hts (.fieldLink RX5 9 "CatBeat$Sheet" "items" "[I") (by decide +kernel)
  have lkm26 := hts (.methodLink RX5 26 Lib.Math.min.name) (by decide +kernel)
  have lk23 := hts (.fieldLink RX5 23 "CatBeat$Sheet" "size" "I") (by decide +kernel)
  have hl : lv_has ls 3 [(0, .ref a0), (1, .int u0), (2, .int u1)] := hl
  unfold pX5_renew at hf
  refine lv_aload_n hx hb dX5_renew_0 rfl (lv_at hl 0 rfl) ?_
  refine lv_iconst (v := (0 : Int32)) hx hb dX5_renew_1 (by decide) ?_
  obtain ⟨f1, hf1, hf⟩ := zz_lts hf
  refine va_put (D := D) (ci := 5) (v := .int (0 : Int32)) (ty := .boolean) (C := RX5) (T := TX5) (N := 4) hx hb hts inX5 tyX5 tyX5_ok nmX5 hown hK hP hD hS 0 rfl rfl 1 (by decide) lk15 (fun _ h9 => h9) rfl (by decide +kernel) rfl rfl (Nat.le_of_ble_eq_true rfl) dX5_renew_2 (fun H locs hP hD hS => ?_)
  have hP : va_P D vwCl (zw_5 a0 a1 k1 f1 form0 size0 items0) H := by rw [hf1]; exact hP
  have hD : va_D A (zw_5 a0 a1 k1 f1 form0 size0 items0) := by rw [hf1]; exact hD
  refine lv_aload_n hx hb dX5_renew_5 rfl (lv_at hl 0 rfl) ?_
  refine lv_iload_n hx hb dX5_renew_6 rfl (lv_at hl 1 rfl) ?_
  obtain ⟨f2, hf2, hf⟩ := zz_lts hf
  refine va_put (D := D) (ci := 5) (v := .int u0) (ty := .int) (C := RX5) (T := TX5) (N := 4) hx hb hts inX5 tyX5 tyX5_ok nmX5 hown hK hP hD hS 0 rfl rfl 2 (by decide) lk19 (fun _ h9 => h9) rfl (by decide +kernel) rfl rfl (Nat.le_of_ble_eq_true rfl) dX5_renew_7 (fun H locs hP hD hS => ?_)
  have hP : va_P D vwCl (zw_5 a0 a1 k1 f1 f2 size0 items0) H := by rw [hf2]; exact hP
  have hD : va_D A (zw_5 a0 a1 k1 f1 f2 size0 items0) := by rw [hf2]; exact hD
  refine lv_aload_n hx hb dX5_renew_10 rfl (lv_at hl 0 rfl) ?_
  refine lv_iload_n hx hb dX5_renew_11 rfl (lv_at hl 2 rfl) ?_
  refine lv_aload_n hx hb dX5_renew_12 rfl (lv_at hl 0 rfl) ?_
  refine va_get (D := D) (ci := 5) (v := .ref a1) (C := RX5) (T := TX5) (N := 4) hx hb hts inX5 hown hK hP 0 rfl rfl 0 (by decide) lk9 (fun _ h9 => h9) rfl dX5_renew_13 ?_
  refine va_alen (v := (60 : Int32)) hx hb hK hP 1 0 rfl rfl rfl dX5_renew_16 ?_
  refine va_mmin hx hb (hml.trans hl.1.symm) hown lkm26 (hts (.static Lib.Math.min.name) (by decide +kernel)) (hts (.initialized "java/lang/Math") (by decide +kernel)) (hts (.code Lib.Math.min.name Lib.Math.min.code 2 (some .int)) (by decide +kernel)) (Nat.le_of_ble_eq_true rfl) (Nat.le_of_ble_eq_true rfl) (Nat.zero_le _) (Nat.zero_le _) dX5_renew_17 ?_
  obtain ⟨f3, hf3, hf⟩ := zz_lts hf
  refine va_put (D := D) (ci := 5) (v := .int (if (60 : Int32) < u1 then (60 : Int32) else u1)) (ty := .int) (C := RX5) (T := TX5) (N := 4) hx hb hts inX5 tyX5 tyX5_ok nmX5 hown hK hP hD hS 0 rfl rfl 3 (by decide) lk23 (fun _ h9 => h9) rfl (by decide +kernel) rfl rfl (Nat.le_of_ble_eq_true rfl) dX5_renew_20 (fun H locs hP hD hS => ?_)
  have hP : va_P D vwCl (zw_5 a0 a1 k1 f1 f2 f3 items0) H := by rw [hf3]; exact hP
  have hD : va_D A (zw_5 a0 a1 k1 f1 f2 f3 items0) := by rw [hf3]; exact hD
  refine lv_aload_n hx hb dX5_renew_23 rfl (lv_at hl 0 rfl) ?_
  refine va_get (D := D) (ci := 5) (v := .ref a1) (C := RX5) (T := TX5) (N := 4) hx hb hts inX5 hown hK hP 0 rfl rfl 0 (by decide) lk9 (fun _ h9 => h9) rfl dX5_renew_24 ?_
  refine lv_iconst (v := (0 : Int32)) hx hb dX5_renew_27 (by decide) ?_
  obtain ⟨f4, hc5, hf⟩ := zz_b1s hf
  refine zz_jv (va_runS (As := [.ref a1, .int (0 : Int32)]) (rest := []) hfx (zc_J7_fill_53178 l D tb a1 k1 60 F (0 : Int32) items0 f4 hc5 H.size) (va_cwS 2 hts gX5_renew_J7_fill_53178 rfl rfl rfl (by decide +kernel) ⟨Nat.le_of_ble_eq_true rfl, Nat.le_of_ble_eq_true rfl⟩) (zz_preS hK hP hD hS hA hE [1] [0] rfl (by decide) rfl) rfl rfl hl.1 rfl (lv_room (Nat.le_of_ble_eq_true rfl)) dX5_renew_28 ⟨Nat.zero_le _, Nat.zero_le _⟩) hP hD hS hA [1] rfl rfl (fun H locs hP hD hS => ?_)
  have hP : va_P D vwCl (zw_5 a0 a1 k1 f1 f2 f3 f4) H := hP
  have hD : va_D A (zw_5 a0 a1 k1 f1 f2 f3 f4) := hD
  obtain ⟨rfl, rfl, rfl, rfl⟩ := zz_e4 hf
  exact hret _ _ _ _ dX5_renew_31 hP hD hS
def rmX5_hasItems : Room := { frames := 0, cells := 0, slots := 0, locals := 0 }
set_option maxHeartbeats 4000000 in
set_option maxRecDepth 100000 in
theorem zc_X5_hasItems (l : Launch) (D : va_G) (tb : Nat → Nat) (a0 a1 : Nat) (k1 : ClassId) (F : Nat) (u0 : Int32) (u1 : Int32) (lost0 : Int32) (form0 : Int32) (size0 : Int32) (items0 : Nat → Int32) (r : Int32) (hf : pX5_hasItems F u0 u1 lost0 form0 size0 items0 = some r) : zz_Mi l yX5_hasItems wsX5_hasItems rmX5_hasItems D tb [(k1, .int)] [.ref a0, .int u0, .int u1] (zw_5 a0 a1 k1 lost0 form0 size0 items0) (zw_5 a0 a1 k1 lost0 form0 size0 items0) r := by
  refine zz_ofz (cc := cX5_hasItems) (maxL := 3) (by decide) rfl (Nat.le_of_ble_eq_true rfl) ?_
  intro p e s m args below meth c A Q hfx hK hA hE hret H locs hP hD hS ls hl
  obtain ⟨hx, hb, hml, hown, hts⟩ := id hfx
  have inX5 : ∀ w ∈ u_ws RX5 TX5 4, w ∈ wsX5_hasItems := by decide +kernel
  have lk23 := hts (.fieldLink RX5 23 "CatBeat$Sheet" "size" "I") (by decide +kernel)
  have hl : lv_has ls 3 [(0, .ref a0), (1, .int u0), (2, .int u1)] := hl
  unfold pX5_hasItems at hf
  refine lv_iload_n hx hb dX5_hasItems_0 rfl (lv_at hl 1 rfl) ?_
  obtain ⟨v1, hv1, hf⟩ := zz_lts hf
  have hK2 : ∀ ls : Array Slot, lv_has ls 3 [] → W p l e rmX5_hasItems s m args below meth c H locs 0 0 Q (F0 m 31 ls [.int v1]) := by
    intro ls hl
    obtain rfl := zz_e1 hf
    exact hret _ _ _ _ (by rw [hv1]; (repeat' split) <;> rfl) dX5_hasItems_31 hP hD hS
  refine lv_if_lt (tgt := 30) hx hb dX5_hasItems_1 (by decide) (fun c1 => ?_) (fun c1 => ?_)
  · refine lv_iconst (v := (0 : Int32)) hx hb dX5_hasItems_30 (by decide) ?_
    refine zz_ti (show v1 = (0 : Int32) by rw [hv1, if_pos c1]) ?_
    exact hK2 ls (lv_sub hl [] rfl)
  · refine lv_iload_n hx hb dX5_hasItems_4 rfl (lv_at hl 2 rfl) ?_
    refine lv_if_lt (tgt := 30) hx hb dX5_hasItems_5 (by decide) (fun c5 => ?_) (fun c5 => ?_)
    · refine lv_iconst (v := (0 : Int32)) hx hb dX5_hasItems_30 (by decide) ?_
      refine zz_ti (show v1 = (0 : Int32) by rw [hv1, if_neg c1, if_pos c5]) ?_
      exact hK2 ls (lv_sub hl [] rfl)
    · refine lv_iload_n hx hb dX5_hasItems_8 rfl (lv_at hl 1 rfl) ?_
      refine lv_aload_n hx hb dX5_hasItems_9 rfl (lv_at hl 0 rfl) ?_
      refine va_get (D := D) (ci := 5) (v := .int size0) (C := RX5) (T := TX5) (N := 4) hx hb hts inX5 hown hK hP 0 rfl rfl 3 (by decide) lk23 (fun _ h9 => h9) rfl dX5_hasItems_10 ?_
      refine lv_icmp_gt (tgt := 30) hx hb dX5_hasItems_13 (by decide) (fun c13 => ?_) (fun c13 => ?_)
      · refine lv_iconst (v := (0 : Int32)) hx hb dX5_hasItems_30 (by decide) ?_
        refine zz_ti (show v1 = (0 : Int32) by rw [hv1, if_neg c1, if_neg c5, if_pos c13]) ?_
        exact hK2 ls (lv_sub hl [] rfl)
      · refine lv_iload_n hx hb dX5_hasItems_16 rfl (lv_at hl 2 rfl) ?_
        refine lv_aload_n hx hb dX5_hasItems_17 rfl (lv_at hl 0 rfl) ?_
        refine va_get (D := D) (ci := 5) (v := .int size0) (C := RX5) (T := TX5) (N := 4) hx hb hts inX5 hown hK hP 0 rfl rfl 3 (by decide) lk23 (fun _ h9 => h9) rfl dX5_hasItems_18 ?_
        refine lv_iload_n hx hb dX5_hasItems_21 rfl (lv_at hl 1 rfl) ?_
        refine lv_isub hx hb dX5_hasItems_22 ?_
        refine lv_icmp_gt (tgt := 30) hx hb dX5_hasItems_23 (by decide) (fun c23 => ?_) (fun c23 => ?_)
        · refine lv_iconst (v := (0 : Int32)) hx hb dX5_hasItems_30 (by decide) ?_
          refine zz_ti (show v1 = (0 : Int32) by rw [hv1, if_neg c1, if_neg c5, if_neg c13, if_pos c23]) ?_
          exact hK2 ls (lv_sub hl [] rfl)
        · refine lv_iconst (v := (1 : Int32)) hx hb dX5_hasItems_26 (by decide) ?_
          refine lv_goto (tgt := 31) hx hb dX5_hasItems_27 (by decide) ?_
          refine zz_ti (show v1 = (1 : Int32) by rw [hv1, if_neg c1, if_neg c5, if_neg c13, if_neg c23]) ?_
          exact hK2 ls (lv_sub hl [] rfl)
def rmX5_findingOf : Room := { frames := 1, cells := 0, slots := 0, locals := 22 }
set_option maxHeartbeats 4000000 in
set_option maxRecDepth 100000 in
theorem zc_X5_findingOf (l : Launch) (D : va_G) (tb : Nat → Nat) (a0 a1 : Nat) (k1 : ClassId) (F : Nat) (u0 : Int32) (u1 : Int32) (lost0 : Int32) (form0 : Int32) (size0 : Int32) (items0 : Nat → Int32) (r : Int32) (hf : pX5_findingOf F u0 u1 lost0 form0 size0 items0 = some r) : zz_Mi l yX5_findingOf wsX5_findingOf rmX5_findingOf D tb [(k1, .int)] [.ref a0, .int u0, .int u1] (zw_5 a0 a1 k1 lost0 form0 size0 items0) (zw_5 a0 a1 k1 lost0 form0 size0 items0) r := by
  refine zz_ofi (cc := cX5_findingOf) (maxL := 3) (by decide) rfl (Nat.le_of_ble_eq_true rfl) ?_
  intro p e s m args below meth c A Q hfx hK hA hE hret H locs hP hD hS ls hl
  obtain ⟨hx, hb, hml, hown, hts⟩ := id hfx
  have inX5 : ∀ w ∈ u_ws RX5 TX5 4, w ∈ wsX5_findingOf := by decide +kernel
  have lk15 := hts (.fieldLink RX5 15 "CatBeat$Sheet" "lost" "Z") (by decide +kernel)
  have lk19 := hts (.fieldLink RX5 19 "CatBeat$Sheet" "form" "I") (by decide +kernel)
  have hl : lv_has ls 3 [(0, .ref a0), (1, .int u0), (2, .int u1)] := hl
  unfold pX5_findingOf at hf
  refine lv_aload_n hx hb dX5_findingOf_0 rfl (lv_at hl 0 rfl) ?_
  refine va_get (D := D) (ci := 5) (v := .int lost0) (C := RX5) (T := TX5) (N := 4) hx hb hts inX5 hown hK hP 0 rfl rfl 1 (by decide) lk15 (fun _ h9 => h9) rfl dX5_findingOf_1 ?_
  refine lv_if_eq (tgt := 9) hx hb dX5_findingOf_4 (by decide) (fun c4 => ?_) (fun c4 => ?_)
  · have hf := zz_ps hf c4
    refine lv_iload_n hx hb dX5_findingOf_9 rfl (lv_at hl 1 rfl) ?_
    refine lv_aload_n hx hb dX5_findingOf_10 rfl (lv_at hl 0 rfl) ?_
    refine va_get (D := D) (ci := 5) (v := .int form0) (C := RX5) (T := TX5) (N := 4) hx hb hts inX5 hown hK hP 0 rfl rfl 2 (by decide) lk19 (fun _ h9 => h9) rfl dX5_findingOf_11 ?_
    refine lv_icmp_eq (tgt := 19) hx hb dX5_findingOf_14 (by decide) (fun c14 => ?_) (fun c14 => ?_)
    · have hf := zz_ps hf c14
      refine lv_aload_n hx hb dX5_findingOf_19 rfl (lv_at hl 0 rfl) ?_
      refine lv_iload_n hx hb dX5_findingOf_20 rfl (lv_at hl 2 rfl) ?_
      refine lv_iconst (v := (1 : Int32)) hx hb dX5_findingOf_21 (by decide) ?_
      obtain ⟨r1, hc2, hf⟩ := zz_b1s hf
      refine zz_ji (va_runV (As := [.int u1, .int (1 : Int32)]) (rest := []) hfx (zc_X5_hasItems l D tb a0 a1 k1 F u1 (1 : Int32) lost0 form0 size0 items0 r1 hc2 H.size) (cwV 2 hts gX5_findingOf_X5_hasItems rfl rfl rfl (by decide +kernel) ⟨Nat.le_of_ble_eq_true rfl, Nat.le_of_ble_eq_true rfl⟩) (zz_preV hK hP hD hS hA hE [0, 1] [0] rfl (by decide) rfl 0 rfl rfl rfl) rfl rfl hl.1 rfl (lv_room (Nat.le_of_ble_eq_true rfl)) dX5_findingOf_22 ⟨Nat.zero_le _, Nat.zero_le _⟩) hP hD hS hA [0, 1] rfl rfl (fun H locs hP hD hS => ?_)
      have hP : va_P D vwCl (zw_5 a0 a1 k1 lost0 form0 size0 items0) H := hP
      have hD : va_D A (zw_5 a0 a1 k1 lost0 form0 size0 items0) := hD
      obtain ⟨v3, hv3, hf⟩ := zz_lts hf
      have hK4 : ∀ ls : Array Slot, lv_has ls 3 [] → W p l e rmX5_findingOf s m args below meth c H locs 0 0 Q (F0 m 33 ls [.int v3]) := by
        intro ls hl
        obtain rfl := zz_e1 hf
        exact hret _ _ _ _ dX5_findingOf_33 hP hD hS
      refine lv_if_eq (tgt := 32) hx hb dX5_findingOf_25 (by decide) (fun c25 => ?_) (fun c25 => ?_)
      · refine lv_iconst (v := (2 : Int32)) hx hb dX5_findingOf_32 (by decide) ?_
        refine zz_ti (show v3 = (2 : Int32) by rw [hv3, if_pos c25]) ?_
        exact hK4 ls (lv_sub hl [] rfl)
      · refine lv_iconst (v := (0 : Int32)) hx hb dX5_findingOf_28 (by decide) ?_
        refine lv_goto (tgt := 33) hx hb dX5_findingOf_29 (by decide) ?_
        refine zz_ti (show v3 = (0 : Int32) by rw [hv3, if_neg c25]) ?_
        exact hK4 ls (lv_sub hl [] rfl)
    · have hf := zz_ng hf c14
      refine lv_iconst (v := (3 : Int32)) hx hb dX5_findingOf_17 (by decide) ?_
      obtain rfl := zz_e1 hf
      exact hret _ _ _ _ dX5_findingOf_18 hP hD hS
  · have hf := zz_ng hf c4
    refine lv_iconst (v := (1 : Int32)) hx hb dX5_findingOf_7 (by decide) ?_
    obtain rfl := zz_e1 hf
    exact hret _ _ _ _ dX5_findingOf_8 hP hD hS
def rmX5_store : Room := { frames := 1, cells := 0, slots := 0, locals := 22 }
set_option maxHeartbeats 4000000 in
set_option maxRecDepth 100000 in
theorem zc_X5_store (l : Launch) (D : va_G) (tb : Nat → Nat) (a0 a1 : Nat) (k1 : ClassId) (F : Nat) (u0 : Int32) (u1 : Int32) (lost0 : Int32) (form0 : Int32) (size0 : Int32) (items0 : Nat → Int32) (o0 : Nat → Int32) (hf : pX5_store F u0 u1 lost0 form0 size0 items0 = some o0) : zz_Mv l yX5_store wsX5_store rmX5_store D tb [(k1, .int)] [.ref a0, .int u0, .int u1] (zw_5 a0 a1 k1 lost0 form0 size0 items0) (zw_5 a0 a1 k1 lost0 form0 size0 o0)  := by
  refine zz_ofv (cc := cX5_store) (maxL := 3) (by decide) rfl (Nat.le_of_ble_eq_true rfl) ?_
  intro p e s m args below meth c A Q hfx hK hA hE hret H locs hP hD hS ls hl
  obtain ⟨hx, hb, hml, hown, hts⟩ := id hfx
  have inX5 : ∀ w ∈ u_ws RX5 TX5 4, w ∈ wsX5_store := by decide +kernel
  have lk9 := hts (.fieldLink RX5 9 "CatBeat$Sheet" "items" "[I") (by decide +kernel)
  have lk19 := hts (.fieldLink RX5 19 "CatBeat$Sheet" "form" "I") (by decide +kernel)
  have hl : lv_has ls 3 [(0, .ref a0), (1, .int u0), (2, .int u1)] := hl
  unfold pX5_store at hf
  refine lv_aload_n hx hb dX5_store_0 rfl (lv_at hl 0 rfl) ?_
  refine lv_iload_n hx hb dX5_store_1 rfl (lv_at hl 1 rfl) ?_
  refine lv_iconst (v := (1 : Int32)) hx hb dX5_store_2 (by decide) ?_
  obtain ⟨r1, hc2, hf⟩ := zz_b1s hf
  refine zz_ji (va_runV (As := [.int u0, .int (1 : Int32)]) (rest := []) hfx (zc_X5_hasItems l D tb a0 a1 k1 F u0 (1 : Int32) lost0 form0 size0 items0 r1 hc2 H.size) (cwV 2 hts gX5_store_X5_hasItems rfl rfl rfl (by decide +kernel) ⟨Nat.le_of_ble_eq_true rfl, Nat.le_of_ble_eq_true rfl⟩) (zz_preV hK hP hD hS hA hE [0, 1] [0] rfl (by decide) rfl 0 rfl rfl rfl) rfl rfl hl.1 rfl (lv_room (Nat.le_of_ble_eq_true rfl)) dX5_store_3 ⟨Nat.zero_le _, Nat.zero_le _⟩) hP hD hS hA [0, 1] rfl rfl (fun H locs hP hD hS => ?_)
  have hP : va_P D vwCl (zw_5 a0 a1 k1 lost0 form0 size0 items0) H := hP
  have hD : va_D A (zw_5 a0 a1 k1 lost0 form0 size0 items0) := hD
  obtain ⟨j41_4, hj41_4, hf⟩ := zz_lts hf
  have Kj41_4 : ∀ (z3 : Nat → Int32) (H : Heap) (locs : List Loc), va_P D vwCl (zw_5 a0 a1 k1 lost0 form0 size0 z3) H → va_D A (zw_5 a0 a1 k1 lost0 form0 size0 z3) → va_S A s.heap H locs → ∀ ls : Array Slot, lv_has ls 3 [] → j41_4 z3 = some o0 → W p l e rmX5_store s m args below meth c H locs 0 0 Q (F0 m 41 ls []) := by
    intro z3 H locs hP hD hS ls hl hf
    rw [hj41_4] at hf
    obtain rfl := zz_e1 hf
    exact hret _ _ _ _ dX5_store_41 hP hD hS
  refine lv_if_eq (tgt := 41) hx hb dX5_store_6 (by decide) (fun c6 => ?_) (fun c6 => ?_)
  · have hf := zz_ps hf c6
    exact Kj41_4 items0 _ _ hP hD hS ls (lv_sub hl [] rfl) hf
  · have hf := zz_ng hf c6
    refine lv_aload_n hx hb dX5_store_9 rfl (lv_at hl 0 rfl) ?_
    refine va_get (D := D) (ci := 5) (v := .ref a1) (C := RX5) (T := TX5) (N := 4) hx hb hts inX5 hown hK hP 0 rfl rfl 0 (by decide) lk9 (fun _ h9 => h9) rfl dX5_store_10 ?_
    refine lv_iload_n hx hb dX5_store_13 rfl (lv_at hl 1 rfl) ?_
    refine lv_aload_n hx hb dX5_store_14 rfl (lv_at hl 0 rfl) ?_
    refine va_get (D := D) (ci := 5) (v := .int form0) (C := RX5) (T := TX5) (N := 4) hx hb hts inX5 hown hK hP 0 rfl rfl 2 (by decide) lk19 (fun _ h9 => h9) rfl dX5_store_15 ?_
    obtain ⟨v5, hv5, hf⟩ := zz_lts hf
    have hK6 : ∀ ls : Array Slot, lv_has ls 3 [] → W p l e rmX5_store s m args below meth c H locs 0 0 Q (F0 m 40 ls [.int v5, .int u0, .ref a1]) := by
      intro ls hl
      obtain ⟨hg7, hf⟩ := zz_gd hf
      obtain ⟨f8, hf8, hf⟩ := zz_lts hf
      refine va_iast hx hb hK hP hD hS 1 0 rfl rfl hg7 dX5_store_40 (fun H locs hP hD hS => ?_)
      have hP : va_P D vwCl (zw_5 a0 a1 k1 lost0 form0 size0 f8) H := by rw [hf8]; exact hP
      have hD : va_D A (zw_5 a0 a1 k1 lost0 form0 size0 f8) := by rw [hf8]; exact hD
      exact Kj41_4 f8 _ _ hP hD hS ls (lv_sub hl [] rfl) hf
    refine lv_if_ne (tgt := 26) hx hb dX5_store_18 (by decide) (fun c18 => ?_) (fun c18 => ?_)
    · refine lv_aload_n hx hb dX5_store_26 rfl (lv_at hl 0 rfl) ?_
      refine va_get (D := D) (ci := 5) (v := .int form0) (C := RX5) (T := TX5) (N := 4) hx hb hts inX5 hown hK hP 0 rfl rfl 2 (by decide) lk19 (fun _ h9 => h9) rfl dX5_store_27 ?_
      refine lv_iconst (v := (1 : Int32)) hx hb dX5_store_30 (by decide) ?_
      refine lv_icmp_ne (tgt := 39) hx hb dX5_store_31 (by decide) (fun c31 => ?_) (fun c31 => ?_)
      · refine lv_iload_n hx hb dX5_store_39 rfl (lv_at hl 2 rfl) ?_
        refine zz_ti (show v5 = u1 by rw [hv5, if_neg c18, if_neg c31]) ?_
        exact hK6 ls (lv_sub hl [] rfl)
      · refine lv_iload_n hx hb dX5_store_34 rfl (lv_at hl 2 rfl) ?_
        refine lv_i2s (v := (Int16.toInt32 (Int32.toInt16 u1))) hx hb dX5_store_35 rfl ?_
        refine lv_goto (tgt := 40) hx hb dX5_store_36 (by decide) ?_
        refine zz_ti (show v5 = (Int16.toInt32 (Int32.toInt16 u1)) by rw [hv5, if_neg c18, if_pos c31]) ?_
        exact hK6 ls (lv_sub hl [] rfl)
    · refine lv_iload_n hx hb dX5_store_21 rfl (lv_at hl 2 rfl) ?_
      refine lv_i2b (v := (Int8.toInt32 (Int32.toInt8 u1))) hx hb dX5_store_22 rfl ?_
      refine lv_goto (tgt := 40) hx hb dX5_store_23 (by decide) ?_
      refine zz_ti (show v5 = (Int8.toInt32 (Int32.toInt8 u1)) by rw [hv5, if_pos c18]) ?_
      exact hK6 ls (lv_sub hl [] rfl)
def rmX6_append : Room := { frames := 0, cells := 0, slots := 0, locals := 0 }
set_option maxHeartbeats 4000000 in
set_option maxRecDepth 100000 in
theorem zc_X6_append (l : Launch) (D : va_G) (tb : Nat → Nat) (a0 a1 : Nat) (k1 : ClassId) (n0 : Nat) (F : Nat) (u0 : Int32) (length0 : Int32) (bytes0 : Nat → Int32) (r : Int32) (o1 : Int32) (o2 : Nat → Int32) (hf : pX6_append F n0 u0 length0 bytes0 = some (r, o1, o2)) : zz_Mi l yX6_append wsX6_append rmX6_append D tb [(k1, .int)] [.ref a0, .int u0] (zw_6 a0 a1 k1 n0 length0 bytes0) (zw_6 a0 a1 k1 n0 o1 o2) r := by
  refine zz_ofz (cc := cX6_append) (maxL := 2) (by decide) rfl (Nat.le_of_ble_eq_true rfl) ?_
  intro p e s m args below meth c A Q hfx hK hA hE hret H locs hP hD hS ls hl
  obtain ⟨hx, hb, hml, hown, hts⟩ := id hfx
  have inX6 : ∀ w ∈ u_ws RX6 TX6 2, w ∈ wsX6_append := by decide +kernel
  have lk7 := hts (.fieldLink RX6 7 "CatBeat$Text" "length" "I") (by decide +kernel)
  have lk19 := hts (.fieldLink RX6 19 "CatBeat$Text" "bytes" "[I") (by decide +kernel)
  have hl : lv_has ls 2 [(0, .ref a0), (1, .int u0)] := hl
  unfold pX6_append at hf
  refine lv_aload_n hx hb dX6_append_0 rfl (lv_at hl 0 rfl) ?_
  refine va_get (D := D) (ci := 6) (v := .int length0) (C := RX6) (T := TX6) (N := 2) hx hb hts inX6 hown hK hP 0 rfl rfl 1 (by decide) lk7 (fun _ h9 => h9) rfl dX6_append_1 ?_
  refine lv_aload_n hx hb dX6_append_4 rfl (lv_at hl 0 rfl) ?_
  refine va_get (D := D) (ci := 6) (v := .ref a1) (C := RX6) (T := TX6) (N := 2) hx hb hts inX6 hown hK hP 0 rfl rfl 0 (by decide) lk19 (fun _ h9 => h9) rfl dX6_append_5 ?_
  refine va_alen (v := (Int32.ofNat n0)) hx hb hK hP 1 0 rfl rfl rfl dX6_append_8 ?_
  refine lv_icmp_lt (tgt := 14) hx hb dX6_append_9 (by decide) (fun c9 => ?_) (fun c9 => ?_)
  · have hf := zz_ps hf c9
    refine lv_aload_n hx hb dX6_append_14 rfl (lv_at hl 0 rfl) ?_
    refine va_get (D := D) (ci := 6) (v := .ref a1) (C := RX6) (T := TX6) (N := 2) hx hb hts inX6 hown hK hP 0 rfl rfl 0 (by decide) lk19 (fun _ h9 => h9) rfl dX6_append_15 ?_
    refine lv_aload_n hx hb dX6_append_18 rfl (lv_at hl 0 rfl) ?_
    refine va_get (D := D) (ci := 6) (v := .int length0) (C := RX6) (T := TX6) (N := 2) hx hb hts inX6 hown hK hP 0 rfl rfl 1 (by decide) lk7 (fun _ h9 => h9) rfl dX6_append_19 ?_
    refine lv_iload_n hx hb dX6_append_22 rfl (lv_at hl 1 rfl) ?_
    obtain ⟨hg1, hf⟩ := zz_gd hf
    obtain ⟨f2, hf2, hf⟩ := zz_lts hf
    refine va_iast hx hb hK hP hD hS 1 0 rfl rfl hg1 dX6_append_23 (fun H locs hP hD hS => ?_)
    have hP : va_P D vwCl (zw_6 a0 a1 k1 n0 length0 f2) H := by rw [hf2]; exact hP
    have hD : va_D A (zw_6 a0 a1 k1 n0 length0 f2) := by rw [hf2]; exact hD
    refine lv_aload_n hx hb dX6_append_24 rfl (lv_at hl 0 rfl) ?_
    refine lv_dup hx hb dX6_append_25 rfl ?_
    refine va_get (D := D) (ci := 6) (v := .int length0) (C := RX6) (T := TX6) (N := 2) hx hb hts inX6 hown hK hP 0 rfl rfl 1 (by decide) lk7 (fun _ h9 => h9) rfl dX6_append_26 ?_
    refine lv_iconst (v := (1 : Int32)) hx hb dX6_append_29 (by decide) ?_
    refine lv_iadd hx hb dX6_append_30 ?_
    obtain ⟨f3, hf3, hf⟩ := zz_lts hf
    refine va_put (D := D) (ci := 6) (v := .int (length0 + (1 : Int32))) (ty := .int) (C := RX6) (T := TX6) (N := 2) hx hb hts inX6 tyX6 tyX6_ok nmX6 hown hK hP hD hS 0 rfl rfl 1 (by decide) lk7 (fun _ h9 => h9) rfl (by decide +kernel) rfl rfl (Nat.le_of_ble_eq_true rfl) dX6_append_31 (fun H locs hP hD hS => ?_)
    have hP : va_P D vwCl (zw_6 a0 a1 k1 n0 f3 f2) H := by rw [hf3]; exact hP
    have hD : va_D A (zw_6 a0 a1 k1 n0 f3 f2) := by rw [hf3]; exact hD
    refine lv_iconst (v := (1 : Int32)) hx hb dX6_append_34 (by decide) ?_
    obtain ⟨rfl, rfl, rfl⟩ := zz_e3 hf
    exact hret _ _ _ _ rfl dX6_append_35 hP hD hS
  · have hf := zz_ng hf c9
    refine lv_iconst (v := (0 : Int32)) hx hb dX6_append_12 (by decide) ?_
    obtain ⟨rfl, rfl, rfl⟩ := zz_e3 hf
    exact hret _ _ _ _ rfl dX6_append_13 hP hD hS
def rmX7_mayStandAt : Room := { frames := 0, cells := 0, slots := 0, locals := 0 }
set_option maxHeartbeats 4000000 in
set_option maxRecDepth 100000 in
theorem zc_X7_mayStandAt (l : Launch) (D : va_G) (tb : Nat → Nat)  (F : Nat) (u0 : Int32) (u1 : Int32)  (r : Int32) (hf : pX7_mayStandAt F u0 u1 = some r) : zz_Mi l yX7_mayStandAt wsX7_mayStandAt rmX7_mayStandAt D tb [] [.int u0, .int u1] zw_none zw_none r := by
  refine zz_ofz (cc := cX7_mayStandAt) (maxL := 2) (by decide) rfl (Nat.le_of_ble_eq_true rfl) ?_
  intro p e s m args below meth c A Q hfx hK hA hE hret H locs hP hD hS ls hl
  obtain ⟨hx, hb, hml, hown, hts⟩ := id hfx
  have hl : lv_has ls 2 [(0, .int u0), (1, .int u1)] := hl
  unfold pX7_mayStandAt at hf
  refine lv_iload_n hx hb dX7_mayStandAt_0 rfl (lv_at hl 0 rfl) ?_
  by_cases cs1_0 : u0 = (0 : Int32)
  · have hf := zz_ps hf cs1_0
    refine zz_ti (y := (0 : Int32)) cs1_0.symm ?_
    refine lv_tableIn (off := 27) (tgt := 28) hx hb dX7_mayStandAt_1 (by decide) (by decide) rfl (by decide) ?_
    refine lv_iload_n hx hb dX7_mayStandAt_28 rfl (lv_at hl 1 rfl) ?_
    refine lv_bipush (v := (48 : Int32)) hx hb dX7_mayStandAt_29 (by decide) ?_
    obtain ⟨v1, hv1, hf⟩ := zz_lts hf
    have hK2 : ∀ ls : Array Slot, lv_has ls 2 [] → W p l e rmX7_mayStandAt s m args below meth c H locs 0 0 Q (F0 m 45 ls [.int v1]) := by
      intro ls hl
      obtain rfl := zz_e1 hf
      exact hret _ _ _ _ (by rw [hv1]; (repeat' split) <;> rfl) dX7_mayStandAt_45 hP hD hS
    refine lv_icmp_lt (tgt := 44) hx hb dX7_mayStandAt_31 (by decide) (fun c31 => ?_) (fun c31 => ?_)
    · refine lv_iconst (v := (0 : Int32)) hx hb dX7_mayStandAt_44 (by decide) ?_
      refine zz_ti (show v1 = (0 : Int32) by rw [hv1, if_pos c31]) ?_
      exact hK2 ls (lv_sub hl [] rfl)
    · refine lv_iload_n hx hb dX7_mayStandAt_34 rfl (lv_at hl 1 rfl) ?_
      refine lv_bipush (v := (51 : Int32)) hx hb dX7_mayStandAt_35 (by decide) ?_
      refine lv_icmp_gt (tgt := 44) hx hb dX7_mayStandAt_37 (by decide) (fun c37 => ?_) (fun c37 => ?_)
      · refine lv_iconst (v := (0 : Int32)) hx hb dX7_mayStandAt_44 (by decide) ?_
        refine zz_ti (show v1 = (0 : Int32) by rw [hv1, if_neg c31, if_pos c37]) ?_
        exact hK2 ls (lv_sub hl [] rfl)
      · refine lv_iconst (v := (1 : Int32)) hx hb dX7_mayStandAt_40 (by decide) ?_
        refine lv_goto (tgt := 45) hx hb dX7_mayStandAt_41 (by decide) ?_
        refine zz_ti (show v1 = (1 : Int32) by rw [hv1, if_neg c31, if_neg c37]) ?_
        exact hK2 ls (lv_sub hl [] rfl)
  have hf := zz_ng hf cs1_0
  by_cases cs1_1 : u0 = (1 : Int32)
  · have hf := zz_ps hf cs1_1
    refine zz_ti (y := (1 : Int32)) cs1_1.symm ?_
    refine lv_tableIn (off := 45) (tgt := 46) hx hb dX7_mayStandAt_1 (by decide) (by decide) rfl (by decide) ?_
    refine lv_iload_n hx hb dX7_mayStandAt_46 rfl (lv_at hl 1 rfl) ?_
    refine lv_bipush (v := (48 : Int32)) hx hb dX7_mayStandAt_47 (by decide) ?_
    obtain ⟨v3, hv3, hf⟩ := zz_lts hf
    have hK4 : ∀ ls : Array Slot, lv_has ls 2 [] → W p l e rmX7_mayStandAt s m args below meth c H locs 0 0 Q (F0 m 63 ls [.int v3]) := by
      intro ls hl
      obtain rfl := zz_e1 hf
      exact hret _ _ _ _ (by rw [hv3]; (repeat' split) <;> rfl) dX7_mayStandAt_63 hP hD hS
    refine lv_icmp_lt (tgt := 62) hx hb dX7_mayStandAt_49 (by decide) (fun c49 => ?_) (fun c49 => ?_)
    · refine lv_iconst (v := (0 : Int32)) hx hb dX7_mayStandAt_62 (by decide) ?_
      refine zz_ti (show v3 = (0 : Int32) by rw [hv3, if_pos c49]) ?_
      exact hK4 ls (lv_sub hl [] rfl)
    · refine lv_iload_n hx hb dX7_mayStandAt_52 rfl (lv_at hl 1 rfl) ?_
      refine lv_bipush (v := (57 : Int32)) hx hb dX7_mayStandAt_53 (by decide) ?_
      refine lv_icmp_gt (tgt := 62) hx hb dX7_mayStandAt_55 (by decide) (fun c55 => ?_) (fun c55 => ?_)
      · refine lv_iconst (v := (0 : Int32)) hx hb dX7_mayStandAt_62 (by decide) ?_
        refine zz_ti (show v3 = (0 : Int32) by rw [hv3, if_neg c49, if_pos c55]) ?_
        exact hK4 ls (lv_sub hl [] rfl)
      · refine lv_iconst (v := (1 : Int32)) hx hb dX7_mayStandAt_58 (by decide) ?_
        refine lv_goto (tgt := 63) hx hb dX7_mayStandAt_59 (by decide) ?_
        refine zz_ti (show v3 = (1 : Int32) by rw [hv3, if_neg c49, if_neg c55]) ?_
        exact hK4 ls (lv_sub hl [] rfl)
  have hf := zz_ng hf cs1_1
  by_cases cs1_2 : u0 = (2 : Int32)
  · have hf := zz_ps hf cs1_2
    refine zz_ti (y := (2 : Int32)) cs1_2.symm ?_
    refine lv_tableIn (off := 63) (tgt := 64) hx hb dX7_mayStandAt_1 (by decide) (by decide) rfl (by decide) ?_
    refine lv_iload_n hx hb dX7_mayStandAt_64 rfl (lv_at hl 1 rfl) ?_
    refine lv_bipush (v := (49 : Int32)) hx hb dX7_mayStandAt_65 (by decide) ?_
    obtain ⟨v5, hv5, hf⟩ := zz_lts hf
    have hK6 : ∀ ls : Array Slot, lv_has ls 2 [] → W p l e rmX7_mayStandAt s m args below meth c H locs 0 0 Q (F0 m 81 ls [.int v5]) := by
      intro ls hl
      obtain rfl := zz_e1 hf
      exact hret _ _ _ _ (by rw [hv5]; (repeat' split) <;> rfl) dX7_mayStandAt_81 hP hD hS
    refine lv_icmp_lt (tgt := 80) hx hb dX7_mayStandAt_67 (by decide) (fun c67 => ?_) (fun c67 => ?_)
    · refine lv_iconst (v := (0 : Int32)) hx hb dX7_mayStandAt_80 (by decide) ?_
      refine zz_ti (show v5 = (0 : Int32) by rw [hv5, if_pos c67]) ?_
      exact hK6 ls (lv_sub hl [] rfl)
    · refine lv_iload_n hx hb dX7_mayStandAt_70 rfl (lv_at hl 1 rfl) ?_
      refine lv_bipush (v := (57 : Int32)) hx hb dX7_mayStandAt_71 (by decide) ?_
      refine lv_icmp_gt (tgt := 80) hx hb dX7_mayStandAt_73 (by decide) (fun c73 => ?_) (fun c73 => ?_)
      · refine lv_iconst (v := (0 : Int32)) hx hb dX7_mayStandAt_80 (by decide) ?_
        refine zz_ti (show v5 = (0 : Int32) by rw [hv5, if_neg c67, if_pos c73]) ?_
        exact hK6 ls (lv_sub hl [] rfl)
      · refine lv_iconst (v := (1 : Int32)) hx hb dX7_mayStandAt_76 (by decide) ?_
        refine lv_goto (tgt := 81) hx hb dX7_mayStandAt_77 (by decide) ?_
        refine zz_ti (show v5 = (1 : Int32) by rw [hv5, if_neg c67, if_neg c73]) ?_
        exact hK6 ls (lv_sub hl [] rfl)
  have hf := zz_ng hf cs1_2
  obtain ⟨cd1, hf⟩ := zz_gd hf
  refine lv_tableOut (tgt := 82) hx hb dX7_mayStandAt_1 cd1 (by decide) ?_
  refine lv_iload_n hx hb dX7_mayStandAt_82 rfl (lv_at hl 1 rfl) ?_
  refine lv_bipush (v := (59 : Int32)) hx hb dX7_mayStandAt_83 (by decide) ?_
  obtain ⟨v7, hv7, hf⟩ := zz_lts hf
  have hK8 : ∀ ls : Array Slot, lv_has ls 2 [] → W p l e rmX7_mayStandAt s m args below meth c H locs 0 0 Q (F0 m 93 ls [.int v7]) := by
    intro ls hl
    obtain rfl := zz_e1 hf
    exact hret _ _ _ _ (by rw [hv7]; (repeat' split) <;> rfl) dX7_mayStandAt_93 hP hD hS
  refine lv_icmp_ne (tgt := 92) hx hb dX7_mayStandAt_85 (by decide) (fun c85 => ?_) (fun c85 => ?_)
  · refine lv_iconst (v := (0 : Int32)) hx hb dX7_mayStandAt_92 (by decide) ?_
    refine zz_ti (show v7 = (0 : Int32) by rw [hv7, if_neg c85]) ?_
    exact hK8 ls (lv_sub hl [] rfl)
  · refine lv_iconst (v := (1 : Int32)) hx hb dX7_mayStandAt_88 (by decide) ?_
    refine lv_goto (tgt := 93) hx hb dX7_mayStandAt_89 (by decide) ?_
    refine zz_ti (show v7 = (1 : Int32) by rw [hv7, if_pos c85]) ?_
    exact hK8 ls (lv_sub hl [] rfl)
def rmX7_fail : Room := { frames := 0, cells := 0, slots := 0, locals := 0 }
set_option maxHeartbeats 4000000 in
set_option maxRecDepth 100000 in
theorem zc_X7_fail (l : Launch) (D : va_G) (tb : Nat → Nat) (a0 a1 a2 : Nat) (k1 k2 : ClassId) (F : Nat) (u0 : Int32) (count0 : Int32) (wants0 : Nat → Int32) (needs0 : Nat → Int32) (r : Int32) (o1 : Int32) (hf : pX7_fail F u0 count0 wants0 needs0 = some (r, o1)) : zz_Mi l yX7_fail wsX7_fail rmX7_fail D tb [(k1, .int), (k2, .int)] [.ref a0, .int u0] (zw_7 a0 a1 a2 k1 k2 count0 wants0 needs0) (zw_7 a0 a1 a2 k1 k2 o1 wants0 needs0) r := by
  refine zz_ofi (cc := cX7_fail) (maxL := 2) (by decide) rfl (Nat.le_of_ble_eq_true rfl) ?_
  intro p e s m args below meth c A Q hfx hK hA hE hret H locs hP hD hS ls hl
  obtain ⟨hx, hb, hml, hown, hts⟩ := id hfx
  have inX7 : ∀ w ∈ u_ws RX7 TX7 3, w ∈ wsX7_fail := by decide +kernel
  have lk18 := hts (.fieldLink RX7 18 "CatBeat$Thieves" "count" "I") (by decide +kernel)
  have hl : lv_has ls 2 [(0, .ref a0), (1, .int u0)] := hl
  unfold pX7_fail at hf
  refine lv_aload_n hx hb dX7_fail_0 rfl (lv_at hl 0 rfl) ?_
  refine lv_iconst (v := (0 : Int32)) hx hb dX7_fail_1 (by decide) ?_
  obtain ⟨f1, hf1, hf⟩ := zz_lts hf
  refine va_put (D := D) (ci := 7) (v := .int (0 : Int32)) (ty := .int) (C := RX7) (T := TX7) (N := 3) hx hb hts inX7 tyX7 tyX7_ok nmX7 hown hK hP hD hS 0 rfl rfl 2 (by decide) lk18 (fun _ h9 => h9) rfl (by decide +kernel) rfl rfl (Nat.le_of_ble_eq_true rfl) dX7_fail_2 (fun H locs hP hD hS => ?_)
  have hP : va_P D vwCl (zw_7 a0 a1 a2 k1 k2 f1 wants0 needs0) H := by rw [hf1]; exact hP
  have hD : va_D A (zw_7 a0 a1 a2 k1 k2 f1 wants0 needs0) := by rw [hf1]; exact hD
  refine lv_iload_n hx hb dX7_fail_5 rfl (lv_at hl 1 rfl) ?_
  obtain ⟨rfl, rfl⟩ := zz_e2 hf
  exact hret _ _ _ _ dX7_fail_6 hP hD hS
def rmX7_add : Room := { frames := 0, cells := 0, slots := 0, locals := 0 }
set_option maxHeartbeats 4000000 in
set_option maxRecDepth 100000 in
theorem zc_X7_add (l : Launch) (D : va_G) (tb : Nat → Nat) (a0 a1 a2 a3 a4 : Nat) (k1 k2 k4 : ClassId) (n1 : Nat) (F : Nat) (u1 : Int32) (count0 : Int32) (wants0 : Nat → Int32) (needs0 : Nat → Int32) (length1 : Int32) (bytes1 : Nat → Int32) (r : Int32) (o1 : Int32) (o2 : Nat → Int32) (o3 : Nat → Int32) (hf : pX7_add F n1 u1 count0 wants0 needs0 length1 bytes1 = some (r, o1, o2, o3)) : zz_Mi l yX7_add wsX7_add rmX7_add D tb [(k1, .int), (k2, .int), (k4, .int)] [.ref a0, .ref a3, .int u1] (zw_7_6 a0 a1 a2 a3 a4 k1 k2 k4 n1 count0 wants0 needs0 length1 bytes1) (zw_7_6 a0 a1 a2 a3 a4 k1 k2 k4 n1 o1 o2 o3 length1 bytes1) r := by
  refine zz_ofz (cc := cX7_add) (maxL := 3) (by decide) rfl (Nat.le_of_ble_eq_true rfl) ?_
  intro p e s m args below meth c A Q hfx hK hA hE hret H locs hP hD hS ls hl
  obtain ⟨hx, hb, hml, hown, hts⟩ := id hfx
  have inX7 : ∀ w ∈ u_ws RX7 TX7 3, w ∈ wsX7_add := by decide +kernel
  have inX6 : ∀ w ∈ u_ws RX6 TX6 2, w ∈ wsX7_add := by decide +kernel
  have lk18 := hts (.fieldLink RX7 18 "CatBeat$Thieves" "count" "I") (by decide +kernel)
  have lk9 := hts (.fieldLink RX7 9 "CatBeat$Thieves" "wants" "[I") (by decide +kernel)
  have lk22 := hts (.fieldLink RX7 22 "CatBeat$Text" "length" "I") (by decide +kernel)
  have lk27 := hts (.fieldLink RX7 27 "CatBeat$Text" "bytes" "[I") (by decide +kernel)
  have lk15 := hts (.fieldLink RX7 15 "CatBeat$Thieves" "needs" "[I") (by decide +kernel)
  have hl : lv_has ls 3 [(0, .ref a0), (1, .ref a3), (2, .int u1)] := hl
  unfold pX7_add at hf
  refine lv_aload_n hx hb dX7_add_0 rfl (lv_at hl 0 rfl) ?_
  refine va_get (D := D) (ci := 7) (v := .int count0) (C := RX7) (T := TX7) (N := 3) hx hb hts inX7 hown hK hP 0 rfl rfl 2 (by decide) lk18 (fun _ h9 => h9) rfl dX7_add_1 ?_
  refine lv_aload_n hx hb dX7_add_4 rfl (lv_at hl 0 rfl) ?_
  refine va_get (D := D) (ci := 7) (v := .ref a1) (C := RX7) (T := TX7) (N := 3) hx hb hts inX7 hown hK hP 0 rfl rfl 0 (by decide) lk9 (fun _ h9 => h9) rfl dX7_add_5 ?_
  refine va_alen (v := (8 : Int32)) hx hb hK hP 1 0 rfl rfl rfl dX7_add_8 ?_
  obtain ⟨j26_1, hj26_1, hf⟩ := zz_lts hf
  have Kj26_1 : ∀  (H : Heap) (locs : List Loc), va_P D vwCl (zw_7_6 a0 a1 a2 a3 a4 k1 k2 k4 n1 count0 wants0 needs0 length1 bytes1) H → va_D A (zw_7_6 a0 a1 a2 a3 a4 k1 k2 k4 n1 count0 wants0 needs0 length1 bytes1) → va_S A s.heap H locs → ∀ ls : Array Slot, lv_has ls 3 [] → j26_1 () = some (r, o1, o2, o3) → W p l e rmX7_add s m args below meth c H locs 0 0 Q (F0 m 26 ls []) := by
    intro  H locs hP hD hS ls hl hf
    rw [hj26_1] at hf
    refine lv_iconst (v := (0 : Int32)) hx hb dX7_add_26 (by decide) ?_
    obtain ⟨rfl, rfl, rfl, rfl⟩ := zz_e4 hf
    exact hret _ _ _ _ rfl dX7_add_27 hP hD hS
  refine lv_icmp_ge (tgt := 26) hx hb dX7_add_9 (by decide) (fun c9 => ?_) (fun c9 => ?_)
  · have hf := zz_ps hf c9
    exact Kj26_1  _ _ hP hD hS ls (lv_sub hl [] rfl) hf
  · have hf := zz_ng hf c9
    refine lv_iload_n hx hb dX7_add_12 rfl (lv_at hl 2 rfl) ?_
    refine lv_if_lt (tgt := 26) hx hb dX7_add_13 (by decide) (fun c13 => ?_) (fun c13 => ?_)
    · have hf := zz_ps hf c13
      exact Kj26_1  _ _ hP hD hS ls (lv_sub hl [] rfl) hf
    · have hf := zz_ng hf c13
      refine lv_iload_n hx hb dX7_add_16 rfl (lv_at hl 2 rfl) ?_
      refine lv_iconst (v := (2 : Int32)) hx hb dX7_add_17 (by decide) ?_
      refine lv_iadd hx hb dX7_add_18 ?_
      refine lv_aload_n hx hb dX7_add_19 rfl (lv_at hl 1 rfl) ?_
      refine va_get (D := D) (ci := 6) (v := .int length1) (C := RX6) (T := TX6) (N := 2) hx hb hts inX6 hown hK hP 3 rfl rfl 1 (by decide) lk22 (fun _ h9 => h9) rfl dX7_add_20 ?_
      refine lv_icmp_lt (tgt := 28) hx hb dX7_add_23 (by decide) (fun c23 => ?_) (fun c23 => ?_)
      · have hf := zz_ps hf c23
        refine lv_aload_n hx hb dX7_add_28 rfl (lv_at hl 0 rfl) ?_
        refine va_get (D := D) (ci := 7) (v := .ref a1) (C := RX7) (T := TX7) (N := 3) hx hb hts inX7 hown hK hP 0 rfl rfl 0 (by decide) lk9 (fun _ h9 => h9) rfl dX7_add_29 ?_
        refine lv_aload_n hx hb dX7_add_32 rfl (lv_at hl 0 rfl) ?_
        refine va_get (D := D) (ci := 7) (v := .int count0) (C := RX7) (T := TX7) (N := 3) hx hb hts inX7 hown hK hP 0 rfl rfl 2 (by decide) lk18 (fun _ h9 => h9) rfl dX7_add_33 ?_
        refine lv_bipush (v := (10 : Int32)) hx hb dX7_add_36 (by decide) ?_
        refine lv_aload_n hx hb dX7_add_38 rfl (lv_at hl 1 rfl) ?_
        refine va_get (D := D) (ci := 6) (v := .ref a4) (C := RX6) (T := TX6) (N := 2) hx hb hts inX6 hown hK hP 3 rfl rfl 0 (by decide) lk27 (fun _ h9 => h9) rfl dX7_add_39 ?_
        refine lv_iload_n hx hb dX7_add_42 rfl (lv_at hl 2 rfl) ?_
        obtain ⟨hg2, hf⟩ := zz_gd hf
        refine va_iald hx hb hK hP 4 2 rfl rfl hg2 dX7_add_43 ?_
        refine lv_bipush (v := (48 : Int32)) hx hb dX7_add_44 (by decide) ?_
        refine lv_isub hx hb dX7_add_46 ?_
        refine lv_imul hx hb dX7_add_47 ?_
        refine lv_aload_n hx hb dX7_add_48 rfl (lv_at hl 1 rfl) ?_
        refine va_get (D := D) (ci := 6) (v := .ref a4) (C := RX6) (T := TX6) (N := 2) hx hb hts inX6 hown hK hP 3 rfl rfl 0 (by decide) lk27 (fun _ h9 => h9) rfl dX7_add_49 ?_
        refine lv_iload_n hx hb dX7_add_52 rfl (lv_at hl 2 rfl) ?_
        refine lv_iconst (v := (1 : Int32)) hx hb dX7_add_53 (by decide) ?_
        refine lv_iadd hx hb dX7_add_54 ?_
        obtain ⟨hg3, hf⟩ := zz_gd hf
        refine va_iald hx hb hK hP 4 2 rfl rfl hg3 dX7_add_55 ?_
        refine lv_iadd hx hb dX7_add_56 ?_
        refine lv_bipush (v := (48 : Int32)) hx hb dX7_add_57 (by decide) ?_
        refine lv_isub hx hb dX7_add_59 ?_
        obtain ⟨hg4, hf⟩ := zz_gd hf
        obtain ⟨f5, hf5, hf⟩ := zz_lts hf
        refine va_iast hx hb hK hP hD hS 1 0 rfl rfl hg4 dX7_add_60 (fun H locs hP hD hS => ?_)
        have hP : va_P D vwCl (zw_7_6 a0 a1 a2 a3 a4 k1 k2 k4 n1 count0 f5 needs0 length1 bytes1) H := by rw [hf5]; exact hP
        have hD : va_D A (zw_7_6 a0 a1 a2 a3 a4 k1 k2 k4 n1 count0 f5 needs0 length1 bytes1) := by rw [hf5]; exact hD
        refine lv_aload_n hx hb dX7_add_61 rfl (lv_at hl 0 rfl) ?_
        refine va_get (D := D) (ci := 7) (v := .ref a2) (C := RX7) (T := TX7) (N := 3) hx hb hts inX7 hown hK hP 0 rfl rfl 1 (by decide) lk15 (fun _ h9 => h9) rfl dX7_add_62 ?_
        refine lv_aload_n hx hb dX7_add_65 rfl (lv_at hl 0 rfl) ?_
        refine va_get (D := D) (ci := 7) (v := .int count0) (C := RX7) (T := TX7) (N := 3) hx hb hts inX7 hown hK hP 0 rfl rfl 2 (by decide) lk18 (fun _ h9 => h9) rfl dX7_add_66 ?_
        refine lv_aload_n hx hb dX7_add_69 rfl (lv_at hl 1 rfl) ?_
        refine va_get (D := D) (ci := 6) (v := .ref a4) (C := RX6) (T := TX6) (N := 2) hx hb hts inX6 hown hK hP 3 rfl rfl 0 (by decide) lk27 (fun _ h9 => h9) rfl dX7_add_70 ?_
        refine lv_iload_n hx hb dX7_add_73 rfl (lv_at hl 2 rfl) ?_
        refine lv_iconst (v := (2 : Int32)) hx hb dX7_add_74 (by decide) ?_
        refine lv_iadd hx hb dX7_add_75 ?_
        obtain ⟨hg6, hf⟩ := zz_gd hf
        refine va_iald hx hb hK hP 4 2 rfl rfl hg6 dX7_add_76 ?_
        refine lv_bipush (v := (48 : Int32)) hx hb dX7_add_77 (by decide) ?_
        refine lv_isub hx hb dX7_add_79 ?_
        obtain ⟨hg7, hf⟩ := zz_gd hf
        obtain ⟨f8, hf8, hf⟩ := zz_lts hf
        refine va_iast hx hb hK hP hD hS 2 1 rfl rfl hg7 dX7_add_80 (fun H locs hP hD hS => ?_)
        have hP : va_P D vwCl (zw_7_6 a0 a1 a2 a3 a4 k1 k2 k4 n1 count0 f5 f8 length1 bytes1) H := by rw [hf8]; exact hP
        have hD : va_D A (zw_7_6 a0 a1 a2 a3 a4 k1 k2 k4 n1 count0 f5 f8 length1 bytes1) := by rw [hf8]; exact hD
        refine lv_aload_n hx hb dX7_add_81 rfl (lv_at hl 0 rfl) ?_
        refine lv_dup hx hb dX7_add_82 rfl ?_
        refine va_get (D := D) (ci := 7) (v := .int count0) (C := RX7) (T := TX7) (N := 3) hx hb hts inX7 hown hK hP 0 rfl rfl 2 (by decide) lk18 (fun _ h9 => h9) rfl dX7_add_83 ?_
        refine lv_iconst (v := (1 : Int32)) hx hb dX7_add_86 (by decide) ?_
        refine lv_iadd hx hb dX7_add_87 ?_
        obtain ⟨f9, hf9, hf⟩ := zz_lts hf
        refine va_put (D := D) (ci := 7) (v := .int (count0 + (1 : Int32))) (ty := .int) (C := RX7) (T := TX7) (N := 3) hx hb hts inX7 tyX7 tyX7_ok nmX7 hown hK hP hD hS 0 rfl rfl 2 (by decide) lk18 (fun _ h9 => h9) rfl (by decide +kernel) rfl rfl (Nat.le_of_ble_eq_true rfl) dX7_add_88 (fun H locs hP hD hS => ?_)
        have hP : va_P D vwCl (zw_7_6 a0 a1 a2 a3 a4 k1 k2 k4 n1 f9 f5 f8 length1 bytes1) H := by rw [hf9]; exact hP
        have hD : va_D A (zw_7_6 a0 a1 a2 a3 a4 k1 k2 k4 n1 f9 f5 f8 length1 bytes1) := by rw [hf9]; exact hD
        refine lv_iconst (v := (1 : Int32)) hx hb dX7_add_91 (by decide) ?_
        obtain ⟨rfl, rfl, rfl, rfl⟩ := zz_e4 hf
        exact hret _ _ _ _ rfl dX7_add_92 hP hD hS
      · have hf := zz_ng hf c23
        exact Kj26_1  _ _ hP hD hS ls (lv_sub hl [] rfl) hf
def rmX7_parse : Room := { frames := 1, cells := 0, slots := 0, locals := 22 }
set_option maxHeartbeats 4000000 in
set_option maxRecDepth 100000 in
theorem zc_X7_parse (l : Launch) (D : va_G) (tb : Nat → Nat) (a0 a1 a2 a3 a4 : Nat) (k1 k2 k4 : ClassId) (n1 : Nat) (F : Nat)  (count0 : Int32) (wants0 : Nat → Int32) (needs0 : Nat → Int32) (length1 : Int32) (bytes1 : Nat → Int32) (r : Int32) (o1 : Int32) (o2 : Nat → Int32) (o3 : Nat → Int32) (hf : pX7_parse F n1 count0 wants0 needs0 length1 bytes1 = some (r, o1, o2, o3)) : zz_Mi l yX7_parse wsX7_parse rmX7_parse D tb [(k1, .int), (k2, .int), (k4, .int)] [.ref a0, .ref a3] (zw_7_6 a0 a1 a2 a3 a4 k1 k2 k4 n1 count0 wants0 needs0 length1 bytes1) (zw_7_6 a0 a1 a2 a3 a4 k1 k2 k4 n1 o1 o2 o3 length1 bytes1) r := by
  refine zz_ofi (cc := cX7_parse) (maxL := 3) (by decide) rfl (Nat.le_of_ble_eq_true rfl) ?_
  intro p e s m args below meth c A Q hfx hK hA hE hret H locs hP hD hS ls hl
  obtain ⟨hx, hb, hml, hown, hts⟩ := id hfx
  have inX7 : ∀ w ∈ u_ws RX7 TX7 3, w ∈ wsX7_parse := by decide +kernel
  have inX6 : ∀ w ∈ u_ws RX6 TX6 2, w ∈ wsX7_parse := by decide +kernel
  have lk18 := hts (.fieldLink RX7 18 "CatBeat$Thieves" "count" "I") (by decide +kernel)
  have lk22 := hts (.fieldLink RX7 22 "CatBeat$Text" "length" "I") (by decide +kernel)
  have lk27 := hts (.fieldLink RX7 27 "CatBeat$Text" "bytes" "[I") (by decide +kernel)
  have hl : lv_has ls 3 [(0, .ref a0), (1, .ref a3)] := hl
  unfold pX7_parse at hf
  refine lv_aload_n hx hb dX7_parse_0 rfl (lv_at hl 0 rfl) ?_
  refine lv_iconst (v := (0 : Int32)) hx hb dX7_parse_1 (by decide) ?_
  obtain ⟨f1, hf1, hf⟩ := zz_lts hf
  refine va_put (D := D) (ci := 7) (v := .int (0 : Int32)) (ty := .int) (C := RX7) (T := TX7) (N := 3) hx hb hts inX7 tyX7 tyX7_ok nmX7 hown hK hP hD hS 0 rfl rfl 2 (by decide) lk18 (fun _ h9 => h9) rfl (by decide +kernel) rfl rfl (Nat.le_of_ble_eq_true rfl) dX7_parse_2 (fun H locs hP hD hS => ?_)
  have hP : va_P D vwCl (zw_7_6 a0 a1 a2 a3 a4 k1 k2 k4 n1 f1 wants0 needs0 length1 bytes1) H := by rw [hf1]; exact hP
  have hD : va_D A (zw_7_6 a0 a1 a2 a3 a4 k1 k2 k4 n1 f1 wants0 needs0 length1 bytes1) := by rw [hf1]; exact hD
  refine lv_iconst (v := (0 : Int32)) hx hb dX7_parse_5 (by decide) ?_
  refine lv_istore_n (lv' := [(2, .int (0 : Int32)), (0, .ref a0), (1, .ref a3)]) hx hb dX7_parse_6 rfl hl (by decide) rfl (fun ls hl => ?_)
  have hLkL7_5 : ∀ (n7_5 : Nat) (x2 : Int32) (z3 : Int32) (z4 : Nat → Int32) (z5 : Nat → Int32) (H : Heap) (locs : List Loc), va_P D vwCl (zw_7_6 a0 a1 a2 a3 a4 k1 k2 k4 n1 z3 z4 z5 length1 bytes1) H → va_D A (zw_7_6 a0 a1 a2 a3 a4 k1 k2 k4 n1 z3 z4 z5 length1 bytes1) → va_S A s.heap H locs → ∀ ls : Array Slot, lv_has ls 3 [(0, .ref a0), (1, .ref a3), (2, .int x2)] → pX7_parse_L7_5 n1 F length1 bytes1 n7_5 x2 z3 z4 z5 = some (r, o1, o2, o3) → W p l e rmX7_parse s m args below meth c H locs 0 0 Q (F0 m 7 ls []) := by
    intro n7_5
    induction n7_5 with
    | zero =>
      intro x2 z3 z4 z5 H locs hP hD hS ls hl hf
      exact nomatch (show (none : Option _) = some _ from hf)
    | succ n7_5 ihkL7_5 =>
      intro x2 z3 z4 z5 H locs hP hD hS ls hl hf
      rw [pX7_parse_L7_5] at hf
      refine lv_iload_n hx hb dX7_parse_7 rfl (lv_at hl 2 rfl) ?_
      refine lv_aload_n hx hb dX7_parse_8 rfl (lv_at hl 1 rfl) ?_
      refine va_get (D := D) (ci := 6) (v := .int length1) (C := RX6) (T := TX6) (N := 2) hx hb hts inX6 hown hK hP 3 rfl rfl 1 (by decide) lk22 (fun _ h9 => h9) rfl dX7_parse_9 ?_
      refine lv_icmp_ge (tgt := 68) hx hb dX7_parse_12 (by decide) (fun c12 => ?_) (fun c12 => ?_)
      · have hf := zz_ps hf c12
        refine lv_aload_n hx hb dX7_parse_68 rfl (lv_at hl 1 rfl) ?_
        refine va_get (D := D) (ci := 6) (v := .int length1) (C := RX6) (T := TX6) (N := 2) hx hb hts inX6 hown hK hP 3 rfl rfl 1 (by decide) lk22 (fun _ h9 => h9) rfl dX7_parse_69 ?_
        obtain ⟨j97_9, hj97_9, hf⟩ := zz_lts hf
        have Kj97_9 : ∀ (y7 : Int32) (z8 : Int32) (H : Heap) (locs : List Loc), va_P D vwCl (zw_7_6 a0 a1 a2 a3 a4 k1 k2 k4 n1 z8 z4 z5 length1 bytes1) H → va_D A (zw_7_6 a0 a1 a2 a3 a4 k1 k2 k4 n1 z8 z4 z5 length1 bytes1) → va_S A s.heap H locs → ∀ ls : Array Slot, lv_has ls 3 [] → j97_9 y7 z8 = some (r, o1, o2, o3) → W p l e rmX7_parse s m args below meth c H locs 0 0 Q (F0 m 97 ls [.int y7]) := by
          intro y7 z8 H locs hP hD hS ls hl hf
          rw [hj97_9] at hf
          obtain ⟨rfl, rfl, rfl, rfl⟩ := zz_e4 hf
          exact hret _ _ _ _ dX7_parse_97 hP hD hS
        obtain ⟨j85_10, hj85_10, hf⟩ := zz_lts hf
        have Kj85_10 : ∀  (H : Heap) (locs : List Loc), va_P D vwCl (zw_7_6 a0 a1 a2 a3 a4 k1 k2 k4 n1 z3 z4 z5 length1 bytes1) H → va_D A (zw_7_6 a0 a1 a2 a3 a4 k1 k2 k4 n1 z3 z4 z5 length1 bytes1) → va_S A s.heap H locs → ∀ ls : Array Slot, lv_has ls 3 [] → j85_10 () = some (r, o1, o2, o3) → W p l e rmX7_parse s m args below meth c H locs 0 0 Q (F0 m 85 ls []) := by
          intro  H locs hP hD hS ls hl hf
          rw [hj85_10] at hf
          refine lv_iconst (v := (-1 : Int32)) hx hb dX7_parse_85 (by decide) ?_
          refine lv_goto (tgt := 97) hx hb dX7_parse_86 (by decide) ?_
          exact Kj97_9 (-1 : Int32) z3 _ _ hP hD hS ls (lv_sub hl [] rfl) hf
        refine lv_if_eq (tgt := 85) hx hb dX7_parse_72 (by decide) (fun c72 => ?_) (fun c72 => ?_)
        · have hf := zz_ps hf c72
          exact Kj85_10  _ _ hP hD hS ls (lv_sub hl [] rfl) hf
        · have hf := zz_ng hf c72
          refine lv_aload_n hx hb dX7_parse_75 rfl (lv_at hl 1 rfl) ?_
          refine va_get (D := D) (ci := 6) (v := .int length1) (C := RX6) (T := TX6) (N := 2) hx hb hts inX6 hown hK hP 3 rfl rfl 1 (by decide) lk22 (fun _ h9 => h9) rfl dX7_parse_76 ?_
          refine lv_iconst (v := (4 : Int32)) hx hb dX7_parse_79 (by decide) ?_
          refine lv_irem hx hb dX7_parse_80 (by decide) ?_
          refine lv_iconst (v := (3 : Int32)) hx hb dX7_parse_81 (by decide) ?_
          refine lv_icmp_ne (tgt := 89) hx hb dX7_parse_82 (by decide) (fun c82 => ?_) (fun c82 => ?_)
          · have hf := zz_ng hf c82
            refine lv_aload_n hx hb dX7_parse_89 rfl (lv_at hl 0 rfl) ?_
            refine lv_aload_n hx hb dX7_parse_90 rfl (lv_at hl 1 rfl) ?_
            refine va_get (D := D) (ci := 6) (v := .int length1) (C := RX6) (T := TX6) (N := 2) hx hb hts inX6 hown hK hP 3 rfl rfl 1 (by decide) lk22 (fun _ h9 => h9) rfl dX7_parse_91 ?_
            obtain ⟨r11, f12, hc13, hf⟩ := zz_b2s hf
            refine zz_ji (va_runV (As := [.int length1]) (rest := []) hfx (zc_X7_fail l D tb a0 a1 a2 k1 k2 F length1 z3 z4 z5 r11 f12 hc13 H.size) (cwV 1 hts gX7_parse_X7_fail rfl rfl rfl (by decide +kernel) ⟨Nat.le_of_ble_eq_true rfl, Nat.le_of_ble_eq_true rfl⟩) (zz_preV hK hP hD hS hA hE [0, 1, 2] [0, 1] rfl (by decide) rfl 0 rfl rfl rfl) rfl rfl hl.1 rfl (lv_room (Nat.le_of_ble_eq_true rfl)) dX7_parse_94 ⟨Nat.zero_le _, Nat.zero_le _⟩) hP hD hS hA [0, 1, 2] rfl rfl (fun H locs hP hD hS => ?_)
            have hP : va_P D vwCl (zw_7_6 a0 a1 a2 a3 a4 k1 k2 k4 n1 f12 z4 z5 length1 bytes1) H := hP
            have hD : va_D A (zw_7_6 a0 a1 a2 a3 a4 k1 k2 k4 n1 f12 z4 z5 length1 bytes1) := hD
            exact Kj97_9 r11 f12 _ _ hP hD hS ls (lv_sub hl [] rfl) hf
          · have hf := zz_ps hf c82
            exact Kj85_10  _ _ hP hD hS ls (lv_sub hl [] rfl) hf
      · have hf := zz_ng hf c12
        refine lv_iload_n hx hb dX7_parse_15 rfl (lv_at hl 2 rfl) ?_
        refine lv_iconst (v := (4 : Int32)) hx hb dX7_parse_16 (by decide) ?_
        refine lv_irem hx hb dX7_parse_17 (by decide) ?_
        refine lv_aload_n hx hb dX7_parse_18 rfl (lv_at hl 1 rfl) ?_
        refine va_get (D := D) (ci := 6) (v := .ref a4) (C := RX6) (T := TX6) (N := 2) hx hb hts inX6 hown hK hP 3 rfl rfl 0 (by decide) lk27 (fun _ h9 => h9) rfl dX7_parse_19 ?_
        refine lv_iload_n hx hb dX7_parse_22 rfl (lv_at hl 2 rfl) ?_
        obtain ⟨hg14, hf⟩ := zz_gd hf
        refine va_iald hx hb hK hP 4 2 rfl rfl hg14 dX7_parse_23 ?_
        obtain ⟨r15, hc16, hf⟩ := zz_b1s hf
        refine zz_ji (va_runS (As := [.int (x2 - x2 / (4 : Int32) * (4 : Int32)), .int (bytes1 (Int32.toNatClampNeg x2))]) (rest := []) hfx (zc_X7_mayStandAt l D tb  F (x2 - x2 / (4 : Int32) * (4 : Int32)) (bytes1 (Int32.toNatClampNeg x2))  r15 hc16 H.size) (va_cwS 2 hts gX7_parse_X7_mayStandAt rfl rfl rfl (by decide +kernel) ⟨Nat.le_of_ble_eq_true rfl, Nat.le_of_ble_eq_true rfl⟩) (zz_preS hK hP hD hS hA hE [] [] rfl (by decide) rfl) rfl rfl hl.1 rfl (lv_room (Nat.le_of_ble_eq_true rfl)) dX7_parse_24 ⟨Nat.zero_le _, Nat.zero_le _⟩) hP hD hS hA [] rfl rfl (fun H locs hP hD hS => ?_)
        have hP : va_P D vwCl (zw_7_6 a0 a1 a2 a3 a4 k1 k2 k4 n1 z3 z4 z5 length1 bytes1) H := hP
        have hD : va_D A (zw_7_6 a0 a1 a2 a3 a4 k1 k2 k4 n1 z3 z4 z5 length1 bytes1) := hD
        refine lv_if_ne (tgt := 36) hx hb dX7_parse_27 (by decide) (fun c27 => ?_) (fun c27 => ?_)
        · have hf := zz_ng hf c27
          refine lv_iload_n hx hb dX7_parse_36 rfl (lv_at hl 2 rfl) ?_
          refine lv_iconst (v := (4 : Int32)) hx hb dX7_parse_37 (by decide) ?_
          refine lv_irem hx hb dX7_parse_38 (by decide) ?_
          refine lv_iconst (v := (2 : Int32)) hx hb dX7_parse_39 (by decide) ?_
          obtain ⟨j62_20, hj62_20, hf⟩ := zz_lts hf
          have Kj62_20 : ∀ (z17 : Int32) (z18 : Nat → Int32) (z19 : Nat → Int32) (H : Heap) (locs : List Loc), va_P D vwCl (zw_7_6 a0 a1 a2 a3 a4 k1 k2 k4 n1 z17 z18 z19 length1 bytes1) H → va_D A (zw_7_6 a0 a1 a2 a3 a4 k1 k2 k4 n1 z17 z18 z19 length1 bytes1) → va_S A s.heap H locs → ∀ ls : Array Slot, lv_has ls 3 [(0, .ref a0), (1, .ref a3), (2, .int x2)] → j62_20 z17 z18 z19 = some (r, o1, o2, o3) → W p l e rmX7_parse s m args below meth c H locs 0 0 Q (F0 m 62 ls []) := by
            intro z17 z18 z19 H locs hP hD hS ls hl hf
            rw [hj62_20] at hf
            obtain ⟨v21, hv21, hf⟩ := zz_lts hf
            refine lv_iinc (v := v21) (lv' := [(2, .int v21), (0, .ref a0), (1, .ref a3)]) hx hb dX7_parse_62 hl (k := 2) rfl (by rw [hv21]; rfl) (by decide) rfl (fun ls hl => ?_)
            refine lv_goto (tgt := 7) hx hb dX7_parse_65 (by decide) ?_
            exact ihkL7_5 v21 z17 z18 z19 _ _ hP hD hS ls (lv_sub hl [1, 2, 0] rfl) hf
          refine lv_icmp_ne (tgt := 62) hx hb dX7_parse_40 (by decide) (fun c40 => ?_) (fun c40 => ?_)
          · have hf := zz_ng hf c40
            exact Kj62_20 z3 z4 z5 _ _ hP hD hS ls (lv_sub hl [0, 1, 2] rfl) hf
          · have hf := zz_ps hf c40
            refine lv_aload_n hx hb dX7_parse_43 rfl (lv_at hl 0 rfl) ?_
            refine lv_aload_n hx hb dX7_parse_44 rfl (lv_at hl 1 rfl) ?_
            refine lv_iload_n hx hb dX7_parse_45 rfl (lv_at hl 2 rfl) ?_
            refine lv_iconst (v := (2 : Int32)) hx hb dX7_parse_46 (by decide) ?_
            refine lv_isub hx hb dX7_parse_47 ?_
            obtain ⟨r22, f23, f24, f25, hc26, hf⟩ := zz_b4s hf
            refine zz_ji (va_runV (As := [.ref a3, .int (x2 - (2 : Int32))]) (rest := []) hfx (zc_X7_add l D tb a0 a1 a2 a3 a4 k1 k2 k4 n1 F (x2 - (2 : Int32)) z3 z4 z5 length1 bytes1 r22 f23 f24 f25 hc26 H.size) (cwV 2 hts gX7_parse_X7_add rfl rfl rfl (by decide +kernel) ⟨Nat.le_of_ble_eq_true rfl, Nat.le_of_ble_eq_true rfl⟩) (zz_preV hK hP hD hS hA hE [0, 1, 2, 3, 4] [0, 1, 2] rfl (by decide) rfl 0 rfl rfl rfl) rfl rfl hl.1 rfl (lv_room (Nat.le_of_ble_eq_true rfl)) dX7_parse_48 ⟨Nat.zero_le _, Nat.zero_le _⟩) hP hD hS hA [0, 1, 2, 3, 4] rfl rfl (fun H locs hP hD hS => ?_)
            have hP : va_P D vwCl (zw_7_6 a0 a1 a2 a3 a4 k1 k2 k4 n1 f23 f24 f25 length1 bytes1) H := hP
            have hD : va_D A (zw_7_6 a0 a1 a2 a3 a4 k1 k2 k4 n1 f23 f24 f25 length1 bytes1) := hD
            refine lv_if_ne (tgt := 62) hx hb dX7_parse_51 (by decide) (fun c51 => ?_) (fun c51 => ?_)
            · have hf := zz_ng hf c51
              exact Kj62_20 f23 f24 f25 _ _ hP hD hS ls (lv_sub hl [0, 1, 2] rfl) hf
            · have hf := zz_ps hf c51
              refine lv_aload_n hx hb dX7_parse_54 rfl (lv_at hl 0 rfl) ?_
              refine lv_iload_n hx hb dX7_parse_55 rfl (lv_at hl 2 rfl) ?_
              refine lv_iconst (v := (2 : Int32)) hx hb dX7_parse_56 (by decide) ?_
              refine lv_isub hx hb dX7_parse_57 ?_
              obtain ⟨r27, f28, hc29, hf⟩ := zz_b2s hf
              refine zz_ji (va_runV (As := [.int (x2 - (2 : Int32))]) (rest := []) hfx (zc_X7_fail l D tb a0 a1 a2 k1 k2 F (x2 - (2 : Int32)) f23 f24 f25 r27 f28 hc29 H.size) (cwV 1 hts gX7_parse_X7_fail rfl rfl rfl (by decide +kernel) ⟨Nat.le_of_ble_eq_true rfl, Nat.le_of_ble_eq_true rfl⟩) (zz_preV hK hP hD hS hA hE [0, 1, 2] [0, 1] rfl (by decide) rfl 0 rfl rfl rfl) rfl rfl hl.1 rfl (lv_room (Nat.le_of_ble_eq_true rfl)) dX7_parse_58 ⟨Nat.zero_le _, Nat.zero_le _⟩) hP hD hS hA [0, 1, 2] rfl rfl (fun H locs hP hD hS => ?_)
              have hP : va_P D vwCl (zw_7_6 a0 a1 a2 a3 a4 k1 k2 k4 n1 f28 f24 f25 length1 bytes1) H := hP
              have hD : va_D A (zw_7_6 a0 a1 a2 a3 a4 k1 k2 k4 n1 f28 f24 f25 length1 bytes1) := hD
              obtain ⟨rfl, rfl, rfl, rfl⟩ := zz_e4 hf
              exact hret _ _ _ _ dX7_parse_61 hP hD hS
        · have hf := zz_ps hf c27
          refine lv_aload_n hx hb dX7_parse_30 rfl (lv_at hl 0 rfl) ?_
          refine lv_iload_n hx hb dX7_parse_31 rfl (lv_at hl 2 rfl) ?_
          obtain ⟨r30, f31, hc32, hf⟩ := zz_b2s hf
          refine zz_ji (va_runV (As := [.int x2]) (rest := []) hfx (zc_X7_fail l D tb a0 a1 a2 k1 k2 F x2 z3 z4 z5 r30 f31 hc32 H.size) (cwV 1 hts gX7_parse_X7_fail rfl rfl rfl (by decide +kernel) ⟨Nat.le_of_ble_eq_true rfl, Nat.le_of_ble_eq_true rfl⟩) (zz_preV hK hP hD hS hA hE [0, 1, 2] [0, 1] rfl (by decide) rfl 0 rfl rfl rfl) rfl rfl hl.1 rfl (lv_room (Nat.le_of_ble_eq_true rfl)) dX7_parse_32 ⟨Nat.zero_le _, Nat.zero_le _⟩) hP hD hS hA [0, 1, 2] rfl rfl (fun H locs hP hD hS => ?_)
          have hP : va_P D vwCl (zw_7_6 a0 a1 a2 a3 a4 k1 k2 k4 n1 f31 z4 z5 length1 bytes1) H := hP
          have hD : va_D A (zw_7_6 a0 a1 a2 a3 a4 k1 k2 k4 n1 f31 z4 z5 length1 bytes1) := hD
          obtain ⟨rfl, rfl, rfl, rfl⟩ := zz_e4 hf
          exact hret _ _ _ _ dX7_parse_35 hP hD hS
  exact hLkL7_5 F (0 : Int32) f1 wants0 needs0 _ _ hP hD hS ls (lv_sub hl [1, 2, 0] rfl) hf
def rmX8_isShop : Room := { frames := 0, cells := 0, slots := 0, locals := 0 }
set_option maxHeartbeats 4000000 in
set_option maxRecDepth 100000 in
theorem zc_X8_isShop (l : Launch) (D : va_G) (tb : Nat → Nat) (a0 a1 : Nat) (k1 : ClassId) (F : Nat) (u0 : Int32) (count0 : Int32) (width0 : Int32) (shops0 : Int64) (kinds0 : Nat → Int32) (r : Int32) (hf : pX8_isShop F u0 count0 width0 shops0 kinds0 = some r) : zz_Mi l yX8_isShop wsX8_isShop rmX8_isShop D tb [(k1, .int)] [.ref a0, .int u0] (zw_8 a0 a1 k1 count0 width0 shops0 kinds0) (zw_8 a0 a1 k1 count0 width0 shops0 kinds0) r := by
  refine zz_ofz (cc := cX8_isShop) (maxL := 2) (by decide) rfl (Nat.le_of_ble_eq_true rfl) ?_
  intro p e s m args below meth c A Q hfx hK hA hE hret H locs hP hD hS ls hl
  obtain ⟨hx, hb, hml, hown, hts⟩ := id hfx
  have inX8 : ∀ w ∈ u_ws RX8 TX8 4, w ∈ wsX8_isShop := by decide +kernel
  have lk15 := hts (.fieldLink RX8 15 "CatBeat$Ward" "count" "I") (by decide +kernel)
  have lk9 := hts (.fieldLink RX8 9 "CatBeat$Ward" "kinds" "[I") (by decide +kernel)
  have hl : lv_has ls 2 [(0, .ref a0), (1, .int u0)] := hl
  unfold pX8_isShop at hf
  refine lv_iload_n hx hb dX8_isShop_0 rfl (lv_at hl 1 rfl) ?_
  obtain ⟨j27_2, hj27_2, hf⟩ := zz_lts hf
  have Kj27_2 : ∀ (y1 : Int32) (H : Heap) (locs : List Loc), va_P D vwCl (zw_8 a0 a1 k1 count0 width0 shops0 kinds0) H → va_D A (zw_8 a0 a1 k1 count0 width0 shops0 kinds0) → va_S A s.heap H locs → ∀ ls : Array Slot, lv_has ls 2 [] → j27_2 y1 = some r → W p l e rmX8_isShop s m args below meth c H locs 0 0 Q (F0 m 27 ls [.int y1]) := by
    intro y1 H locs hP hD hS ls hl hf
    rw [hj27_2] at hf
    obtain ⟨hg3, hf⟩ := zz_gd hf
    obtain rfl := zz_e1 hf
    exact hret _ _ _ _ (zz_nb hg3) dX8_isShop_27 hP hD hS
  obtain ⟨j26_4, hj26_4, hf⟩ := zz_lts hf
  have Kj26_4 : ∀  (H : Heap) (locs : List Loc), va_P D vwCl (zw_8 a0 a1 k1 count0 width0 shops0 kinds0) H → va_D A (zw_8 a0 a1 k1 count0 width0 shops0 kinds0) → va_S A s.heap H locs → ∀ ls : Array Slot, lv_has ls 2 [] → j26_4 () = some r → W p l e rmX8_isShop s m args below meth c H locs 0 0 Q (F0 m 26 ls []) := by
    intro  H locs hP hD hS ls hl hf
    rw [hj26_4] at hf
    refine lv_iconst (v := (0 : Int32)) hx hb dX8_isShop_26 (by decide) ?_
    exact Kj27_2 (0 : Int32) _ _ hP hD hS ls (lv_sub hl [] rfl) hf
  refine lv_if_lt (tgt := 26) hx hb dX8_isShop_1 (by decide) (fun c1 => ?_) (fun c1 => ?_)
  · have hf := zz_ps hf c1
    exact Kj26_4  _ _ hP hD hS ls (lv_sub hl [] rfl) hf
  · have hf := zz_ng hf c1
    refine lv_iload_n hx hb dX8_isShop_4 rfl (lv_at hl 1 rfl) ?_
    refine lv_aload_n hx hb dX8_isShop_5 rfl (lv_at hl 0 rfl) ?_
    refine va_get (D := D) (ci := 8) (v := .int count0) (C := RX8) (T := TX8) (N := 4) hx hb hts inX8 hown hK hP 0 rfl rfl 1 (by decide) lk15 (fun _ h9 => h9) rfl dX8_isShop_6 ?_
    refine lv_icmp_ge (tgt := 26) hx hb dX8_isShop_9 (by decide) (fun c9 => ?_) (fun c9 => ?_)
    · have hf := zz_ps hf c9
      exact Kj26_4  _ _ hP hD hS ls (lv_sub hl [] rfl) hf
    · have hf := zz_ng hf c9
      refine lv_aload_n hx hb dX8_isShop_12 rfl (lv_at hl 0 rfl) ?_
      refine va_get (D := D) (ci := 8) (v := .ref a1) (C := RX8) (T := TX8) (N := 4) hx hb hts inX8 hown hK hP 0 rfl rfl 0 (by decide) lk9 (fun _ h9 => h9) rfl dX8_isShop_13 ?_
      refine lv_iload_n hx hb dX8_isShop_16 rfl (lv_at hl 1 rfl) ?_
      obtain ⟨hg5, hf⟩ := zz_gd hf
      refine va_iald hx hb hK hP 1 0 rfl rfl hg5 dX8_isShop_17 ?_
      refine lv_iconst (v := (2 : Int32)) hx hb dX8_isShop_18 (by decide) ?_
      refine lv_icmp_ne (tgt := 26) hx hb dX8_isShop_19 (by decide) (fun c19 => ?_) (fun c19 => ?_)
      · have hf := zz_ng hf c19
        exact Kj26_4  _ _ hP hD hS ls (lv_sub hl [] rfl) hf
      · have hf := zz_ps hf c19
        refine lv_iconst (v := (1 : Int32)) hx hb dX8_isShop_22 (by decide) ?_
        refine lv_goto (tgt := 27) hx hb dX8_isShop_23 (by decide) ?_
        exact Kj27_2 (1 : Int32) _ _ hP hD hS ls (lv_sub hl [] rfl) hf
def rmX7_takesBehind : Room := { frames := 1, cells := 0, slots := 0, locals := 26 }
set_option maxHeartbeats 4000000 in
set_option maxRecDepth 100000 in
theorem zc_X7_takesBehind (l : Launch) (D : va_G) (tb : Nat → Nat) (a0 a1 a2 a3 a4 a5 a6 a7 : Nat) (k1 k2 k4 k6 k7 : ClassId) (F : Nat) (u0 : Int32) (count0 : Int32) (wants0 : Nat → Int32) (needs0 : Nat → Int32) (count1 : Int32) (width1 : Int32) (shops1 : Int64) (kinds1 : Nat → Int32) (places2 : Nat → Int32) (views2 : Nat → Int64) (r : Int32) (hf : pX7_takesBehind F u0 count0 wants0 needs0 count1 width1 shops1 kinds1 places2 views2 = some r) : zz_Mi l yX7_takesBehind wsX7_takesBehind rmX7_takesBehind D tb [(k1, .int), (k2, .int), (k4, .int), (k6, .int), (k7, .long)] [.ref a0, .int u0, .ref a3, .ref a5] (zw_7_8_2 a0 a1 a2 a3 a4 a5 a6 a7 k1 k2 k4 k6 k7 count0 wants0 needs0 count1 width1 shops1 kinds1 places2 views2) (zw_7_8_2 a0 a1 a2 a3 a4 a5 a6 a7 k1 k2 k4 k6 k7 count0 wants0 needs0 count1 width1 shops1 kinds1 places2 views2) r := by
  refine zz_ofi (cc := cX7_takesBehind) (maxL := 4) (by decide) rfl (Nat.le_of_ble_eq_true rfl) ?_
  intro p e s m args below meth c A Q hfx hK hA hE hret H locs hP hD hS ls hl
  obtain ⟨hx, hb, hml, hown, hts⟩ := id hfx
  have inX7 : ∀ w ∈ u_ws RX7 TX7 3, w ∈ wsX7_takesBehind := by decide +kernel
  have lk18 := hts (.fieldLink RX7 18 "CatBeat$Thieves" "count" "I") (by decide +kernel)
  have lk9 := hts (.fieldLink RX7 9 "CatBeat$Thieves" "wants" "[I") (by decide +kernel)
  have lk15 := hts (.fieldLink RX7 15 "CatBeat$Thieves" "needs" "[I") (by decide +kernel)
  have hl : lv_has ls 4 [(0, .ref a0), (1, .int u0), (2, .ref a3), (3, .ref a5)] := hl
  unfold pX7_takesBehind at hf
  refine lv_iload_n hx hb dX7_takesBehind_0 rfl (lv_at hl 1 rfl) ?_
  obtain ⟨j25_1, hj25_1, hf⟩ := zz_lts hf
  have Kj25_1 : ∀  (H : Heap) (locs : List Loc), va_P D vwCl (zw_7_8_2 a0 a1 a2 a3 a4 a5 a6 a7 k1 k2 k4 k6 k7 count0 wants0 needs0 count1 width1 shops1 kinds1 places2 views2) H → va_D A (zw_7_8_2 a0 a1 a2 a3 a4 a5 a6 a7 k1 k2 k4 k6 k7 count0 wants0 needs0 count1 width1 shops1 kinds1 places2 views2) → va_S A s.heap H locs → ∀ ls : Array Slot, lv_has ls 4 [] → j25_1 () = some r → W p l e rmX7_takesBehind s m args below meth c H locs 0 0 Q (F0 m 25 ls []) := by
    intro  H locs hP hD hS ls hl hf
    rw [hj25_1] at hf
    refine lv_iconst (v := (-1 : Int32)) hx hb dX7_takesBehind_25 (by decide) ?_
    obtain rfl := zz_e1 hf
    exact hret _ _ _ _ dX7_takesBehind_26 hP hD hS
  refine lv_if_lt (tgt := 25) hx hb dX7_takesBehind_1 (by decide) (fun c1 => ?_) (fun c1 => ?_)
  · have hf := zz_ps hf c1
    exact Kj25_1  _ _ hP hD hS ls (lv_sub hl [] rfl) hf
  · have hf := zz_ng hf c1
    refine lv_iload_n hx hb dX7_takesBehind_4 rfl (lv_at hl 1 rfl) ?_
    refine lv_aload_n hx hb dX7_takesBehind_5 rfl (lv_at hl 0 rfl) ?_
    refine va_get (D := D) (ci := 7) (v := .int count0) (C := RX7) (T := TX7) (N := 3) hx hb hts inX7 hown hK hP 0 rfl rfl 2 (by decide) lk18 (fun _ h9 => h9) rfl dX7_takesBehind_6 ?_
    refine lv_icmp_ge (tgt := 25) hx hb dX7_takesBehind_9 (by decide) (fun c9 => ?_) (fun c9 => ?_)
    · have hf := zz_ps hf c9
      exact Kj25_1  _ _ hP hD hS ls (lv_sub hl [] rfl) hf
    · have hf := zz_ng hf c9
      refine lv_aload_n hx hb dX7_takesBehind_12 rfl (lv_at hl 2 rfl) ?_
      refine lv_aload_n hx hb dX7_takesBehind_13 rfl (lv_at hl 0 rfl) ?_
      refine va_get (D := D) (ci := 7) (v := .ref a1) (C := RX7) (T := TX7) (N := 3) hx hb hts inX7 hown hK hP 0 rfl rfl 0 (by decide) lk9 (fun _ h9 => h9) rfl dX7_takesBehind_14 ?_
      refine lv_iload_n hx hb dX7_takesBehind_17 rfl (lv_at hl 1 rfl) ?_
      obtain ⟨hg2, hf⟩ := zz_gd hf
      refine va_iald hx hb hK hP 1 0 rfl rfl hg2 dX7_takesBehind_18 ?_
      obtain ⟨r3, hc4, hf⟩ := zz_b1s hf
      refine zz_ji (va_runV (As := [.int (wants0 (Int32.toNatClampNeg u0))]) (rest := []) hfx (zc_X8_isShop l D tb a3 a4 k4 F (wants0 (Int32.toNatClampNeg u0)) count1 width1 shops1 kinds1 r3 hc4 H.size) (cwV 1 hts gX7_takesBehind_X8_isShop rfl rfl rfl (by decide +kernel) ⟨Nat.le_of_ble_eq_true rfl, Nat.le_of_ble_eq_true rfl⟩) (zz_preV hK hP hD hS hA hE [3, 4] [2] rfl (by decide) rfl 3 rfl rfl rfl) rfl rfl hl.1 rfl (lv_room (Nat.le_of_ble_eq_true rfl)) dX7_takesBehind_19 ⟨Nat.zero_le _, Nat.zero_le _⟩) hP hD hS hA [3, 4] rfl rfl (fun H locs hP hD hS => ?_)
      have hP : va_P D vwCl (zw_7_8_2 a0 a1 a2 a3 a4 a5 a6 a7 k1 k2 k4 k6 k7 count0 wants0 needs0 count1 width1 shops1 kinds1 places2 views2) H := hP
      have hD : va_D A (zw_7_8_2 a0 a1 a2 a3 a4 a5 a6 a7 k1 k2 k4 k6 k7 count0 wants0 needs0 count1 width1 shops1 kinds1 places2 views2) := hD
      refine lv_if_ne (tgt := 27) hx hb dX7_takesBehind_22 (by decide) (fun c22 => ?_) (fun c22 => ?_)
      · have hf := zz_ng hf c22
        refine lv_aload_n hx hb dX7_takesBehind_27 rfl (lv_at hl 3 rfl) ?_
        refine lv_aload_n hx hb dX7_takesBehind_28 rfl (lv_at hl 0 rfl) ?_
        refine va_get (D := D) (ci := 7) (v := .ref a1) (C := RX7) (T := TX7) (N := 3) hx hb hts inX7 hown hK hP 0 rfl rfl 0 (by decide) lk9 (fun _ h9 => h9) rfl dX7_takesBehind_29 ?_
        refine lv_iload_n hx hb dX7_takesBehind_32 rfl (lv_at hl 1 rfl) ?_
        obtain ⟨hg5, hf⟩ := zz_gd hf
        refine va_iald hx hb hK hP 1 0 rfl rfl hg5 dX7_takesBehind_33 ?_
        refine lv_aload_n hx hb dX7_takesBehind_34 rfl (lv_at hl 0 rfl) ?_
        refine va_get (D := D) (ci := 7) (v := .ref a2) (C := RX7) (T := TX7) (N := 3) hx hb hts inX7 hown hK hP 0 rfl rfl 1 (by decide) lk15 (fun _ h9 => h9) rfl dX7_takesBehind_35 ?_
        refine lv_iload_n hx hb dX7_takesBehind_38 rfl (lv_at hl 1 rfl) ?_
        obtain ⟨hg6, hf⟩ := zz_gd hf
        refine va_iald hx hb hK hP 2 1 rfl rfl hg6 dX7_takesBehind_39 ?_
        obtain ⟨r7, hc8, hf⟩ := zz_b1s hf
        refine zz_ji (va_runV (As := [.int (wants0 (Int32.toNatClampNeg u0)), .int (needs0 (Int32.toNatClampNeg u0))]) (rest := []) hfx (zc_X2_endOfUnseen l D tb a5 a6 a7 k6 k7 F (wants0 (Int32.toNatClampNeg u0)) (needs0 (Int32.toNatClampNeg u0)) places2 views2 r7 hc8 H.size) (cwV 2 hts gX7_takesBehind_X2_endOfUnseen rfl rfl rfl (by decide +kernel) ⟨Nat.le_of_ble_eq_true rfl, Nat.le_of_ble_eq_true rfl⟩) (zz_preV hK hP hD hS hA hE [5, 6, 7] [3, 4] rfl (by decide) rfl 5 rfl rfl rfl) rfl rfl hl.1 rfl (lv_room (Nat.le_of_ble_eq_true rfl)) dX7_takesBehind_40 ⟨Nat.zero_le _, Nat.zero_le _⟩) hP hD hS hA [5, 6, 7] rfl rfl (fun H locs hP hD hS => ?_)
        have hP : va_P D vwCl (zw_7_8_2 a0 a1 a2 a3 a4 a5 a6 a7 k1 k2 k4 k6 k7 count0 wants0 needs0 count1 width1 shops1 kinds1 places2 views2) H := hP
        have hD : va_D A (zw_7_8_2 a0 a1 a2 a3 a4 a5 a6 a7 k1 k2 k4 k6 k7 count0 wants0 needs0 count1 width1 shops1 kinds1 places2 views2) := hD
        obtain rfl := zz_e1 hf
        exact hret _ _ _ _ dX7_takesBehind_43 hP hD hS
      · have hf := zz_ps hf c22
        exact Kj25_1  _ _ hP hD hS ls (lv_sub hl [] rfl) hf
def rmX7_howManyTake : Room := { frames := 2, cells := 0, slots := 0, locals := 49 }
set_option maxHeartbeats 4000000 in
set_option maxRecDepth 100000 in
theorem zc_X7_howManyTake (l : Launch) (D : va_G) (tb : Nat → Nat) (a0 a1 a2 a3 a4 a5 a6 a7 : Nat) (k1 k2 k4 k6 k7 : ClassId) (F : Nat)  (count0 : Int32) (wants0 : Nat → Int32) (needs0 : Nat → Int32) (count1 : Int32) (width1 : Int32) (shops1 : Int64) (kinds1 : Nat → Int32) (places2 : Nat → Int32) (views2 : Nat → Int64) (r : Int32) (hf : pX7_howManyTake F count0 wants0 needs0 count1 width1 shops1 kinds1 places2 views2 = some r) : zz_Mi l yX7_howManyTake wsX7_howManyTake rmX7_howManyTake D tb [(k1, .int), (k2, .int), (k4, .int), (k6, .int), (k7, .long)] [.ref a0, .ref a3, .ref a5] (zw_7_8_2 a0 a1 a2 a3 a4 a5 a6 a7 k1 k2 k4 k6 k7 count0 wants0 needs0 count1 width1 shops1 kinds1 places2 views2) (zw_7_8_2 a0 a1 a2 a3 a4 a5 a6 a7 k1 k2 k4 k6 k7 count0 wants0 needs0 count1 width1 shops1 kinds1 places2 views2) r := by
  refine zz_ofi (cc := cX7_howManyTake) (maxL := 5) (by decide) rfl (Nat.le_of_ble_eq_true rfl) ?_
  intro p e s m args below meth c A Q hfx hK hA hE hret H locs hP hD hS ls hl
  obtain ⟨hx, hb, hml, hown, hts⟩ := id hfx
  have inX7 : ∀ w ∈ u_ws RX7 TX7 3, w ∈ wsX7_howManyTake := by decide +kernel
  have lk18 := hts (.fieldLink RX7 18 "CatBeat$Thieves" "count" "I") (by decide +kernel)
  have hl : lv_has ls 5 [(0, .ref a0), (1, .ref a3), (2, .ref a5)] := hl
  unfold pX7_howManyTake at hf
  refine lv_iconst (v := (0 : Int32)) hx hb dX7_howManyTake_0 (by decide) ?_
  refine lv_istore_n (lv' := [(3, .int (0 : Int32)), (0, .ref a0), (1, .ref a3), (2, .ref a5)]) hx hb dX7_howManyTake_1 rfl hl (by decide) rfl (fun ls hl => ?_)
  refine lv_iconst (v := (0 : Int32)) hx hb dX7_howManyTake_2 (by decide) ?_
  refine lv_istore (lv' := [(4, .int (0 : Int32)), (3, .int (0 : Int32)), (0, .ref a0), (1, .ref a3), (2, .ref a5)]) hx hb dX7_howManyTake_3 hl (by decide) rfl (fun ls hl => ?_)
  have hLkL5_2 : ∀ (n5_2 : Nat) (x1 : Int32) (x2 : Int32) (H : Heap) (locs : List Loc), va_P D vwCl (zw_7_8_2 a0 a1 a2 a3 a4 a5 a6 a7 k1 k2 k4 k6 k7 count0 wants0 needs0 count1 width1 shops1 kinds1 places2 views2) H → va_D A (zw_7_8_2 a0 a1 a2 a3 a4 a5 a6 a7 k1 k2 k4 k6 k7 count0 wants0 needs0 count1 width1 shops1 kinds1 places2 views2) → va_S A s.heap H locs → ∀ ls : Array Slot, lv_has ls 5 [(0, .ref a0), (1, .ref a3), (2, .ref a5), (3, .int x1), (4, .int x2)] → pX7_howManyTake_L5_2 F count0 wants0 needs0 count1 width1 shops1 kinds1 places2 views2 n5_2 x1 x2 = some r → W p l e rmX7_howManyTake s m args below meth c H locs 0 0 Q (F0 m 5 ls []) := by
    intro n5_2
    induction n5_2 with
    | zero =>
      intro x1 x2 H locs hP hD hS ls hl hf
      exact nomatch (show (none : Option _) = some _ from hf)
    | succ n5_2 ihkL5_2 =>
      intro x1 x2 H locs hP hD hS ls hl hf
      rw [pX7_howManyTake_L5_2] at hf
      refine lv_iload hx hb dX7_howManyTake_5 (lv_at hl 4 rfl) ?_
      refine lv_aload_n hx hb dX7_howManyTake_7 rfl (lv_at hl 0 rfl) ?_
      refine va_get (D := D) (ci := 7) (v := .int count0) (C := RX7) (T := TX7) (N := 3) hx hb hts inX7 hown hK hP 0 rfl rfl 2 (by decide) lk18 (fun _ h9 => h9) rfl dX7_howManyTake_8 ?_
      refine lv_icmp_ge (tgt := 35) hx hb dX7_howManyTake_11 (by decide) (fun c11 => ?_) (fun c11 => ?_)
      · have hf := zz_ps hf c11
        refine lv_iload_n hx hb dX7_howManyTake_35 rfl (lv_at hl 3 rfl) ?_
        obtain rfl := zz_e1 hf
        exact hret _ _ _ _ dX7_howManyTake_36 hP hD hS
      · have hf := zz_ng hf c11
        refine lv_aload_n hx hb dX7_howManyTake_14 rfl (lv_at hl 0 rfl) ?_
        refine lv_iload hx hb dX7_howManyTake_15 (lv_at hl 4 rfl) ?_
        refine lv_aload_n hx hb dX7_howManyTake_17 rfl (lv_at hl 1 rfl) ?_
        refine lv_aload_n hx hb dX7_howManyTake_18 rfl (lv_at hl 2 rfl) ?_
        obtain ⟨r4, hc5, hf⟩ := zz_b1s hf
        refine zz_ji (va_runV (As := [.int x2, .ref a3, .ref a5]) (rest := []) hfx (zc_X7_takesBehind l D tb a0 a1 a2 a3 a4 a5 a6 a7 k1 k2 k4 k6 k7 F x2 count0 wants0 needs0 count1 width1 shops1 kinds1 places2 views2 r4 hc5 H.size) (cwV 3 hts gX7_howManyTake_X7_takesBehind rfl rfl rfl (by decide +kernel) ⟨Nat.le_of_ble_eq_true rfl, Nat.le_of_ble_eq_true rfl⟩) (zz_preV hK hP hD hS hA hE [0, 1, 2, 3, 4, 5, 6, 7] [0, 1, 2, 3, 4] rfl (by decide) rfl 0 rfl rfl rfl) rfl rfl hl.1 rfl (lv_room (Nat.le_of_ble_eq_true rfl)) dX7_howManyTake_19 ⟨Nat.zero_le _, Nat.zero_le _⟩) hP hD hS hA [0, 1, 2, 3, 4, 5, 6, 7] rfl rfl (fun H locs hP hD hS => ?_)
        have hP : va_P D vwCl (zw_7_8_2 a0 a1 a2 a3 a4 a5 a6 a7 k1 k2 k4 k6 k7 count0 wants0 needs0 count1 width1 shops1 kinds1 places2 views2) H := hP
        have hD : va_D A (zw_7_8_2 a0 a1 a2 a3 a4 a5 a6 a7 k1 k2 k4 k6 k7 count0 wants0 needs0 count1 width1 shops1 kinds1 places2 views2) := hD
        refine lv_iconst (v := (-1 : Int32)) hx hb dX7_howManyTake_22 (by decide) ?_
        obtain ⟨j29_7, hj29_7, hf⟩ := zz_lts hf
        have Kj29_7 : ∀ (x6 : Int32) (H : Heap) (locs : List Loc), va_P D vwCl (zw_7_8_2 a0 a1 a2 a3 a4 a5 a6 a7 k1 k2 k4 k6 k7 count0 wants0 needs0 count1 width1 shops1 kinds1 places2 views2) H → va_D A (zw_7_8_2 a0 a1 a2 a3 a4 a5 a6 a7 k1 k2 k4 k6 k7 count0 wants0 needs0 count1 width1 shops1 kinds1 places2 views2) → va_S A s.heap H locs → ∀ ls : Array Slot, lv_has ls 5 [(0, .ref a0), (1, .ref a3), (2, .ref a5), (4, .int x2), (3, .int x6)] → j29_7 x6 = some r → W p l e rmX7_howManyTake s m args below meth c H locs 0 0 Q (F0 m 29 ls []) := by
          intro x6 H locs hP hD hS ls hl hf
          rw [hj29_7] at hf
          obtain ⟨v8, hv8, hf⟩ := zz_lts hf
          refine lv_iinc (v := v8) (lv' := [(4, .int v8), (0, .ref a0), (1, .ref a3), (2, .ref a5), (3, .int x6)]) hx hb dX7_howManyTake_29 hl (k := 3) rfl (by rw [hv8]; rfl) (by decide) rfl (fun ls hl => ?_)
          refine lv_goto (tgt := 5) hx hb dX7_howManyTake_32 (by decide) ?_
          exact ihkL5_2 x6 v8 _ _ hP hD hS ls (lv_sub hl [1, 2, 3, 4, 0] rfl) hf
        refine lv_icmp_eq (tgt := 29) hx hb dX7_howManyTake_23 (by decide) (fun c23 => ?_) (fun c23 => ?_)
        · have hf := zz_ps hf c23
          exact Kj29_7 x1 _ _ hP hD hS ls (lv_sub hl [0, 1, 2, 4, 3] rfl) hf
        · have hf := zz_ng hf c23
          obtain ⟨v9, hv9, hf⟩ := zz_lts hf
          refine lv_iinc (v := v9) (lv' := [(3, .int v9), (0, .ref a0), (1, .ref a3), (2, .ref a5), (4, .int x2)]) hx hb dX7_howManyTake_26 hl (k := 3) rfl (by rw [hv9]; rfl) (by decide) rfl (fun ls hl => ?_)
          exact Kj29_7 v9 _ _ hP hD hS ls (lv_sub hl [1, 2, 3, 4, 0] rfl) hf
  exact hLkL5_2 F (0 : Int32) (0 : Int32) _ _ hP hD hS ls (lv_sub hl [2, 3, 4, 1, 0] rfl) hf
def rmX7_takenFrom : Room := { frames := 2, cells := 0, slots := 0, locals := 49 }
set_option maxHeartbeats 4000000 in
set_option maxRecDepth 100000 in
theorem zc_X7_takenFrom (l : Launch) (D : va_G) (tb : Nat → Nat) (a0 a1 a2 a3 a4 a5 a6 a7 : Nat) (k1 k2 k4 k6 k7 : ClassId) (F : Nat) (u2 : Int32) (count0 : Int32) (wants0 : Nat → Int32) (needs0 : Nat → Int32) (count1 : Int32) (width1 : Int32) (shops1 : Int64) (kinds1 : Nat → Int32) (places2 : Nat → Int32) (views2 : Nat → Int64) (r : Int64) (hf : pX7_takenFrom F u2 count0 wants0 needs0 count1 width1 shops1 kinds1 places2 views2 = some r) : zz_Ml l yX7_takenFrom wsX7_takenFrom rmX7_takenFrom D tb [(k1, .int), (k2, .int), (k4, .int), (k6, .int), (k7, .long)] [.ref a0, .ref a3, .ref a5, .int u2] (zw_7_8_2 a0 a1 a2 a3 a4 a5 a6 a7 k1 k2 k4 k6 k7 count0 wants0 needs0 count1 width1 shops1 kinds1 places2 views2) (zw_7_8_2 a0 a1 a2 a3 a4 a5 a6 a7 k1 k2 k4 k6 k7 count0 wants0 needs0 count1 width1 shops1 kinds1 places2 views2) r := by
  refine zz_ofl (cc := cX7_takenFrom) (maxL := 7) (by decide) rfl (Nat.le_of_ble_eq_true rfl) ?_
  intro p e s m args below meth c A Q hfx hK hA hE hret H locs hP hD hS ls hl
  obtain ⟨hx, hb, hml, hown, hts⟩ := id hfx
  have inX7 : ∀ w ∈ u_ws RX7 TX7 3, w ∈ wsX7_takenFrom := by decide +kernel
  have lk18 := hts (.fieldLink RX7 18 "CatBeat$Thieves" "count" "I") (by decide +kernel)
  have lk9 := hts (.fieldLink RX7 9 "CatBeat$Thieves" "wants" "[I") (by decide +kernel)
  have hl : lv_has ls 7 [(0, .ref a0), (1, .ref a3), (2, .ref a5), (3, .int u2)] := hl
  unfold pX7_takenFrom at hf
  refine lv_lconst (v := (0 : Int64)) hx hb dX7_takenFrom_0 (by decide) ?_
  refine lv_lstore (lv' := [(4, .long (0 : Int64)), (0, .ref a0), (1, .ref a3), (2, .ref a5), (3, .int u2)]) hx hb dX7_takenFrom_1 hl (by decide) rfl (fun ls hl => ?_)
  refine lv_iconst (v := (0 : Int32)) hx hb dX7_takenFrom_3 (by decide) ?_
  refine lv_istore (lv' := [(6, .int (0 : Int32)), (4, .long (0 : Int64)), (0, .ref a0), (1, .ref a3), (2, .ref a5), (3, .int u2)]) hx hb dX7_takenFrom_4 hl (by decide) rfl (fun ls hl => ?_)
  have hLkL6_2 : ∀ (n6_2 : Nat) (x1 : Int64) (x2 : Int32) (H : Heap) (locs : List Loc), va_P D vwCl (zw_7_8_2 a0 a1 a2 a3 a4 a5 a6 a7 k1 k2 k4 k6 k7 count0 wants0 needs0 count1 width1 shops1 kinds1 places2 views2) H → va_D A (zw_7_8_2 a0 a1 a2 a3 a4 a5 a6 a7 k1 k2 k4 k6 k7 count0 wants0 needs0 count1 width1 shops1 kinds1 places2 views2) → va_S A s.heap H locs → ∀ ls : Array Slot, lv_has ls 7 [(0, .ref a0), (1, .ref a3), (2, .ref a5), (3, .int u2), (4, .long x1), (6, .int x2)] → pX7_takenFrom_L6_2 u2 F count0 wants0 needs0 count1 width1 shops1 kinds1 places2 views2 n6_2 x1 x2 = some r → W p l e rmX7_takenFrom s m args below meth c H locs 0 0 Q (F0 m 6 ls []) := by
    intro n6_2
    induction n6_2 with
    | zero =>
      intro x1 x2 H locs hP hD hS ls hl hf
      exact nomatch (show (none : Option _) = some _ from hf)
    | succ n6_2 ihkL6_2 =>
      intro x1 x2 H locs hP hD hS ls hl hf
      rw [pX7_takenFrom_L6_2] at hf
      refine lv_iload hx hb dX7_takenFrom_6 (lv_at hl 5 rfl) ?_
      refine lv_aload_n hx hb dX7_takenFrom_8 rfl (lv_at hl 0 rfl) ?_
      refine va_get (D := D) (ci := 7) (v := .int count0) (C := RX7) (T := TX7) (N := 3) hx hb hts inX7 hown hK hP 0 rfl rfl 2 (by decide) lk18 (fun _ h9 => h9) rfl dX7_takenFrom_9 ?_
      refine lv_icmp_ge (tgt := 53) hx hb dX7_takenFrom_12 (by decide) (fun c12 => ?_) (fun c12 => ?_)
      · have hf := zz_ps hf c12
        refine lv_lload hx hb dX7_takenFrom_53 (lv_at hl 4 rfl) ?_
        obtain rfl := zz_e1 hf
        exact hret _ _ _ _ dX7_takenFrom_55 hP hD hS
      · have hf := zz_ng hf c12
        refine lv_iload hx hb dX7_takenFrom_15 (lv_at hl 5 rfl) ?_
        refine lv_iload_n hx hb dX7_takenFrom_17 rfl (lv_at hl 3 rfl) ?_
        obtain ⟨j47_5, hj47_5, hf⟩ := zz_lts hf
        have Kj47_5 : ∀ (x4 : Int64) (H : Heap) (locs : List Loc), va_P D vwCl (zw_7_8_2 a0 a1 a2 a3 a4 a5 a6 a7 k1 k2 k4 k6 k7 count0 wants0 needs0 count1 width1 shops1 kinds1 places2 views2) H → va_D A (zw_7_8_2 a0 a1 a2 a3 a4 a5 a6 a7 k1 k2 k4 k6 k7 count0 wants0 needs0 count1 width1 shops1 kinds1 places2 views2) → va_S A s.heap H locs → ∀ ls : Array Slot, lv_has ls 7 [(0, .ref a0), (1, .ref a3), (2, .ref a5), (3, .int u2), (6, .int x2), (4, .long x4)] → j47_5 x4 = some r → W p l e rmX7_takenFrom s m args below meth c H locs 0 0 Q (F0 m 47 ls []) := by
          intro x4 H locs hP hD hS ls hl hf
          rw [hj47_5] at hf
          obtain ⟨v6, hv6, hf⟩ := zz_lts hf
          refine lv_iinc (v := v6) (lv' := [(6, .int v6), (0, .ref a0), (1, .ref a3), (2, .ref a5), (3, .int u2), (4, .long x4)]) hx hb dX7_takenFrom_47 hl (k := 4) rfl (by rw [hv6]; rfl) (by decide) rfl (fun ls hl => ?_)
          refine lv_goto (tgt := 6) hx hb dX7_takenFrom_50 (by decide) ?_
          exact ihkL6_2 x4 v6 _ _ hP hD hS ls (lv_sub hl [1, 2, 3, 4, 5, 0] rfl) hf
        refine lv_icmp_eq (tgt := 47) hx hb dX7_takenFrom_18 (by decide) (fun c18 => ?_) (fun c18 => ?_)
        · have hf := zz_ps hf c18
          exact Kj47_5 x1 _ _ hP hD hS ls (lv_sub hl [0, 1, 2, 3, 5, 4] rfl) hf
        · have hf := zz_ng hf c18
          refine lv_aload_n hx hb dX7_takenFrom_21 rfl (lv_at hl 0 rfl) ?_
          refine lv_iload hx hb dX7_takenFrom_22 (lv_at hl 5 rfl) ?_
          refine lv_aload_n hx hb dX7_takenFrom_24 rfl (lv_at hl 1 rfl) ?_
          refine lv_aload_n hx hb dX7_takenFrom_25 rfl (lv_at hl 2 rfl) ?_
          obtain ⟨r7, hc8, hf⟩ := zz_b1s hf
          refine zz_ji (va_runV (As := [.int x2, .ref a3, .ref a5]) (rest := []) hfx (zc_X7_takesBehind l D tb a0 a1 a2 a3 a4 a5 a6 a7 k1 k2 k4 k6 k7 F x2 count0 wants0 needs0 count1 width1 shops1 kinds1 places2 views2 r7 hc8 H.size) (cwV 3 hts gX7_takenFrom_X7_takesBehind rfl rfl rfl (by decide +kernel) ⟨Nat.le_of_ble_eq_true rfl, Nat.le_of_ble_eq_true rfl⟩) (zz_preV hK hP hD hS hA hE [0, 1, 2, 3, 4, 5, 6, 7] [0, 1, 2, 3, 4] rfl (by decide) rfl 0 rfl rfl rfl) rfl rfl hl.1 rfl (lv_room (Nat.le_of_ble_eq_true rfl)) dX7_takenFrom_26 ⟨Nat.zero_le _, Nat.zero_le _⟩) hP hD hS hA [0, 1, 2, 3, 4, 5, 6, 7] rfl rfl (fun H locs hP hD hS => ?_)
          have hP : va_P D vwCl (zw_7_8_2 a0 a1 a2 a3 a4 a5 a6 a7 k1 k2 k4 k6 k7 count0 wants0 needs0 count1 width1 shops1 kinds1 places2 views2) H := hP
          have hD : va_D A (zw_7_8_2 a0 a1 a2 a3 a4 a5 a6 a7 k1 k2 k4 k6 k7 count0 wants0 needs0 count1 width1 shops1 kinds1 places2 views2) := hD
          refine lv_iconst (v := (-1 : Int32)) hx hb dX7_takenFrom_29 (by decide) ?_
          refine lv_icmp_eq (tgt := 47) hx hb dX7_takenFrom_30 (by decide) (fun c30 => ?_) (fun c30 => ?_)
          · have hf := zz_ps hf c30
            exact Kj47_5 x1 _ _ hP hD hS ls (lv_sub hl [0, 1, 2, 3, 5, 4] rfl) hf
          · have hf := zz_ng hf c30
            refine lv_lload hx hb dX7_takenFrom_33 (lv_at hl 4 rfl) ?_
            refine lv_lconst (v := (1 : Int64)) hx hb dX7_takenFrom_35 (by decide) ?_
            refine lv_aload_n hx hb dX7_takenFrom_36 rfl (lv_at hl 0 rfl) ?_
            refine va_get (D := D) (ci := 7) (v := .ref a1) (C := RX7) (T := TX7) (N := 3) hx hb hts inX7 hown hK hP 0 rfl rfl 0 (by decide) lk9 (fun _ h9 => h9) rfl dX7_takenFrom_37 ?_
            refine lv_iload hx hb dX7_takenFrom_40 (lv_at hl 5 rfl) ?_
            obtain ⟨hg9, hf⟩ := zz_gd hf
            refine va_iald hx hb hK hP 1 0 rfl rfl hg9 dX7_takenFrom_42 ?_
            refine lv_lshl (v := (zz_lshl (1 : Int64) (wants0 (Int32.toNatClampNeg x2)))) hx hb dX7_takenFrom_43 rfl ?_
            refine lv_lor hx hb dX7_takenFrom_44 ?_
            obtain ⟨v10, hv10, hf⟩ := zz_lts hf
            refine zz_tl hv10 ?_
            refine lv_lstore (lv' := [(4, .long v10), (0, .ref a0), (1, .ref a3), (2, .ref a5), (3, .int u2), (6, .int x2)]) hx hb dX7_takenFrom_45 hl (by decide) rfl (fun ls hl => ?_)
            exact Kj47_5 v10 _ _ hP hD hS ls (lv_sub hl [1, 2, 3, 4, 5, 0] rfl) hf
  exact hLkL6_2 F (0 : Int64) (0 : Int32) _ _ hP hD hS ls (lv_sub hl [2, 3, 4, 5, 1, 0] rfl) hf
def rmX8_clear : Room := { frames := 0, cells := 0, slots := 0, locals := 0 }
set_option maxHeartbeats 4000000 in
set_option maxRecDepth 100000 in
theorem zc_X8_clear (l : Launch) (D : va_G) (tb : Nat → Nat) (a0 a1 : Nat) (k1 : ClassId) (F : Nat)  (count0 : Int32) (width0 : Int32) (shops0 : Int64) (kinds0 : Nat → Int32) (o0 : Int32) (o1 : Int32) (o2 : Int64) (hf : pX8_clear F count0 width0 shops0 kinds0 = some (o0, o1, o2)) : zz_Mv l yX8_clear wsX8_clear rmX8_clear D tb [(k1, .int)] [.ref a0] (zw_8 a0 a1 k1 count0 width0 shops0 kinds0) (zw_8 a0 a1 k1 o0 o1 o2 kinds0)  := by
  refine zz_ofv (cc := cX8_clear) (maxL := 1) (by decide) rfl (Nat.le_of_ble_eq_true rfl) ?_
  intro p e s m args below meth c A Q hfx hK hA hE hret H locs hP hD hS ls hl
  obtain ⟨hx, hb, hml, hown, hts⟩ := id hfx
  have inX8 : ∀ w ∈ u_ws RX8 TX8 4, w ∈ wsX8_clear := by decide +kernel
  have lk15 := hts (.fieldLink RX8 15 "CatBeat$Ward" "count" "I") (by decide +kernel)
  have lk19 := hts (.fieldLink RX8 19 "CatBeat$Ward" "width" "I") (by decide +kernel)
  have lk22 := hts (.fieldLink RX8 22 "CatBeat$Ward" "shops" "J") (by decide +kernel)
  have hl : lv_has ls 1 [(0, .ref a0)] := hl
  unfold pX8_clear at hf
  refine lv_aload_n hx hb dX8_clear_0 rfl (lv_at hl 0 rfl) ?_
  refine lv_iconst (v := (0 : Int32)) hx hb dX8_clear_1 (by decide) ?_
  obtain ⟨f1, hf1, hf⟩ := zz_lts hf
  refine va_put (D := D) (ci := 8) (v := .int (0 : Int32)) (ty := .int) (C := RX8) (T := TX8) (N := 4) hx hb hts inX8 tyX8 tyX8_ok nmX8 hown hK hP hD hS 0 rfl rfl 1 (by decide) lk15 (fun _ h9 => h9) rfl (by decide +kernel) rfl rfl (Nat.le_of_ble_eq_true rfl) dX8_clear_2 (fun H locs hP hD hS => ?_)
  have hP : va_P D vwCl (zw_8 a0 a1 k1 f1 width0 shops0 kinds0) H := by rw [hf1]; exact hP
  have hD : va_D A (zw_8 a0 a1 k1 f1 width0 shops0 kinds0) := by rw [hf1]; exact hD
  refine lv_aload_n hx hb dX8_clear_5 rfl (lv_at hl 0 rfl) ?_
  refine lv_iconst (v := (0 : Int32)) hx hb dX8_clear_6 (by decide) ?_
  obtain ⟨f2, hf2, hf⟩ := zz_lts hf
  refine va_put (D := D) (ci := 8) (v := .int (0 : Int32)) (ty := .int) (C := RX8) (T := TX8) (N := 4) hx hb hts inX8 tyX8 tyX8_ok nmX8 hown hK hP hD hS 0 rfl rfl 2 (by decide) lk19 (fun _ h9 => h9) rfl (by decide +kernel) rfl rfl (Nat.le_of_ble_eq_true rfl) dX8_clear_7 (fun H locs hP hD hS => ?_)
  have hP : va_P D vwCl (zw_8 a0 a1 k1 f1 f2 shops0 kinds0) H := by rw [hf2]; exact hP
  have hD : va_D A (zw_8 a0 a1 k1 f1 f2 shops0 kinds0) := by rw [hf2]; exact hD
  refine lv_aload_n hx hb dX8_clear_10 rfl (lv_at hl 0 rfl) ?_
  refine lv_lconst (v := (0 : Int64)) hx hb dX8_clear_11 (by decide) ?_
  obtain ⟨f3, hf3, hf⟩ := zz_lts hf
  refine va_put (D := D) (ci := 8) (v := .long (0 : Int64)) (ty := .long) (C := RX8) (T := TX8) (N := 4) hx hb hts inX8 tyX8 tyX8_ok nmX8 hown hK hP hD hS 0 rfl rfl 3 (by decide) lk22 (fun _ h9 => h9) rfl (by decide +kernel) rfl rfl (Nat.le_of_ble_eq_true rfl) dX8_clear_12 (fun H locs hP hD hS => ?_)
  have hP : va_P D vwCl (zw_8 a0 a1 k1 f1 f2 f3 kinds0) H := by rw [hf3]; exact hP
  have hD : va_D A (zw_8 a0 a1 k1 f1 f2 f3 kinds0) := by rw [hf3]; exact hD
  obtain ⟨rfl, rfl, rfl⟩ := zz_e3 hf
  exact hret _ _ _ _ dX8_clear_15 hP hD hS
def rmX8_kindOf : Room := { frames := 0, cells := 0, slots := 0, locals := 0 }
set_option maxHeartbeats 4000000 in
set_option maxRecDepth 100000 in
theorem zc_X8_kindOf (l : Launch) (D : va_G) (tb : Nat → Nat)  (F : Nat) (u0 : Int32)  (r : Int32) (hf : pX8_kindOf F u0 = some r) : zz_Mi l yX8_kindOf wsX8_kindOf rmX8_kindOf D tb [] [.int u0] zw_none zw_none r := by
  refine zz_ofi (cc := cX8_kindOf) (maxL := 1) (by decide) rfl (Nat.le_of_ble_eq_true rfl) ?_
  intro p e s m args below meth c A Q hfx hK hA hE hret H locs hP hD hS ls hl
  obtain ⟨hx, hb, hml, hown, hts⟩ := id hfx
  have hl : lv_has ls 1 [(0, .int u0)] := hl
  unfold pX8_kindOf at hf
  refine lv_iload_n hx hb dX8_kindOf_0 rfl (lv_at hl 0 rfl) ?_
  by_cases cs1_0 : u0 = (35 : Int32)
  · have hf := zz_ps hf cs1_0
    refine zz_ti (y := (35 : Int32)) cs1_0.symm ?_
    refine lv_lookup (off := 53) (tgt := 54) hx hb dX8_kindOf_1 (by decide) (by decide) (by decide) ?_
    refine lv_iconst (v := (1 : Int32)) hx hb dX8_kindOf_54 (by decide) ?_
    obtain rfl := zz_e1 hf
    exact hret _ _ _ _ dX8_kindOf_55 hP hD hS
  have hf := zz_ng hf cs1_0
  by_cases cs1_1 : u0 = (46 : Int32)
  · have hf := zz_ps hf cs1_1
    refine zz_ti (y := (46 : Int32)) cs1_1.symm ?_
    refine lv_lookup (off := 51) (tgt := 52) hx hb dX8_kindOf_1 (by decide) (by decide) (by decide) ?_
    refine lv_iconst (v := (0 : Int32)) hx hb dX8_kindOf_52 (by decide) ?_
    obtain rfl := zz_e1 hf
    exact hret _ _ _ _ dX8_kindOf_53 hP hD hS
  have hf := zz_ng hf cs1_1
  by_cases cs1_2 : u0 = (100 : Int32)
  · have hf := zz_ps hf cs1_2
    refine zz_ti (y := (100 : Int32)) cs1_2.symm ?_
    refine lv_lookup (off := 59) (tgt := 60) hx hb dX8_kindOf_1 (by decide) (by decide) (by decide) ?_
    refine lv_iconst (v := (4 : Int32)) hx hb dX8_kindOf_60 (by decide) ?_
    obtain rfl := zz_e1 hf
    exact hret _ _ _ _ dX8_kindOf_61 hP hD hS
  have hf := zz_ng hf cs1_2
  by_cases cs1_3 : u0 = (108 : Int32)
  · have hf := zz_ps hf cs1_3
    refine zz_ti (y := (108 : Int32)) cs1_3.symm ?_
    refine lv_lookup (off := 57) (tgt := 58) hx hb dX8_kindOf_1 (by decide) (by decide) (by decide) ?_
    refine lv_iconst (v := (3 : Int32)) hx hb dX8_kindOf_58 (by decide) ?_
    obtain rfl := zz_e1 hf
    exact hret _ _ _ _ dX8_kindOf_59 hP hD hS
  have hf := zz_ng hf cs1_3
  by_cases cs1_4 : u0 = (115 : Int32)
  · have hf := zz_ps hf cs1_4
    refine zz_ti (y := (115 : Int32)) cs1_4.symm ?_
    refine lv_lookup (off := 55) (tgt := 56) hx hb dX8_kindOf_1 (by decide) (by decide) (by decide) ?_
    refine lv_iconst (v := (2 : Int32)) hx hb dX8_kindOf_56 (by decide) ?_
    obtain rfl := zz_e1 hf
    exact hret _ _ _ _ dX8_kindOf_57 hP hD hS
  have hf := zz_ng hf cs1_4
  refine lv_lookup (off := 61) (tgt := 62) hx hb dX8_kindOf_1 (by decide) ((lv_osw cs1_0 (by decide)).trans ((lv_osw cs1_1 (by decide)).trans ((lv_osw cs1_2 (by decide)).trans ((lv_osw cs1_3 (by decide)).trans ((lv_osw cs1_4 (by decide)).trans (rfl)))))) (by decide) ?_
  refine lv_iconst (v := (-1 : Int32)) hx hb dX8_kindOf_62 (by decide) ?_
  obtain rfl := zz_e1 hf
  exact hret _ _ _ _ dX8_kindOf_63 hP hD hS
def rmX8_fail : Room := { frames := 1, cells := 0, slots := 0, locals := 20 }
set_option maxHeartbeats 4000000 in
set_option maxRecDepth 100000 in
theorem zc_X8_fail (l : Launch) (D : va_G) (tb : Nat → Nat) (a0 a1 : Nat) (k1 : ClassId) (F : Nat) (u0 : Int32) (count0 : Int32) (width0 : Int32) (shops0 : Int64) (kinds0 : Nat → Int32) (r : Int32) (o1 : Int32) (o2 : Int32) (o3 : Int64) (hf : pX8_fail F u0 count0 width0 shops0 kinds0 = some (r, o1, o2, o3)) : zz_Mi l yX8_fail wsX8_fail rmX8_fail D tb [(k1, .int)] [.ref a0, .int u0] (zw_8 a0 a1 k1 count0 width0 shops0 kinds0) (zw_8 a0 a1 k1 o1 o2 o3 kinds0) r := by
  refine zz_ofi (cc := cX8_fail) (maxL := 2) (by decide) rfl (Nat.le_of_ble_eq_true rfl) ?_
  intro p e s m args below meth c A Q hfx hK hA hE hret H locs hP hD hS ls hl
  obtain ⟨hx, hb, hml, hown, hts⟩ := id hfx
  have hl : lv_has ls 2 [(0, .ref a0), (1, .int u0)] := hl
  unfold pX8_fail at hf
  refine lv_aload_n hx hb dX8_fail_0 rfl (lv_at hl 0 rfl) ?_
  obtain ⟨f1, f2, f3, hc4, hf⟩ := zz_b3s hf
  refine zz_jv (va_runV (As := []) (rest := []) hfx (zc_X8_clear l D tb a0 a1 k1 F  count0 width0 shops0 kinds0 f1 f2 f3 hc4 H.size) (cwV 0 hts gX8_fail_X8_clear rfl rfl rfl (by decide +kernel) ⟨Nat.le_of_ble_eq_true rfl, Nat.le_of_ble_eq_true rfl⟩) (zz_preV hK hP hD hS hA hE [0, 1] [0] rfl (by decide) rfl 0 rfl rfl rfl) rfl rfl hl.1 rfl (lv_room (Nat.le_of_ble_eq_true rfl)) dX8_fail_1 ⟨Nat.zero_le _, Nat.zero_le _⟩) hP hD hS hA [0, 1] rfl rfl (fun H locs hP hD hS => ?_)
  have hP : va_P D vwCl (zw_8 a0 a1 k1 f1 f2 f3 kinds0) H := hP
  have hD : va_D A (zw_8 a0 a1 k1 f1 f2 f3 kinds0) := hD
  refine lv_iload_n hx hb dX8_fail_4 rfl (lv_at hl 1 rfl) ?_
  obtain ⟨rfl, rfl, rfl, rfl⟩ := zz_e4 hf
  exact hret _ _ _ _ dX8_fail_5 hP hD hS
def rmX8_addCell : Room := { frames := 0, cells := 0, slots := 0, locals := 0 }
set_option maxHeartbeats 4000000 in
set_option maxRecDepth 100000 in
theorem zc_X8_addCell (l : Launch) (D : va_G) (tb : Nat → Nat) (a0 a1 : Nat) (k1 : ClassId) (F : Nat) (u0 : Int32) (count0 : Int32) (width0 : Int32) (shops0 : Int64) (kinds0 : Nat → Int32) (o0 : Int32) (o1 : Int64) (o2 : Nat → Int32) (hf : pX8_addCell F u0 count0 width0 shops0 kinds0 = some (o0, o1, o2)) : zz_Mv l yX8_addCell wsX8_addCell rmX8_addCell D tb [(k1, .int)] [.ref a0, .int u0] (zw_8 a0 a1 k1 count0 width0 shops0 kinds0) (zw_8 a0 a1 k1 o0 width0 o1 o2)  := by
  refine zz_ofv (cc := cX8_addCell) (maxL := 2) (by decide) rfl (Nat.le_of_ble_eq_true rfl) ?_
  intro p e s m args below meth c A Q hfx hK hA hE hret H locs hP hD hS ls hl
  obtain ⟨hx, hb, hml, hown, hts⟩ := id hfx
  have inX8 : ∀ w ∈ u_ws RX8 TX8 4, w ∈ wsX8_addCell := by decide +kernel
  have lk15 := hts (.fieldLink RX8 15 "CatBeat$Ward" "count" "I") (by decide +kernel)
  have lk9 := hts (.fieldLink RX8 9 "CatBeat$Ward" "kinds" "[I") (by decide +kernel)
  have lk22 := hts (.fieldLink RX8 22 "CatBeat$Ward" "shops" "J") (by decide +kernel)
  have hl : lv_has ls 2 [(0, .ref a0), (1, .int u0)] := hl
  unfold pX8_addCell at hf
  refine lv_aload_n hx hb dX8_addCell_0 rfl (lv_at hl 0 rfl) ?_
  refine va_get (D := D) (ci := 8) (v := .int count0) (C := RX8) (T := TX8) (N := 4) hx hb hts inX8 hown hK hP 0 rfl rfl 1 (by decide) lk15 (fun _ h9 => h9) rfl dX8_addCell_1 ?_
  refine lv_aload_n hx hb dX8_addCell_4 rfl (lv_at hl 0 rfl) ?_
  refine va_get (D := D) (ci := 8) (v := .ref a1) (C := RX8) (T := TX8) (N := 4) hx hb hts inX8 hown hK hP 0 rfl rfl 0 (by decide) lk9 (fun _ h9 => h9) rfl dX8_addCell_5 ?_
  refine va_alen (v := (36 : Int32)) hx hb hK hP 1 0 rfl rfl rfl dX8_addCell_8 ?_
  obtain ⟨j56_4, hj56_4, hf⟩ := zz_lts hf
  have Kj56_4 : ∀ (z1 : Int32) (z2 : Int64) (z3 : Nat → Int32) (H : Heap) (locs : List Loc), va_P D vwCl (zw_8 a0 a1 k1 z1 width0 z2 z3) H → va_D A (zw_8 a0 a1 k1 z1 width0 z2 z3) → va_S A s.heap H locs → ∀ ls : Array Slot, lv_has ls 2 [] → j56_4 z1 z2 z3 = some (o0, o1, o2) → W p l e rmX8_addCell s m args below meth c H locs 0 0 Q (F0 m 56 ls []) := by
    intro z1 z2 z3 H locs hP hD hS ls hl hf
    rw [hj56_4] at hf
    obtain ⟨rfl, rfl, rfl⟩ := zz_e3 hf
    exact hret _ _ _ _ dX8_addCell_56 hP hD hS
  refine lv_icmp_ge (tgt := 56) hx hb dX8_addCell_9 (by decide) (fun c9 => ?_) (fun c9 => ?_)
  · have hf := zz_ps hf c9
    exact Kj56_4 count0 shops0 kinds0 _ _ hP hD hS ls (lv_sub hl [] rfl) hf
  · have hf := zz_ng hf c9
    refine lv_aload_n hx hb dX8_addCell_12 rfl (lv_at hl 0 rfl) ?_
    refine va_get (D := D) (ci := 8) (v := .ref a1) (C := RX8) (T := TX8) (N := 4) hx hb hts inX8 hown hK hP 0 rfl rfl 0 (by decide) lk9 (fun _ h9 => h9) rfl dX8_addCell_13 ?_
    refine lv_aload_n hx hb dX8_addCell_16 rfl (lv_at hl 0 rfl) ?_
    refine va_get (D := D) (ci := 8) (v := .int count0) (C := RX8) (T := TX8) (N := 4) hx hb hts inX8 hown hK hP 0 rfl rfl 1 (by decide) lk15 (fun _ h9 => h9) rfl dX8_addCell_17 ?_
    refine lv_iload_n hx hb dX8_addCell_20 rfl (lv_at hl 1 rfl) ?_
    obtain ⟨hg5, hf⟩ := zz_gd hf
    obtain ⟨f6, hf6, hf⟩ := zz_lts hf
    refine va_iast hx hb hK hP hD hS 1 0 rfl rfl hg5 dX8_addCell_21 (fun H locs hP hD hS => ?_)
    have hP : va_P D vwCl (zw_8 a0 a1 k1 count0 width0 shops0 f6) H := by rw [hf6]; exact hP
    have hD : va_D A (zw_8 a0 a1 k1 count0 width0 shops0 f6) := by rw [hf6]; exact hD
    refine lv_aload_n hx hb dX8_addCell_22 rfl (lv_at hl 0 rfl) ?_
    refine lv_dup hx hb dX8_addCell_23 rfl ?_
    refine va_get (D := D) (ci := 8) (v := .long shops0) (C := RX8) (T := TX8) (N := 4) hx hb hts inX8 hown hK hP 0 rfl rfl 3 (by decide) lk22 (fun _ h9 => h9) rfl dX8_addCell_24 ?_
    refine lv_iload_n hx hb dX8_addCell_27 rfl (lv_at hl 1 rfl) ?_
    refine lv_iconst (v := (2 : Int32)) hx hb dX8_addCell_28 (by decide) ?_
    obtain ⟨v7, hv7, hf⟩ := zz_lts hf
    have hK8 : ∀ ls : Array Slot, lv_has ls 2 [(0, .ref a0)] → W p l e rmX8_addCell s m args below meth c H locs 0 0 Q (F0 m 42 ls [.long v7, .long shops0, .ref a0]) := by
      intro ls hl
      refine lv_lor hx hb dX8_addCell_42 ?_
      obtain ⟨f9, hf9, hf⟩ := zz_lts hf
      refine va_put (D := D) (ci := 8) (v := .long (shops0 ||| v7)) (ty := .long) (C := RX8) (T := TX8) (N := 4) hx hb hts inX8 tyX8 tyX8_ok nmX8 hown hK hP hD hS 0 rfl rfl 3 (by decide) lk22 (fun _ h9 => h9) rfl (by decide +kernel) rfl rfl (Nat.le_of_ble_eq_true rfl) dX8_addCell_43 (fun H locs hP hD hS => ?_)
      have hP : va_P D vwCl (zw_8 a0 a1 k1 count0 width0 f9 f6) H := by rw [hf9]; exact hP
      have hD : va_D A (zw_8 a0 a1 k1 count0 width0 f9 f6) := by rw [hf9]; exact hD
      refine lv_aload_n hx hb dX8_addCell_46 rfl (lv_at hl 0 rfl) ?_
      refine lv_dup hx hb dX8_addCell_47 rfl ?_
      refine va_get (D := D) (ci := 8) (v := .int count0) (C := RX8) (T := TX8) (N := 4) hx hb hts inX8 hown hK hP 0 rfl rfl 1 (by decide) lk15 (fun _ h9 => h9) rfl dX8_addCell_48 ?_
      refine lv_iconst (v := (1 : Int32)) hx hb dX8_addCell_51 (by decide) ?_
      refine lv_iadd hx hb dX8_addCell_52 ?_
      obtain ⟨f10, hf10, hf⟩ := zz_lts hf
      refine va_put (D := D) (ci := 8) (v := .int (count0 + (1 : Int32))) (ty := .int) (C := RX8) (T := TX8) (N := 4) hx hb hts inX8 tyX8 tyX8_ok nmX8 hown hK hP hD hS 0 rfl rfl 1 (by decide) lk15 (fun _ h9 => h9) rfl (by decide +kernel) rfl rfl (Nat.le_of_ble_eq_true rfl) dX8_addCell_53 (fun H locs hP hD hS => ?_)
      have hP : va_P D vwCl (zw_8 a0 a1 k1 f10 width0 f9 f6) H := by rw [hf10]; exact hP
      have hD : va_D A (zw_8 a0 a1 k1 f10 width0 f9 f6) := by rw [hf10]; exact hD
      exact Kj56_4 f10 f9 f6 _ _ hP hD hS ls (lv_sub hl [] rfl) hf
    refine lv_icmp_ne (tgt := 41) hx hb dX8_addCell_29 (by decide) (fun c29 => ?_) (fun c29 => ?_)
    · refine lv_lconst (v := (0 : Int64)) hx hb dX8_addCell_41 (by decide) ?_
      refine zz_tl (show v7 = (0 : Int64) by rw [hv7, if_neg c29]) ?_
      exact hK8 ls (lv_sub hl [0] rfl)
    · refine lv_lconst (v := (1 : Int64)) hx hb dX8_addCell_32 (by decide) ?_
      refine lv_aload_n hx hb dX8_addCell_33 rfl (lv_at hl 0 rfl) ?_
      refine va_get (D := D) (ci := 8) (v := .int count0) (C := RX8) (T := TX8) (N := 4) hx hb hts inX8 hown hK hP 0 rfl rfl 1 (by decide) lk15 (fun _ h9 => h9) rfl dX8_addCell_34 ?_
      refine lv_lshl (v := (zz_lshl (1 : Int64) count0)) hx hb dX8_addCell_37 rfl ?_
      refine lv_goto (tgt := 42) hx hb dX8_addCell_38 (by decide) ?_
      refine zz_tl (show v7 = (zz_lshl (1 : Int64) count0) by rw [hv7, if_pos c29]) ?_
      exact hK8 ls (lv_sub hl [0] rfl)
def rmX8_parse : Room := { frames := 2, cells := 0, slots := 0, locals := 41 }
set_option maxHeartbeats 4000000 in
set_option maxRecDepth 100000 in
theorem zc_X8_parse (l : Launch) (D : va_G) (tb : Nat → Nat) (a0 a1 a2 a3 : Nat) (k1 k3 : ClassId) (n1 : Nat) (F : Nat)  (count0 : Int32) (width0 : Int32) (shops0 : Int64) (kinds0 : Nat → Int32) (length1 : Int32) (bytes1 : Nat → Int32) (r : Int32) (o1 : Int32) (o2 : Int32) (o3 : Int64) (o4 : Nat → Int32) (hf : pX8_parse F n1 count0 width0 shops0 kinds0 length1 bytes1 = some (r, o1, o2, o3, o4)) : zz_Mi l yX8_parse wsX8_parse rmX8_parse D tb [(k1, .int), (k3, .int)] [.ref a0, .ref a2] (zw_8_6 a0 a1 a2 a3 k1 k3 n1 count0 width0 shops0 kinds0 length1 bytes1) (zw_8_6 a0 a1 a2 a3 k1 k3 n1 o1 o2 o3 o4 length1 bytes1) r := by
  refine zz_ofi (cc := cX8_parse) (maxL := 6) (by decide) rfl (Nat.le_of_ble_eq_true rfl) ?_
  intro p e s m args below meth c A Q hfx hK hA hE hret H locs hP hD hS ls hl
  obtain ⟨hx, hb, hml, hown, hts⟩ := id hfx
  have inX6 : ∀ w ∈ u_ws RX6 TX6 2, w ∈ wsX8_parse := by decide +kernel
  have inX8 : ∀ w ∈ u_ws RX8 TX8 4, w ∈ wsX8_parse := by decide +kernel
  have lk29 := hts (.fieldLink RX8 29 "CatBeat$Text" "length" "I") (by decide +kernel)
  have lk19 := hts (.fieldLink RX8 19 "CatBeat$Ward" "width" "I") (by decide +kernel)
  have lk34 := hts (.fieldLink RX8 34 "CatBeat$Text" "bytes" "[I") (by decide +kernel)
  have hl : lv_has ls 6 [(0, .ref a0), (1, .ref a2)] := hl
  unfold pX8_parse at hf
  refine lv_aload_n hx hb dX8_parse_0 rfl (lv_at hl 0 rfl) ?_
  obtain ⟨f1, f2, f3, hc4, hf⟩ := zz_b3s hf
  refine zz_jv (va_runV (As := []) (rest := []) hfx (zc_X8_clear l D tb a0 a1 k1 F  count0 width0 shops0 kinds0 f1 f2 f3 hc4 H.size) (cwV 0 hts gX8_parse_X8_clear rfl rfl rfl (by decide +kernel) ⟨Nat.le_of_ble_eq_true rfl, Nat.le_of_ble_eq_true rfl⟩) (zz_preV hK hP hD hS hA hE [0, 1] [0] rfl (by decide) rfl 0 rfl rfl rfl) rfl rfl hl.1 rfl (lv_room (Nat.le_of_ble_eq_true rfl)) dX8_parse_1 ⟨Nat.zero_le _, Nat.zero_le _⟩) hP hD hS hA [0, 1] rfl rfl (fun H locs hP hD hS => ?_)
  have hP : va_P D vwCl (zw_8_6 a0 a1 a2 a3 k1 k3 n1 f1 f2 f3 kinds0 length1 bytes1) H := hP
  have hD : va_D A (zw_8_6 a0 a1 a2 a3 k1 k3 n1 f1 f2 f3 kinds0 length1 bytes1) := hD
  refine lv_iconst (v := (0 : Int32)) hx hb dX8_parse_4 (by decide) ?_
  refine lv_istore_n (lv' := [(2, .int (0 : Int32)), (0, .ref a0), (1, .ref a2)]) hx hb dX8_parse_5 rfl hl (by decide) rfl (fun ls hl => ?_)
  refine lv_iconst (v := (0 : Int32)) hx hb dX8_parse_6 (by decide) ?_
  refine lv_istore_n (lv' := [(3, .int (0 : Int32)), (2, .int (0 : Int32)), (0, .ref a0), (1, .ref a2)]) hx hb dX8_parse_7 rfl hl (by decide) rfl (fun ls hl => ?_)
  refine lv_iconst (v := (0 : Int32)) hx hb dX8_parse_8 (by decide) ?_
  refine lv_istore (lv' := [(4, .int (0 : Int32)), (3, .int (0 : Int32)), (2, .int (0 : Int32)), (0, .ref a0), (1, .ref a2)]) hx hb dX8_parse_9 hl (by decide) rfl (fun ls hl => ?_)
  have hLkL11_11 : ∀ (n11_11 : Nat) (x5 : Int32) (x6 : Int32) (x7 : Int32) (z8 : Int32) (z9 : Int32) (z10 : Int64) (z11 : Nat → Int32) (H : Heap) (locs : List Loc), va_P D vwCl (zw_8_6 a0 a1 a2 a3 k1 k3 n1 z8 z9 z10 z11 length1 bytes1) H → va_D A (zw_8_6 a0 a1 a2 a3 k1 k3 n1 z8 z9 z10 z11 length1 bytes1) → va_S A s.heap H locs → ∀ ls : Array Slot, lv_has ls 6 [(0, .ref a0), (1, .ref a2), (2, .int x5), (3, .int x6), (4, .int x7)] → pX8_parse_L11_11 n1 F length1 bytes1 n11_11 x5 x6 x7 z8 z9 z10 z11 = some (r, o1, o2, o3, o4) → W p l e rmX8_parse s m args below meth c H locs 0 0 Q (F0 m 11 ls []) := by
    intro n11_11
    induction n11_11 with
    | zero =>
      intro x5 x6 x7 z8 z9 z10 z11 H locs hP hD hS ls hl hf
      exact nomatch (show (none : Option _) = some _ from hf)
    | succ n11_11 ihkL11_11 =>
      intro x5 x6 x7 z8 z9 z10 z11 H locs hP hD hS ls hl hf
      rw [pX8_parse_L11_11] at hf
      refine lv_iload hx hb dX8_parse_11 (lv_at hl 4 rfl) ?_
      refine lv_aload_n hx hb dX8_parse_13 rfl (lv_at hl 1 rfl) ?_
      refine va_get (D := D) (ci := 6) (v := .int length1) (C := RX6) (T := TX6) (N := 2) hx hb hts inX6 hown hK hP 2 rfl rfl 1 (by decide) lk29 (fun _ h9 => h9) rfl dX8_parse_14 ?_
      refine lv_icmp_ge (tgt := 134) hx hb dX8_parse_17 (by decide) (fun c17 => ?_) (fun c17 => ?_)
      · have hf := zz_ps hf c17
        refine lv_aload_n hx hb dX8_parse_134 rfl (lv_at hl 1 rfl) ?_
        refine va_get (D := D) (ci := 6) (v := .int length1) (C := RX6) (T := TX6) (N := 2) hx hb hts inX6 hown hK hP 2 rfl rfl 1 (by decide) lk29 (fun _ h9 => h9) rfl dX8_parse_135 ?_
        obtain ⟨j166_13, hj166_13, hf⟩ := zz_lts hf
        have Kj166_13 : ∀  (H : Heap) (locs : List Loc), va_P D vwCl (zw_8_6 a0 a1 a2 a3 k1 k3 n1 z8 z9 z10 z11 length1 bytes1) H → va_D A (zw_8_6 a0 a1 a2 a3 k1 k3 n1 z8 z9 z10 z11 length1 bytes1) → va_S A s.heap H locs → ∀ ls : Array Slot, lv_has ls 6 [(0, .ref a0), (3, .int x6)] → j166_13 () = some (r, o1, o2, o3, o4) → W p l e rmX8_parse s m args below meth c H locs 0 0 Q (F0 m 166 ls []) := by
          intro  H locs hP hD hS ls hl hf
          rw [hj166_13] at hf
          refine lv_aload_n hx hb dX8_parse_166 rfl (lv_at hl 0 rfl) ?_
          refine lv_iload_n hx hb dX8_parse_167 rfl (lv_at hl 1 rfl) ?_
          obtain ⟨f14, hf14, hf⟩ := zz_lts hf
          refine va_put (D := D) (ci := 8) (v := .int x6) (ty := .int) (C := RX8) (T := TX8) (N := 4) hx hb hts inX8 tyX8 tyX8_ok nmX8 hown hK hP hD hS 0 rfl rfl 2 (by decide) lk19 (fun _ h9 => h9) rfl (by decide +kernel) rfl rfl (Nat.le_of_ble_eq_true rfl) dX8_parse_168 (fun H locs hP hD hS => ?_)
          have hP : va_P D vwCl (zw_8_6 a0 a1 a2 a3 k1 k3 n1 z8 f14 z10 z11 length1 bytes1) H := by rw [hf14]; exact hP
          have hD : va_D A (zw_8_6 a0 a1 a2 a3 k1 k3 n1 z8 f14 z10 z11 length1 bytes1) := by rw [hf14]; exact hD
          refine lv_iconst (v := (-1 : Int32)) hx hb dX8_parse_171 (by decide) ?_
          obtain ⟨rfl, rfl, rfl, rfl, rfl⟩ := zz_e5 hf
          exact hret _ _ _ _ dX8_parse_172 hP hD hS
        refine lv_if_le (tgt := 166) hx hb dX8_parse_138 (by decide) (fun c138 => ?_) (fun c138 => ?_)
        · have hf := zz_ps hf c138
          exact Kj166_13  _ _ hP hD hS ls (lv_sub hl [0, 3] rfl) hf
        · have hf := zz_ng hf c138
          refine lv_iload_n hx hb dX8_parse_141 rfl (lv_at hl 3 rfl) ?_
          obtain ⟨j157_15, hj157_15, hf⟩ := zz_lts hf
          have Kj157_15 : ∀  (H : Heap) (locs : List Loc), va_P D vwCl (zw_8_6 a0 a1 a2 a3 k1 k3 n1 z8 z9 z10 z11 length1 bytes1) H → va_D A (zw_8_6 a0 a1 a2 a3 k1 k3 n1 z8 z9 z10 z11 length1 bytes1) → va_S A s.heap H locs → ∀ ls : Array Slot, lv_has ls 6 [(0, .ref a0), (1, .ref a2)] → j157_15 () = some (r, o1, o2, o3, o4) → W p l e rmX8_parse s m args below meth c H locs 0 0 Q (F0 m 157 ls []) := by
            intro  H locs hP hD hS ls hl hf
            rw [hj157_15] at hf
            refine lv_aload_n hx hb dX8_parse_157 rfl (lv_at hl 0 rfl) ?_
            refine lv_aload_n hx hb dX8_parse_158 rfl (lv_at hl 1 rfl) ?_
            refine va_get (D := D) (ci := 6) (v := .int length1) (C := RX6) (T := TX6) (N := 2) hx hb hts inX6 hown hK hP 2 rfl rfl 1 (by decide) lk29 (fun _ h9 => h9) rfl dX8_parse_159 ?_
            obtain ⟨r16, f17, f18, f19, hc20, hf⟩ := zz_b4s hf
            refine zz_ji (va_runV (As := [.int length1]) (rest := []) hfx (zc_X8_fail l D tb a0 a1 k1 F length1 z8 z9 z10 z11 r16 f17 f18 f19 hc20 H.size) (cwV 1 hts gX8_parse_X8_fail rfl rfl rfl (by decide +kernel) ⟨Nat.le_of_ble_eq_true rfl, Nat.le_of_ble_eq_true rfl⟩) (zz_preV hK hP hD hS hA hE [0, 1] [0] rfl (by decide) rfl 0 rfl rfl rfl) rfl rfl hl.1 rfl (lv_room (Nat.le_of_ble_eq_true rfl)) dX8_parse_162 ⟨Nat.zero_le _, Nat.zero_le _⟩) hP hD hS hA [0, 1] rfl rfl (fun H locs hP hD hS => ?_)
            have hP : va_P D vwCl (zw_8_6 a0 a1 a2 a3 k1 k3 n1 f17 f18 f19 z11 length1 bytes1) H := hP
            have hD : va_D A (zw_8_6 a0 a1 a2 a3 k1 k3 n1 f17 f18 f19 z11 length1 bytes1) := hD
            obtain ⟨rfl, rfl, rfl, rfl, rfl⟩ := zz_e5 hf
            exact hret _ _ _ _ dX8_parse_165 hP hD hS
          refine lv_if_eq (tgt := 157) hx hb dX8_parse_142 (by decide) (fun c142 => ?_) (fun c142 => ?_)
          · have hf := zz_ps hf c142
            exact Kj157_15  _ _ hP hD hS ls (lv_sub hl [0, 1] rfl) hf
          · have hf := zz_ng hf c142
            refine lv_iload_n hx hb dX8_parse_145 rfl (lv_at hl 2 rfl) ?_
            refine lv_if_le (tgt := 166) hx hb dX8_parse_146 (by decide) (fun c146 => ?_) (fun c146 => ?_)
            · have hf := zz_ps hf c146
              exact Kj166_13  _ _ hP hD hS ls (lv_sub hl [0, 3] rfl) hf
            · have hf := zz_ng hf c146
              refine lv_iload_n hx hb dX8_parse_149 rfl (lv_at hl 3 rfl) ?_
              refine lv_aload_n hx hb dX8_parse_150 rfl (lv_at hl 0 rfl) ?_
              refine va_get (D := D) (ci := 8) (v := .int z9) (C := RX8) (T := TX8) (N := 4) hx hb hts inX8 hown hK hP 0 rfl rfl 2 (by decide) lk19 (fun _ h9 => h9) rfl dX8_parse_151 ?_
              refine lv_icmp_ge (tgt := 166) hx hb dX8_parse_154 (by decide) (fun c154 => ?_) (fun c154 => ?_)
              · have hf := zz_ps hf c154
                exact Kj166_13  _ _ hP hD hS ls (lv_sub hl [0, 3] rfl) hf
              · have hf := zz_ng hf c154
                exact Kj157_15  _ _ hP hD hS ls (lv_sub hl [0, 1] rfl) hf
      · have hf := zz_ng hf c17
        refine lv_aload_n hx hb dX8_parse_20 rfl (lv_at hl 1 rfl) ?_
        refine va_get (D := D) (ci := 6) (v := .ref a3) (C := RX6) (T := TX6) (N := 2) hx hb hts inX6 hown hK hP 2 rfl rfl 0 (by decide) lk34 (fun _ h9 => h9) rfl dX8_parse_21 ?_
        refine lv_iload hx hb dX8_parse_24 (lv_at hl 4 rfl) ?_
        obtain ⟨hg21, hf⟩ := zz_gd hf
        refine va_iald hx hb hK hP 3 1 rfl rfl hg21 dX8_parse_26 ?_
        obtain ⟨r22, hc23, hf⟩ := zz_b1s hf
        refine zz_ji (va_runS (As := [.int (bytes1 (Int32.toNatClampNeg x7))]) (rest := []) hfx (zc_X8_kindOf l D tb  F (bytes1 (Int32.toNatClampNeg x7))  r22 hc23 H.size) (va_cwS 1 hts gX8_parse_X8_kindOf rfl rfl rfl (by decide +kernel) ⟨Nat.le_of_ble_eq_true rfl, Nat.le_of_ble_eq_true rfl⟩) (zz_preS hK hP hD hS hA hE [] [] rfl (by decide) rfl) rfl rfl hl.1 rfl (lv_room (Nat.le_of_ble_eq_true rfl)) dX8_parse_27 ⟨Nat.zero_le _, Nat.zero_le _⟩) hP hD hS hA [] rfl rfl (fun H locs hP hD hS => ?_)
        have hP : va_P D vwCl (zw_8_6 a0 a1 a2 a3 k1 k3 n1 z8 z9 z10 z11 length1 bytes1) H := hP
        have hD : va_D A (zw_8_6 a0 a1 a2 a3 k1 k3 n1 z8 z9 z10 z11 length1 bytes1) := hD
        refine lv_istore (lv' := [(5, .int r22), (0, .ref a0), (1, .ref a2), (2, .int x5), (3, .int x6), (4, .int x7)]) hx hb dX8_parse_30 hl (by decide) rfl (fun ls hl => ?_)
        refine lv_iload_n hx hb dX8_parse_32 rfl (lv_at hl 3 rfl) ?_
        refine lv_bipush (v := (6 : Int32)) hx hb dX8_parse_33 (by decide) ?_
        refine lv_icmp_ne (tgt := 45) hx hb dX8_parse_35 (by decide) (fun c35 => ?_) (fun c35 => ?_)
        · have hf := zz_ng hf c35
          refine lv_iload hx hb dX8_parse_45 (lv_at hl 0 rfl) ?_
          refine lv_iconst (v := (-1 : Int32)) hx hb dX8_parse_47 (by decide) ?_
          obtain ⟨j128_30, hj128_30, hf⟩ := zz_lts hf
          have Kj128_30 : ∀ (x24 : Int32) (x25 : Int32) (z26 : Int32) (z27 : Int32) (z28 : Int64) (z29 : Nat → Int32) (H : Heap) (locs : List Loc), va_P D vwCl (zw_8_6 a0 a1 a2 a3 k1 k3 n1 z26 z27 z28 z29 length1 bytes1) H → va_D A (zw_8_6 a0 a1 a2 a3 k1 k3 n1 z26 z27 z28 z29 length1 bytes1) → va_S A s.heap H locs → ∀ ls : Array Slot, lv_has ls 6 [(0, .ref a0), (1, .ref a2), (4, .int x7), (2, .int x24), (3, .int x25)] → j128_30 x24 x25 z26 z27 z28 z29 = some (r, o1, o2, o3, o4) → W p l e rmX8_parse s m args below meth c H locs 0 0 Q (F0 m 128 ls []) := by
            intro x24 x25 z26 z27 z28 z29 H locs hP hD hS ls hl hf
            rw [hj128_30] at hf
            obtain ⟨v31, hv31, hf⟩ := zz_lts hf
            refine lv_iinc (v := v31) (lv' := [(4, .int v31), (0, .ref a0), (1, .ref a2), (2, .int x24), (3, .int x25)]) hx hb dX8_parse_128 hl (k := 2) rfl (by rw [hv31]; rfl) (by decide) rfl (fun ls hl => ?_)
            refine lv_goto (tgt := 11) hx hb dX8_parse_131 (by decide) ?_
            exact ihkL11_11 x24 x25 v31 z26 z27 z28 z29 _ _ hP hD hS ls (lv_sub hl [1, 2, 3, 4, 0] rfl) hf
          obtain ⟨j80_32, hj80_32, hf⟩ := zz_lts hf
          have Kj80_32 : ∀  (H : Heap) (locs : List Loc), va_P D vwCl (zw_8_6 a0 a1 a2 a3 k1 k3 n1 z8 z9 z10 z11 length1 bytes1) H → va_D A (zw_8_6 a0 a1 a2 a3 k1 k3 n1 z8 z9 z10 z11 length1 bytes1) → va_S A s.heap H locs → ∀ ls : Array Slot, lv_has ls 6 [(0, .ref a0), (1, .ref a2), (2, .int x5), (3, .int x6), (4, .int x7)] → j80_32 () = some (r, o1, o2, o3, o4) → W p l e rmX8_parse s m args below meth c H locs 0 0 Q (F0 m 80 ls []) := by
            intro  H locs hP hD hS ls hl hf
            rw [hj80_32] at hf
            refine lv_aload_n hx hb dX8_parse_80 rfl (lv_at hl 1 rfl) ?_
            refine va_get (D := D) (ci := 6) (v := .ref a3) (C := RX6) (T := TX6) (N := 2) hx hb hts inX6 hown hK hP 2 rfl rfl 0 (by decide) lk34 (fun _ h9 => h9) rfl dX8_parse_81 ?_
            refine lv_iload hx hb dX8_parse_84 (lv_at hl 4 rfl) ?_
            obtain ⟨hg33, hf⟩ := zz_gd hf
            refine va_iald hx hb hK hP 3 1 rfl rfl hg33 dX8_parse_86 ?_
            refine lv_bipush (v := (59 : Int32)) hx hb dX8_parse_87 (by decide) ?_
            obtain ⟨j121_34, hj121_34, hf⟩ := zz_lts hf
            have Kj121_34 : ∀  (H : Heap) (locs : List Loc), va_P D vwCl (zw_8_6 a0 a1 a2 a3 k1 k3 n1 z8 z9 z10 z11 length1 bytes1) H → va_D A (zw_8_6 a0 a1 a2 a3 k1 k3 n1 z8 z9 z10 z11 length1 bytes1) → va_S A s.heap H locs → ∀ ls : Array Slot, lv_has ls 6 [(0, .ref a0), (4, .int x7)] → j121_34 () = some (r, o1, o2, o3, o4) → W p l e rmX8_parse s m args below meth c H locs 0 0 Q (F0 m 121 ls []) := by
              intro  H locs hP hD hS ls hl hf
              rw [hj121_34] at hf
              refine lv_aload_n hx hb dX8_parse_121 rfl (lv_at hl 0 rfl) ?_
              refine lv_iload hx hb dX8_parse_122 (lv_at hl 1 rfl) ?_
              obtain ⟨r35, f36, f37, f38, hc39, hf⟩ := zz_b4s hf
              refine zz_ji (va_runV (As := [.int x7]) (rest := []) hfx (zc_X8_fail l D tb a0 a1 k1 F x7 z8 z9 z10 z11 r35 f36 f37 f38 hc39 H.size) (cwV 1 hts gX8_parse_X8_fail rfl rfl rfl (by decide +kernel) ⟨Nat.le_of_ble_eq_true rfl, Nat.le_of_ble_eq_true rfl⟩) (zz_preV hK hP hD hS hA hE [0, 1] [0] rfl (by decide) rfl 0 rfl rfl rfl) rfl rfl hl.1 rfl (lv_room (Nat.le_of_ble_eq_true rfl)) dX8_parse_124 ⟨Nat.zero_le _, Nat.zero_le _⟩) hP hD hS hA [0, 1] rfl rfl (fun H locs hP hD hS => ?_)
              have hP : va_P D vwCl (zw_8_6 a0 a1 a2 a3 k1 k3 n1 f36 f37 f38 z11 length1 bytes1) H := hP
              have hD : va_D A (zw_8_6 a0 a1 a2 a3 k1 k3 n1 f36 f37 f38 z11 length1 bytes1) := hD
              obtain ⟨rfl, rfl, rfl, rfl, rfl⟩ := zz_e5 hf
              exact hret _ _ _ _ dX8_parse_127 hP hD hS
            refine lv_icmp_ne (tgt := 121) hx hb dX8_parse_89 (by decide) (fun c89 => ?_) (fun c89 => ?_)
            · have hf := zz_ng hf c89
              exact Kj121_34  _ _ hP hD hS ls (lv_sub hl [0, 4] rfl) hf
            · have hf := zz_ps hf c89
              refine lv_iload_n hx hb dX8_parse_92 rfl (lv_at hl 3 rfl) ?_
              refine lv_if_le (tgt := 121) hx hb dX8_parse_93 (by decide) (fun c93 => ?_) (fun c93 => ?_)
              · have hf := zz_ps hf c93
                exact Kj121_34  _ _ hP hD hS ls (lv_sub hl [0, 4] rfl) hf
              · have hf := zz_ng hf c93
                refine lv_iload_n hx hb dX8_parse_96 rfl (lv_at hl 2 rfl) ?_
                obtain ⟨j108_40, hj108_40, hf⟩ := zz_lts hf
                have Kj108_40 : ∀  (H : Heap) (locs : List Loc), va_P D vwCl (zw_8_6 a0 a1 a2 a3 k1 k3 n1 z8 z9 z10 z11 length1 bytes1) H → va_D A (zw_8_6 a0 a1 a2 a3 k1 k3 n1 z8 z9 z10 z11 length1 bytes1) → va_S A s.heap H locs → ∀ ls : Array Slot, lv_has ls 6 [(0, .ref a0), (1, .ref a2), (2, .int x5), (3, .int x6), (4, .int x7)] → j108_40 () = some (r, o1, o2, o3, o4) → W p l e rmX8_parse s m args below meth c H locs 0 0 Q (F0 m 108 ls []) := by
                  intro  H locs hP hD hS ls hl hf
                  rw [hj108_40] at hf
                  refine lv_aload_n hx hb dX8_parse_108 rfl (lv_at hl 0 rfl) ?_
                  refine lv_iload_n hx hb dX8_parse_109 rfl (lv_at hl 3 rfl) ?_
                  obtain ⟨f41, hf41, hf⟩ := zz_lts hf
                  refine va_put (D := D) (ci := 8) (v := .int x6) (ty := .int) (C := RX8) (T := TX8) (N := 4) hx hb hts inX8 tyX8 tyX8_ok nmX8 hown hK hP hD hS 0 rfl rfl 2 (by decide) lk19 (fun _ h9 => h9) rfl (by decide +kernel) rfl rfl (Nat.le_of_ble_eq_true rfl) dX8_parse_110 (fun H locs hP hD hS => ?_)
                  have hP : va_P D vwCl (zw_8_6 a0 a1 a2 a3 k1 k3 n1 z8 f41 z10 z11 length1 bytes1) H := by rw [hf41]; exact hP
                  have hD : va_D A (zw_8_6 a0 a1 a2 a3 k1 k3 n1 z8 f41 z10 z11 length1 bytes1) := by rw [hf41]; exact hD
                  obtain ⟨v42, hv42, hf⟩ := zz_lts hf
                  refine lv_iinc (v := v42) (lv' := [(2, .int v42), (0, .ref a0), (1, .ref a2), (3, .int x6), (4, .int x7)]) hx hb dX8_parse_113 hl (k := 2) rfl (by rw [hv42]; rfl) (by decide) rfl (fun ls hl => ?_)
                  refine lv_iconst (v := (0 : Int32)) hx hb dX8_parse_116 (by decide) ?_
                  refine lv_istore_n (lv' := [(3, .int (0 : Int32)), (2, .int v42), (0, .ref a0), (1, .ref a2), (4, .int x7)]) hx hb dX8_parse_117 rfl hl (by decide) rfl (fun ls hl => ?_)
                  refine lv_goto (tgt := 128) hx hb dX8_parse_118 (by decide) ?_
                  exact Kj128_30 v42 (0 : Int32) z8 f41 z10 z11 _ _ hP hD hS ls (lv_sub hl [2, 3, 4, 1, 0] rfl) hf
                refine lv_if_eq (tgt := 108) hx hb dX8_parse_97 (by decide) (fun c97 => ?_) (fun c97 => ?_)
                · have hf := zz_ps hf c97
                  exact Kj108_40  _ _ hP hD hS ls (lv_sub hl [0, 1, 2, 3, 4] rfl) hf
                · have hf := zz_ng hf c97
                  refine lv_iload_n hx hb dX8_parse_100 rfl (lv_at hl 3 rfl) ?_
                  refine lv_aload_n hx hb dX8_parse_101 rfl (lv_at hl 0 rfl) ?_
                  refine va_get (D := D) (ci := 8) (v := .int z9) (C := RX8) (T := TX8) (N := 4) hx hb hts inX8 hown hK hP 0 rfl rfl 2 (by decide) lk19 (fun _ h9 => h9) rfl dX8_parse_102 ?_
                  refine lv_icmp_ne (tgt := 121) hx hb dX8_parse_105 (by decide) (fun c105 => ?_) (fun c105 => ?_)
                  · have hf := zz_ng hf c105
                    exact Kj121_34  _ _ hP hD hS ls (lv_sub hl [0, 4] rfl) hf
                  · have hf := zz_ps hf c105
                    exact Kj108_40  _ _ hP hD hS ls (lv_sub hl [0, 1, 2, 3, 4] rfl) hf
          refine lv_icmp_eq (tgt := 80) hx hb dX8_parse_48 (by decide) (fun c48 => ?_) (fun c48 => ?_)
          · have hf := zz_ps hf c48
            exact Kj80_32  _ _ hP hD hS ls (lv_sub hl [1, 2, 3, 4, 5] rfl) hf
          · have hf := zz_ng hf c48
            refine lv_iload_n hx hb dX8_parse_51 rfl (lv_at hl 4 rfl) ?_
            refine lv_iload_n hx hb dX8_parse_52 rfl (lv_at hl 3 rfl) ?_
            obtain ⟨v43, hv43, hf⟩ := zz_lts hf
            have hK44 : ∀ ls : Array Slot, lv_has ls 6 [(5, .int r22), (0, .ref a0), (1, .ref a2), (2, .int x5), (3, .int x6), (4, .int x7)] → W p l e rmX8_parse s m args below meth c H locs 0 0 Q (F0 m 65 ls [.int v43, .int x6]) := by
              intro ls hl
              refine lv_icmp_ge (tgt := 80) hx hb dX8_parse_65 (by decide) (fun c65 => ?_) (fun c65 => ?_)
              · have hf := zz_ps hf c65
                exact Kj80_32  _ _ hP hD hS ls (lv_sub hl [1, 2, 3, 4, 5] rfl) hf
              · have hf := zz_ng hf c65
                refine lv_aload_n hx hb dX8_parse_68 rfl (lv_at hl 1 rfl) ?_
                refine lv_iload hx hb dX8_parse_69 (lv_at hl 0 rfl) ?_
                obtain ⟨f45, f46, f47, hc48, hf⟩ := zz_b3s hf
                refine zz_jv (va_runV (As := [.int r22]) (rest := []) hfx (zc_X8_addCell l D tb a0 a1 k1 F r22 z8 z9 z10 z11 f45 f46 f47 hc48 H.size) (cwV 1 hts gX8_parse_X8_addCell rfl rfl rfl (by decide +kernel) ⟨Nat.le_of_ble_eq_true rfl, Nat.le_of_ble_eq_true rfl⟩) (zz_preV hK hP hD hS hA hE [0, 1] [0] rfl (by decide) rfl 0 rfl rfl rfl) rfl rfl hl.1 rfl (lv_room (Nat.le_of_ble_eq_true rfl)) dX8_parse_71 ⟨Nat.zero_le _, Nat.zero_le _⟩) hP hD hS hA [0, 1] rfl rfl (fun H locs hP hD hS => ?_)
                have hP : va_P D vwCl (zw_8_6 a0 a1 a2 a3 k1 k3 n1 f45 z9 f46 f47 length1 bytes1) H := hP
                have hD : va_D A (zw_8_6 a0 a1 a2 a3 k1 k3 n1 f45 z9 f46 f47 length1 bytes1) := hD
                obtain ⟨v49, hv49, hf⟩ := zz_lts hf
                refine lv_iinc (v := v49) (lv' := [(3, .int v49), (5, .int r22), (0, .ref a0), (1, .ref a2), (2, .int x5), (4, .int x7)]) hx hb dX8_parse_74 hl (k := 4) rfl (by rw [hv49]; rfl) (by decide) rfl (fun ls hl => ?_)
                refine lv_goto (tgt := 128) hx hb dX8_parse_77 (by decide) ?_
                exact Kj128_30 x5 v49 f45 z9 f46 f47 _ _ hP hD hS ls (lv_sub hl [2, 3, 5, 4, 0] rfl) hf
            refine lv_if_ne (tgt := 61) hx hb dX8_parse_53 (by decide) (fun c53 => ?_) (fun c53 => ?_)
            · refine lv_aload_n hx hb dX8_parse_61 rfl (lv_at hl 1 rfl) ?_
              refine va_get (D := D) (ci := 8) (v := .int z9) (C := RX8) (T := TX8) (N := 4) hx hb hts inX8 hown hK hP 0 rfl rfl 2 (by decide) lk19 (fun _ h9 => h9) rfl dX8_parse_62 ?_
              refine zz_ti (show v43 = z9 by rw [hv43, if_neg c53]) ?_
              exact hK44 ls (lv_sub hl [0, 1, 2, 3, 4, 5] rfl)
            · refine lv_bipush (v := (6 : Int32)) hx hb dX8_parse_56 (by decide) ?_
              refine lv_goto (tgt := 65) hx hb dX8_parse_58 (by decide) ?_
              refine zz_ti (show v43 = (6 : Int32) by rw [hv43, if_pos c53]) ?_
              exact hK44 ls (lv_sub hl [0, 1, 2, 3, 4, 5] rfl)
        · have hf := zz_ps hf c35
          refine lv_aload_n hx hb dX8_parse_38 rfl (lv_at hl 1 rfl) ?_
          refine lv_iload hx hb dX8_parse_39 (lv_at hl 5 rfl) ?_
          obtain ⟨r50, f51, f52, f53, hc54, hf⟩ := zz_b4s hf
          refine zz_ji (va_runV (As := [.int x7]) (rest := []) hfx (zc_X8_fail l D tb a0 a1 k1 F x7 z8 z9 z10 z11 r50 f51 f52 f53 hc54 H.size) (cwV 1 hts gX8_parse_X8_fail rfl rfl rfl (by decide +kernel) ⟨Nat.le_of_ble_eq_true rfl, Nat.le_of_ble_eq_true rfl⟩) (zz_preV hK hP hD hS hA hE [0, 1] [0] rfl (by decide) rfl 0 rfl rfl rfl) rfl rfl hl.1 rfl (lv_room (Nat.le_of_ble_eq_true rfl)) dX8_parse_41 ⟨Nat.zero_le _, Nat.zero_le _⟩) hP hD hS hA [0, 1] rfl rfl (fun H locs hP hD hS => ?_)
          have hP : va_P D vwCl (zw_8_6 a0 a1 a2 a3 k1 k3 n1 f51 f52 f53 z11 length1 bytes1) H := hP
          have hD : va_D A (zw_8_6 a0 a1 a2 a3 k1 k3 n1 f51 f52 f53 z11 length1 bytes1) := hD
          obtain ⟨rfl, rfl, rfl, rfl, rfl⟩ := zz_e5 hf
          exact hret _ _ _ _ dX8_parse_44 hP hD hS
  exact hLkL11_11 F (0 : Int32) (0 : Int32) (0 : Int32) f1 f2 f3 kinds0 _ _ hP hD hS ls (lv_sub hl [3, 4, 2, 1, 0] rfl) hf
def rmX8_isInView : Room := { frames := 2, cells := 0, slots := 0, locals := 50 }
set_option maxHeartbeats 4000000 in
set_option maxRecDepth 100000 in
theorem zc_X8_isInView (l : Launch) (D : va_G) (tb : Nat → Nat) (a0 a1 : Nat) (k1 : ClassId) (F : Nat) (u0 : Int32) (u1 : Int32) (u2 : Int32) (count0 : Int32) (width0 : Int32) (shops0 : Int64) (kinds0 : Nat → Int32) (r : Int32) (hf : pX8_isInView F u0 u1 u2 count0 width0 shops0 kinds0 = some r) : zz_Mi l yX8_isInView wsX8_isInView rmX8_isInView D tb [(k1, .int)] [.ref a0, .int u0, .int u1, .int u2] (zw_8 a0 a1 k1 count0 width0 shops0 kinds0) (zw_8 a0 a1 k1 count0 width0 shops0 kinds0) r := by
  refine zz_ofz (cc := cX8_isInView) (maxL := 4) (by decide) rfl (Nat.le_of_ble_eq_true rfl) ?_
  intro p e s m args below meth c A Q hfx hK hA hE hret H locs hP hD hS ls hl
  obtain ⟨hx, hb, hml, hown, hts⟩ := id hfx
  have hl : lv_has ls 4 [(0, .ref a0), (1, .int u0), (2, .int u1), (3, .int u2)] := hl
  unfold pX8_isInView at hf
  refine lv_aload_n hx hb dX8_isInView_0 rfl (lv_at hl 0 rfl) ?_
  refine lv_iload_n hx hb dX8_isInView_1 rfl (lv_at hl 1 rfl) ?_
  refine lv_iload_n hx hb dX8_isInView_2 rfl (lv_at hl 3 rfl) ?_
  obtain ⟨r1, hc2, hf⟩ := zz_b1s hf
  refine zz_jl (va_runV (As := [.int u0, .int u2]) (rest := []) hfx (zc_X8_viewFrom l D tb a0 a1 k1 F u0 u2 count0 width0 shops0 kinds0 r1 hc2 H.size) (cwV 2 hts gX8_isInView_X8_viewFrom rfl rfl rfl (by decide +kernel) ⟨Nat.le_of_ble_eq_true rfl, Nat.le_of_ble_eq_true rfl⟩) (zz_preV hK hP hD hS hA hE [0, 1] [0] rfl (by decide) rfl 0 rfl rfl rfl) rfl rfl hl.1 rfl (lv_room (Nat.le_of_ble_eq_true rfl)) dX8_isInView_3 ⟨Nat.zero_le _, Nat.zero_le _⟩) hP hD hS hA [0, 1] rfl rfl (fun H locs hP hD hS => ?_)
  have hP : va_P D vwCl (zw_8 a0 a1 k1 count0 width0 shops0 kinds0) H := hP
  have hD : va_D A (zw_8 a0 a1 k1 count0 width0 shops0 kinds0) := hD
  refine lv_iload_n hx hb dX8_isInView_6 rfl (lv_at hl 2 rfl) ?_
  refine lv_lushr (v := (zz_lushr r1 u1)) hx hb dX8_isInView_7 rfl ?_
  refine lv_lconst (v := (1 : Int64)) hx hb dX8_isInView_8 (by decide) ?_
  refine lv_land hx hb dX8_isInView_9 ?_
  refine lv_lconst (v := (0 : Int64)) hx hb dX8_isInView_10 (by decide) ?_
  refine W.lcmp hx hb dX8_isInView_11 ?_
  obtain ⟨v3, hv3, hf⟩ := zz_lts hf
  have hK4 : ∀ ls : Array Slot, lv_has ls 4 [] → W p l e rmX8_isInView s m args below meth c H locs 0 0 Q (F0 m 20 ls [.int v3]) := by
    intro ls hl
    obtain rfl := zz_e1 hf
    exact hret _ _ _ _ (by rw [hv3]; (repeat' split) <;> rfl) dX8_isInView_20 hP hD hS
  refine lv_if_eq (tgt := 19) hx hb dX8_isInView_12 (by decide) (fun c12 => ?_) (fun c12 => ?_)
  · refine lv_iconst (v := (0 : Int32)) hx hb dX8_isInView_19 (by decide) ?_
    refine zz_ti (show v3 = (0 : Int32) by rw [hv3, if_pos c12]) ?_
    exact hK4 ls (lv_sub hl [] rfl)
  · refine lv_iconst (v := (1 : Int32)) hx hb dX8_isInView_15 (by decide) ?_
    refine lv_goto (tgt := 20) hx hb dX8_isInView_16 (by decide) ?_
    refine zz_ti (show v3 = (1 : Int32) by rw [hv3, if_neg c12]) ?_
    exact hK4 ls (lv_sub hl [] rfl)
def rmJ6_bitCount_0f7a4 : Room := { frames := 0, cells := 0, slots := 0, locals := 0 }
set_option maxHeartbeats 4000000 in
set_option maxRecDepth 100000 in
theorem zc_J6_bitCount_0f7a4 (l : Launch) (D : va_G) (tb : Nat → Nat)  (F : Nat) (u0 : Int32)  (r : Int32) (hf : pJ6_bitCount_0f7a4 F u0 = some r) : zz_Mi l yJ6_bitCount_0f7a4 wsJ6_bitCount_0f7a4 rmJ6_bitCount_0f7a4 D tb [] [.int u0] zw_none zw_none r := by
  refine zz_ofi (cc := cJ6_bitCount_0f7a4) (maxL := 1) (by decide) rfl (Nat.le_of_ble_eq_true rfl) ?_
  intro p e s m args below meth c A Q hfx hK hA hE hret H locs hP hD hS ls hl
  obtain ⟨hx, hb, hml, hown, hts⟩ := id hfx
  have kc265 := hts (.constant RJ6 265 (1431655765)) (by decide +kernel)
  have kc266 := hts (.constant RJ6 266 (858993459)) (by decide +kernel)
  have kc267 := hts (.constant RJ6 267 (252645135)) (by decide +kernel)
  have hl : lv_has ls 1 [(0, .int u0)] := hl
  unfold pJ6_bitCount_0f7a4 at hf
  refine lv_iload_n hx hb dJ6_bitCount_0f7a4_0 rfl (lv_at hl 0 rfl) ?_
  refine lv_iload_n hx hb dJ6_bitCount_0f7a4_1 rfl (lv_at hl 0 rfl) ?_
  refine lv_iconst (v := (1 : Int32)) hx hb dJ6_bitCount_0f7a4_2 (by decide) ?_
  refine lv_iushr (v := (zz_ushr u0 (1 : Int32))) hx hb dJ6_bitCount_0f7a4_3 rfl ?_
  refine lv_ldcw (v := (1431655765 : Int32)) hx hb hown kc265 dJ6_bitCount_0f7a4_4 ?_
  refine lv_iand hx hb dJ6_bitCount_0f7a4_7 ?_
  refine lv_isub hx hb dJ6_bitCount_0f7a4_8 ?_
  obtain ⟨v1, hv1, hf⟩ := zz_lts hf
  refine zz_ti hv1 ?_
  refine lv_istore_n (lv' := [(0, .int v1)]) hx hb dJ6_bitCount_0f7a4_9 rfl hl (by decide) rfl (fun ls hl => ?_)
  refine lv_iload_n hx hb dJ6_bitCount_0f7a4_10 rfl (lv_at hl 0 rfl) ?_
  refine lv_ldcw (v := (858993459 : Int32)) hx hb hown kc266 dJ6_bitCount_0f7a4_11 ?_
  refine lv_iand hx hb dJ6_bitCount_0f7a4_14 ?_
  refine lv_iload_n hx hb dJ6_bitCount_0f7a4_15 rfl (lv_at hl 0 rfl) ?_
  refine lv_iconst (v := (2 : Int32)) hx hb dJ6_bitCount_0f7a4_16 (by decide) ?_
  refine lv_iushr (v := (zz_ushr v1 (2 : Int32))) hx hb dJ6_bitCount_0f7a4_17 rfl ?_
  refine lv_ldcw (v := (858993459 : Int32)) hx hb hown kc266 dJ6_bitCount_0f7a4_18 ?_
  refine lv_iand hx hb dJ6_bitCount_0f7a4_21 ?_
  refine lv_iadd hx hb dJ6_bitCount_0f7a4_22 ?_
  obtain ⟨v2, hv2, hf⟩ := zz_lts hf
  refine zz_ti hv2 ?_
  refine lv_istore_n (lv' := [(0, .int v2)]) hx hb dJ6_bitCount_0f7a4_23 rfl hl (by decide) rfl (fun ls hl => ?_)
  refine lv_iload_n hx hb dJ6_bitCount_0f7a4_24 rfl (lv_at hl 0 rfl) ?_
  refine lv_iload_n hx hb dJ6_bitCount_0f7a4_25 rfl (lv_at hl 0 rfl) ?_
  refine lv_iconst (v := (4 : Int32)) hx hb dJ6_bitCount_0f7a4_26 (by decide) ?_
  refine lv_iushr (v := (zz_ushr v2 (4 : Int32))) hx hb dJ6_bitCount_0f7a4_27 rfl ?_
  refine lv_iadd hx hb dJ6_bitCount_0f7a4_28 ?_
  refine lv_ldcw (v := (252645135 : Int32)) hx hb hown kc267 dJ6_bitCount_0f7a4_29 ?_
  refine lv_iand hx hb dJ6_bitCount_0f7a4_32 ?_
  obtain ⟨v3, hv3, hf⟩ := zz_lts hf
  refine zz_ti hv3 ?_
  refine lv_istore_n (lv' := [(0, .int v3)]) hx hb dJ6_bitCount_0f7a4_33 rfl hl (by decide) rfl (fun ls hl => ?_)
  refine lv_iload_n hx hb dJ6_bitCount_0f7a4_34 rfl (lv_at hl 0 rfl) ?_
  refine lv_iload_n hx hb dJ6_bitCount_0f7a4_35 rfl (lv_at hl 0 rfl) ?_
  refine lv_bipush (v := (8 : Int32)) hx hb dJ6_bitCount_0f7a4_36 (by decide) ?_
  refine lv_iushr (v := (zz_ushr v3 (8 : Int32))) hx hb dJ6_bitCount_0f7a4_38 rfl ?_
  refine lv_iadd hx hb dJ6_bitCount_0f7a4_39 ?_
  obtain ⟨v4, hv4, hf⟩ := zz_lts hf
  refine zz_ti hv4 ?_
  refine lv_istore_n (lv' := [(0, .int v4)]) hx hb dJ6_bitCount_0f7a4_40 rfl hl (by decide) rfl (fun ls hl => ?_)
  refine lv_iload_n hx hb dJ6_bitCount_0f7a4_41 rfl (lv_at hl 0 rfl) ?_
  refine lv_iload_n hx hb dJ6_bitCount_0f7a4_42 rfl (lv_at hl 0 rfl) ?_
  refine lv_bipush (v := (16 : Int32)) hx hb dJ6_bitCount_0f7a4_43 (by decide) ?_
  refine lv_iushr (v := (zz_ushr v4 (16 : Int32))) hx hb dJ6_bitCount_0f7a4_45 rfl ?_
  refine lv_iadd hx hb dJ6_bitCount_0f7a4_46 ?_
  obtain ⟨v5, hv5, hf⟩ := zz_lts hf
  refine zz_ti hv5 ?_
  refine lv_istore_n (lv' := [(0, .int v5)]) hx hb dJ6_bitCount_0f7a4_47 rfl hl (by decide) rfl (fun ls hl => ?_)
  refine lv_iload_n hx hb dJ6_bitCount_0f7a4_48 rfl (lv_at hl 0 rfl) ?_
  refine lv_bipush (v := (63 : Int32)) hx hb dJ6_bitCount_0f7a4_49 (by decide) ?_
  refine lv_iand hx hb dJ6_bitCount_0f7a4_51 ?_
  obtain rfl := zz_e1 hf
  exact hret _ _ _ _ dJ6_bitCount_0f7a4_52 hP hD hS
def rmJ13_bitCount_95d88 : Room := { frames := 0, cells := 0, slots := 0, locals := 0 }
set_option maxHeartbeats 4000000 in
set_option maxRecDepth 100000 in
theorem zc_J13_bitCount_95d88 (l : Launch) (D : va_G) (tb : Nat → Nat)  (F : Nat) (u0 : Int64)  (r : Int32) (hf : pJ13_bitCount_95d88 F u0 = some r) : zz_Mi l yJ13_bitCount_95d88 wsJ13_bitCount_95d88 rmJ13_bitCount_95d88 D tb [] [.long u0] zw_none zw_none r := by
  refine zz_ofi (cc := cJ13_bitCount_95d88) (maxL := 2) (by decide) rfl (Nat.le_of_ble_eq_true rfl) ?_
  intro p e s m args below meth c A Q hfx hK hA hE hret H locs hP hD hS ls hl
  obtain ⟨hx, hb, hml, hown, hts⟩ := id hfx
  have kc314 := hts (.constantLong RJ13 314 (6148914691236517205)) (by decide +kernel)
  have kc316 := hts (.constantLong RJ13 316 (3689348814741910323)) (by decide +kernel)
  have kc318 := hts (.constantLong RJ13 318 (1085102592571150095)) (by decide +kernel)
  have hl : lv_has ls 2 [(0, .long u0)] := hl
  unfold pJ13_bitCount_95d88 at hf
  refine lv_lload_n hx hb dJ13_bitCount_95d88_0 rfl (lv_at hl 0 rfl) ?_
  refine lv_lload_n hx hb dJ13_bitCount_95d88_1 rfl (lv_at hl 0 rfl) ?_
  refine lv_iconst (v := (1 : Int32)) hx hb dJ13_bitCount_95d88_2 (by decide) ?_
  refine lv_lushr (v := (zz_lushr u0 (1 : Int32))) hx hb dJ13_bitCount_95d88_3 rfl ?_
  refine lv_ldc2 (v := (6148914691236517205 : Int64)) hx hb hown kc314 dJ13_bitCount_95d88_4 ?_
  refine lv_land hx hb dJ13_bitCount_95d88_7 ?_
  refine lv_lsub hx hb dJ13_bitCount_95d88_8 ?_
  obtain ⟨v1, hv1, hf⟩ := zz_lts hf
  refine zz_tl hv1 ?_
  refine lv_lstore_n (lv' := [(0, .long v1)]) hx hb dJ13_bitCount_95d88_9 rfl hl (by decide) rfl (fun ls hl => ?_)
  refine lv_lload_n hx hb dJ13_bitCount_95d88_10 rfl (lv_at hl 0 rfl) ?_
  refine lv_ldc2 (v := (3689348814741910323 : Int64)) hx hb hown kc316 dJ13_bitCount_95d88_11 ?_
  refine lv_land hx hb dJ13_bitCount_95d88_14 ?_
  refine lv_lload_n hx hb dJ13_bitCount_95d88_15 rfl (lv_at hl 0 rfl) ?_
  refine lv_iconst (v := (2 : Int32)) hx hb dJ13_bitCount_95d88_16 (by decide) ?_
  refine lv_lushr (v := (zz_lushr v1 (2 : Int32))) hx hb dJ13_bitCount_95d88_17 rfl ?_
  refine lv_ldc2 (v := (3689348814741910323 : Int64)) hx hb hown kc316 dJ13_bitCount_95d88_18 ?_
  refine lv_land hx hb dJ13_bitCount_95d88_21 ?_
  refine lv_ladd hx hb dJ13_bitCount_95d88_22 ?_
  obtain ⟨v2, hv2, hf⟩ := zz_lts hf
  refine zz_tl hv2 ?_
  refine lv_lstore_n (lv' := [(0, .long v2)]) hx hb dJ13_bitCount_95d88_23 rfl hl (by decide) rfl (fun ls hl => ?_)
  refine lv_lload_n hx hb dJ13_bitCount_95d88_24 rfl (lv_at hl 0 rfl) ?_
  refine lv_lload_n hx hb dJ13_bitCount_95d88_25 rfl (lv_at hl 0 rfl) ?_
  refine lv_iconst (v := (4 : Int32)) hx hb dJ13_bitCount_95d88_26 (by decide) ?_
  refine lv_lushr (v := (zz_lushr v2 (4 : Int32))) hx hb dJ13_bitCount_95d88_27 rfl ?_
  refine lv_ladd hx hb dJ13_bitCount_95d88_28 ?_
  refine lv_ldc2 (v := (1085102592571150095 : Int64)) hx hb hown kc318 dJ13_bitCount_95d88_29 ?_
  refine lv_land hx hb dJ13_bitCount_95d88_32 ?_
  obtain ⟨v3, hv3, hf⟩ := zz_lts hf
  refine zz_tl hv3 ?_
  refine lv_lstore_n (lv' := [(0, .long v3)]) hx hb dJ13_bitCount_95d88_33 rfl hl (by decide) rfl (fun ls hl => ?_)
  refine lv_lload_n hx hb dJ13_bitCount_95d88_34 rfl (lv_at hl 0 rfl) ?_
  refine lv_lload_n hx hb dJ13_bitCount_95d88_35 rfl (lv_at hl 0 rfl) ?_
  refine lv_bipush (v := (8 : Int32)) hx hb dJ13_bitCount_95d88_36 (by decide) ?_
  refine lv_lushr (v := (zz_lushr v3 (8 : Int32))) hx hb dJ13_bitCount_95d88_38 rfl ?_
  refine lv_ladd hx hb dJ13_bitCount_95d88_39 ?_
  obtain ⟨v4, hv4, hf⟩ := zz_lts hf
  refine zz_tl hv4 ?_
  refine lv_lstore_n (lv' := [(0, .long v4)]) hx hb dJ13_bitCount_95d88_40 rfl hl (by decide) rfl (fun ls hl => ?_)
  refine lv_lload_n hx hb dJ13_bitCount_95d88_41 rfl (lv_at hl 0 rfl) ?_
  refine lv_lload_n hx hb dJ13_bitCount_95d88_42 rfl (lv_at hl 0 rfl) ?_
  refine lv_bipush (v := (16 : Int32)) hx hb dJ13_bitCount_95d88_43 (by decide) ?_
  refine lv_lushr (v := (zz_lushr v4 (16 : Int32))) hx hb dJ13_bitCount_95d88_45 rfl ?_
  refine lv_ladd hx hb dJ13_bitCount_95d88_46 ?_
  obtain ⟨v5, hv5, hf⟩ := zz_lts hf
  refine zz_tl hv5 ?_
  refine lv_lstore_n (lv' := [(0, .long v5)]) hx hb dJ13_bitCount_95d88_47 rfl hl (by decide) rfl (fun ls hl => ?_)
  refine lv_lload_n hx hb dJ13_bitCount_95d88_48 rfl (lv_at hl 0 rfl) ?_
  refine lv_lload_n hx hb dJ13_bitCount_95d88_49 rfl (lv_at hl 0 rfl) ?_
  refine lv_bipush (v := (32 : Int32)) hx hb dJ13_bitCount_95d88_50 (by decide) ?_
  refine lv_lushr (v := (zz_lushr v5 (32 : Int32))) hx hb dJ13_bitCount_95d88_52 rfl ?_
  refine lv_ladd hx hb dJ13_bitCount_95d88_53 ?_
  obtain ⟨v6, hv6, hf⟩ := zz_lts hf
  refine zz_tl hv6 ?_
  refine lv_lstore_n (lv' := [(0, .long v6)]) hx hb dJ13_bitCount_95d88_54 rfl hl (by decide) rfl (fun ls hl => ?_)
  refine lv_lload_n hx hb dJ13_bitCount_95d88_55 rfl (lv_at hl 0 rfl) ?_
  refine lv_l2i (v := (Int64.toInt32 v6)) hx hb dJ13_bitCount_95d88_56 rfl ?_
  refine lv_bipush (v := (127 : Int32)) hx hb dJ13_bitCount_95d88_57 (by decide) ?_
  refine lv_iand hx hb dJ13_bitCount_95d88_59 ?_
  obtain rfl := zz_e1 hf
  exact hret _ _ _ _ dJ13_bitCount_95d88_60 hP hD hS
