def rmX9_isText : Room := { frames := 0, cells := 0, slots := 0, locals := 0 }
set_option maxHeartbeats 4000000 in
set_option maxRecDepth 100000 in
theorem zc_X9_isText (l : Launch) (D : va_G) (tb : Nat → Nat) (q : Nat → Nat) (k : Nat → ClassId) (F : Nat) (u0 : Int32) (S : zz_M) (r : Int32) (hf : pX9_isText F u0 S = some r) : zz_Mi l yX9_isText wsX9_isText rmX9_isText D tb [((k 1), .object "CatBeat$Text"), ((k 3), .int), ((k 5), .int), ((k 7), .int), ((k 8), .int), ((k 9), .int), ((k 11), .int), ((k 13), .int), ((k 15), .int), ((k 16), .int), ((k 18), .int), ((k 19), .int), ((k 20), .object "CatBeat$Sheet"), ((k 22), .int), ((k 24), .int), ((k 26), .int), ((k 28), .int), ((k 30), .int), ((k 31), .long), ((k 32), .boolean), ((k 34), .int), ((k 35), .long), ((k 37), .int), ((k 39), .int), ((k 40), .long), ((k 41), .boolean), ((k 43), .int), ((k 44), .long), ((k 46), .long), ((k 47), .int)] [.ref (q 0), .int u0] (zw_9 q k S) (zw_9 q k S) r := by
  refine zz_ofz (cc := cX9_isText) (maxL := 2) (by decide) rfl (Nat.le_of_ble_eq_true rfl) ?_
  intro p e s m args below meth c A Q hfx hK hA hE hret H locs hP hD hS ls hl
  obtain ⟨hx, hb, hml, hown, hts⟩ := id hfx
  have inX9 : ∀ w ∈ u_ws RX9 TX9 18, w ∈ wsX9_isText := by decide +kernel
  have lk11 := hts (.fieldLink RX9 11 "CatBeat" "texts" "[LCatBeat$Text;") (by decide +kernel)
  have hl : lv_has ls 2 [(0, .ref (q 0)), (1, .int u0)] := hl
  unfold pX9_isText at hf
  refine lv_iload_n hx hb dX9_isText_0 rfl (lv_at hl 1 rfl) ?_
  obtain ⟨j18_2, hj18_2, hf⟩ := zz_lts hf
  have Kj18_2 : ∀ (y1 : Int32) (H : Heap) (locs : List Loc), va_P D vwCl (zw_9 q k S) H → va_D A (zw_9 q k S) → va_S A s.heap H locs → ∀ ls : Array Slot, lv_has ls 2 [] → j18_2 y1 = some r → W p l e rmX9_isText s m args below meth c H locs 0 0 Q (F0 m 18 ls [.int y1]) := by
    intro y1 H locs hP hD hS ls hl hf
    rw [hj18_2] at hf
    obtain ⟨hg3, hf⟩ := zz_gd hf
    obtain rfl := zz_e1 hf
    exact hret _ _ _ _ (zz_nb hg3) dX9_isText_18 hP hD hS
  obtain ⟨j17_4, hj17_4, hf⟩ := zz_lts hf
  have Kj17_4 : ∀  (H : Heap) (locs : List Loc), va_P D vwCl (zw_9 q k S) H → va_D A (zw_9 q k S) → va_S A s.heap H locs → ∀ ls : Array Slot, lv_has ls 2 [] → j17_4 () = some r → W p l e rmX9_isText s m args below meth c H locs 0 0 Q (F0 m 17 ls []) := by
    intro  H locs hP hD hS ls hl hf
    rw [hj17_4] at hf
    refine lv_iconst (v := (0 : Int32)) hx hb dX9_isText_17 (by decide) ?_
    exact Kj18_2 (0 : Int32) _ _ hP hD hS ls (lv_sub hl [] rfl) hf
  refine lv_if_lt (tgt := 17) hx hb dX9_isText_1 (by decide) (fun c1 => ?_) (fun c1 => ?_)
  · have hf := zz_ps hf c1
    exact Kj17_4  _ _ hP hD hS ls (lv_sub hl [] rfl) hf
  · have hf := zz_ng hf c1
    refine lv_iload_n hx hb dX9_isText_4 rfl (lv_at hl 1 rfl) ?_
    refine lv_aload_n hx hb dX9_isText_5 rfl (lv_at hl 0 rfl) ?_
    refine va_get (D := D) (ci := 9) (v := .ref (q 1)) (C := RX9) (T := TX9) (N := 18) hx hb hts inX9 hown hK hP 0 rfl rfl 0 (by decide) lk11 (fun _ h9 => h9) rfl dX9_isText_6 ?_
    refine va_alen (v := (3 : Int32)) hx hb hK hP 1 0 rfl rfl rfl dX9_isText_9 ?_
    refine lv_icmp_ge (tgt := 17) hx hb dX9_isText_10 (by decide) (fun c10 => ?_) (fun c10 => ?_)
    · have hf := zz_ps hf c10
      exact Kj17_4  _ _ hP hD hS ls (lv_sub hl [] rfl) hf
    · have hf := zz_ng hf c10
      refine lv_iconst (v := (1 : Int32)) hx hb dX9_isText_13 (by decide) ?_
      refine lv_goto (tgt := 18) hx hb dX9_isText_14 (by decide) ?_
      exact Kj18_2 (1 : Int32) _ _ hP hD hS ls (lv_sub hl [] rfl) hf
def rmX9_readAgain : Room := { frames := 3, cells := 0, slots := 0, locals := 66 }
set_option maxHeartbeats 4000000 in
set_option maxRecDepth 100000 in
theorem zc_X9_readAgain (l : Launch) (D : va_G) (tb : Nat → Nat) (q : Nat → Nat) (k : Nat → ClassId) (F : Nat) (u0 : Int32) (S : zz_M) (o0 : zz_M) (hf : pX9_readAgain F u0 S = some o0) : zz_Mv l yX9_readAgain wsX9_readAgain rmX9_readAgain D tb [((k 1), .object "CatBeat$Text"), ((k 3), .int), ((k 5), .int), ((k 7), .int), ((k 8), .int), ((k 9), .int), ((k 11), .int), ((k 13), .int), ((k 15), .int), ((k 16), .int), ((k 18), .int), ((k 19), .int), ((k 20), .object "CatBeat$Sheet"), ((k 22), .int), ((k 24), .int), ((k 26), .int), ((k 28), .int), ((k 30), .int), ((k 31), .long), ((k 32), .boolean), ((k 34), .int), ((k 35), .long), ((k 37), .int), ((k 39), .int), ((k 40), .long), ((k 41), .boolean), ((k 43), .int), ((k 44), .long), ((k 46), .long), ((k 47), .int)] [.ref (q 0), .int u0] (zw_9 q k S) (zw_9 q k o0)  := by
  refine zz_ofv (cc := cX9_readAgain) (maxL := 2) (by decide) rfl (Nat.le_of_ble_eq_true rfl) ?_
  intro p e s m args below meth c A Q hfx hK hA hE hret H locs hP hD hS ls hl
  obtain ⟨hx, hb, hml, hown, hts⟩ := id hfx
  have inX9 : ∀ w ∈ u_ws RX9 TX9 18, w ∈ wsX9_readAgain := by decide +kernel
  have lk93 := hts (.fieldLink RX9 93 "CatBeat" "stale" "Z") (by decide +kernel)
  have lk15 := hts (.fieldLink RX9 15 "CatBeat" "faults" "[I") (by decide +kernel)
  have lk25 := hts (.fieldLink RX9 25 "CatBeat" "ward" "LCatBeat$Ward;") (by decide +kernel)
  have lk11 := hts (.fieldLink RX9 11 "CatBeat" "texts" "[LCatBeat$Text;") (by decide +kernel)
  have lk32 := hts (.fieldLink RX9 32 "CatBeat" "round" "LCatBeat$Round;") (by decide +kernel)
  have lk39 := hts (.fieldLink RX9 39 "CatBeat" "thieves" "LCatBeat$Thieves;") (by decide +kernel)
  have hl : lv_has ls 2 [(0, .ref (q 0)), (1, .int u0)] := hl
  unfold pX9_readAgain at hf
  refine lv_iload_n hx hb dX9_readAgain_0 rfl (lv_at hl 1 rfl) ?_
  obtain ⟨j94_2, hj94_2, hf⟩ := zz_lts hf
  have Kj94_2 : ∀ (z1 : zz_M) (H : Heap) (locs : List Loc), va_P D vwCl (zw_9 q k z1) H → va_D A (zw_9 q k z1) → va_S A s.heap H locs → ∀ ls : Array Slot, lv_has ls 2 [(0, .ref (q 0))] → j94_2 z1 = some o0 → W p l e rmX9_readAgain s m args below meth c H locs 0 0 Q (F0 m 94 ls []) := by
    intro z1 H locs hP hD hS ls hl hf
    rw [hj94_2] at hf
    refine lv_aload_n hx hb dX9_readAgain_94 rfl (lv_at hl 0 rfl) ?_
    refine lv_iconst (v := (1 : Int32)) hx hb dX9_readAgain_95 (by decide) ?_
    obtain ⟨S3, hS3, hf⟩ := zz_lts hf
    refine va_put (D := D) (ci := 9) (v := .int (1 : Int32)) (ty := .boolean) (C := RX9) (T := TX9) (N := 18) hx hb hts inX9 tyX9 tyX9_ok nmX9 hown hK hP hD hS 0 rfl rfl 16 (by decide) lk93 (fun _ h9 => h9) rfl (by decide +kernel) rfl rfl (Nat.le_of_ble_eq_true rfl) dX9_readAgain_96 (fun H locs hP hD hS => ?_)
    have hP : va_P D vwCl (zw_9 q k S3) H := by rw [hS3]; exact hP
    have hD : va_D A (zw_9 q k S3) := by rw [hS3]; exact hD
    obtain rfl := zz_e1 hf
    exact hret _ _ _ _ dX9_readAgain_99 hP hD hS
  by_cases cs1_0 : u0 = (0 : Int32)
  · have hf := zz_ps hf cs1_0
    refine zz_ti (y := (0 : Int32)) cs1_0.symm ?_
    refine lv_tableIn (off := 27) (tgt := 28) hx hb dX9_readAgain_1 (by decide) (by decide) rfl (by decide) ?_
    refine lv_aload_n hx hb dX9_readAgain_28 rfl (lv_at hl 0 rfl) ?_
    refine va_get (D := D) (ci := 9) (v := .ref (q 8)) (C := RX9) (T := TX9) (N := 18) hx hb hts inX9 hown hK hP 0 rfl rfl 1 (by decide) lk15 (fun _ h9 => h9) rfl dX9_readAgain_29 ?_
    refine lv_iconst (v := (0 : Int32)) hx hb dX9_readAgain_32 (by decide) ?_
    refine lv_aload_n hx hb dX9_readAgain_33 rfl (lv_at hl 0 rfl) ?_
    refine va_get (D := D) (ci := 9) (v := .ref (q 10)) (C := RX9) (T := TX9) (N := 18) hx hb hts inX9 hown hK hP 0 rfl rfl 3 (by decide) lk25 (fun _ h9 => h9) rfl dX9_readAgain_34 ?_
    refine lv_aload_n hx hb dX9_readAgain_37 rfl (lv_at hl 0 rfl) ?_
    refine va_get (D := D) (ci := 9) (v := .ref (q 1)) (C := RX9) (T := TX9) (N := 18) hx hb hts inX9 hown hK hP 0 rfl rfl 0 (by decide) lk11 (fun _ h9 => h9) rfl dX9_readAgain_38 ?_
    refine lv_iconst (v := (0 : Int32)) hx hb dX9_readAgain_41 (by decide) ?_
    refine va_aldq hx hb hK hP 1 0 rfl rfl (show zz_in (0 : Int32) 3 by decide) dX9_readAgain_42 ?_
    refine W.eq (g2 := F0 m 43 ls [.ref (q 2), .ref (q 10), .int (0 : Int32), .ref (q 8)]) rfl ?_
    obtain ⟨r4, f5, f6, f7, f8, hc9, hf⟩ := zz_b5s hf
    obtain ⟨S10, hS10, hf⟩ := zz_lts hf
    refine zz_ji (va_runV (As := [.ref (q 2)]) (rest := [.int (0 : Int32), .ref (q 8)]) hfx (zc_X8_parse l D tb (q 10) (q 11) (q 2) (q 3) (k 11) (k 3) 41 F  (zz_gI S 3) (zz_gI S 4) (zz_gL S 0 0) (zz_gA S 5) (zz_gI S 0) (zz_gA S 0) r4 f5 f6 f7 f8 hc9 H.size) (cwV 1 hts gX9_readAgain_X8_parse rfl rfl rfl (by decide +kernel) ⟨Nat.le_of_ble_eq_true rfl, Nat.le_of_ble_eq_true rfl⟩) (zz_preV hK hP hD hS hA hE [10, 11, 2, 3] [6, 1] rfl (by decide) rfl 10 rfl rfl rfl) rfl rfl hl.1 rfl (lv_room (Nat.le_of_ble_eq_true rfl)) dX9_readAgain_43 ⟨Nat.zero_le _, Nat.zero_le _⟩) hP hD hS hA [10, 11, 2, 3] rfl rfl (fun H locs hP hD hS => ?_)
    have hP : va_P D vwCl (zw_9 q k S10) H := by rw [hS10]; exact hP
    have hD : va_D A (zw_9 q k S10) := by rw [hS10]; exact hD
    obtain ⟨S11, hS11, hf⟩ := zz_lts hf
    refine va_iast hx hb hK hP hD hS 8 4 rfl rfl (show zz_in (0 : Int32) 3 by decide) dX9_readAgain_46 (fun H locs hP hD hS => ?_)
    have hP : va_P D vwCl (zw_9 q k S11) H := by rw [hS11]; exact hP
    have hD : va_D A (zw_9 q k S11) := by rw [hS11]; exact hD
    refine lv_goto (tgt := 94) hx hb dX9_readAgain_47 (by decide) ?_
    exact Kj94_2 S11 _ _ hP hD hS ls (lv_sub hl [0] rfl) hf
  have hf := zz_ng hf cs1_0
  by_cases cs1_1 : u0 = (1 : Int32)
  · have hf := zz_ps hf cs1_1
    refine zz_ti (y := (1 : Int32)) cs1_1.symm ?_
    refine lv_tableIn (off := 49) (tgt := 50) hx hb dX9_readAgain_1 (by decide) (by decide) rfl (by decide) ?_
    refine lv_aload_n hx hb dX9_readAgain_50 rfl (lv_at hl 0 rfl) ?_
    refine va_get (D := D) (ci := 9) (v := .ref (q 8)) (C := RX9) (T := TX9) (N := 18) hx hb hts inX9 hown hK hP 0 rfl rfl 1 (by decide) lk15 (fun _ h9 => h9) rfl dX9_readAgain_51 ?_
    refine lv_iconst (v := (1 : Int32)) hx hb dX9_readAgain_54 (by decide) ?_
    refine lv_aload_n hx hb dX9_readAgain_55 rfl (lv_at hl 0 rfl) ?_
    refine va_get (D := D) (ci := 9) (v := .ref (q 12)) (C := RX9) (T := TX9) (N := 18) hx hb hts inX9 hown hK hP 0 rfl rfl 4 (by decide) lk32 (fun _ h9 => h9) rfl dX9_readAgain_56 ?_
    refine lv_aload_n hx hb dX9_readAgain_59 rfl (lv_at hl 0 rfl) ?_
    refine va_get (D := D) (ci := 9) (v := .ref (q 1)) (C := RX9) (T := TX9) (N := 18) hx hb hts inX9 hown hK hP 0 rfl rfl 0 (by decide) lk11 (fun _ h9 => h9) rfl dX9_readAgain_60 ?_
    refine lv_iconst (v := (1 : Int32)) hx hb dX9_readAgain_63 (by decide) ?_
    refine va_aldq hx hb hK hP 1 0 rfl rfl (show zz_in (1 : Int32) 3 by decide) dX9_readAgain_64 ?_
    refine W.eq (g2 := F0 m 65 ls [.ref (q 4), .ref (q 12), .int (1 : Int32), .ref (q 8)]) rfl ?_
    obtain ⟨r12, f13, f14, hc15, hf⟩ := zz_b3s hf
    obtain ⟨S16, hS16, hf⟩ := zz_lts hf
    refine zz_ji (va_runV (As := [.ref (q 4)]) (rest := [.int (1 : Int32), .ref (q 8)]) hfx (zc_X4_parse l D tb (q 12) (q 13) (q 4) (q 5) (k 13) (k 5) 24 F  (zz_gI S 5) (zz_gA S 6) (zz_gI S 1) (zz_gA S 1) r12 f13 f14 hc15 H.size) (cwV 1 hts gX9_readAgain_X4_parse rfl rfl rfl (by decide +kernel) ⟨Nat.le_of_ble_eq_true rfl, Nat.le_of_ble_eq_true rfl⟩) (zz_preV hK hP hD hS hA hE [12, 13, 4, 5] [7, 2] rfl (by decide) rfl 12 rfl rfl rfl) rfl rfl hl.1 rfl (lv_room (Nat.le_of_ble_eq_true rfl)) dX9_readAgain_65 ⟨Nat.zero_le _, Nat.zero_le _⟩) hP hD hS hA [12, 13, 4, 5] rfl rfl (fun H locs hP hD hS => ?_)
    have hP : va_P D vwCl (zw_9 q k S16) H := by rw [hS16]; exact hP
    have hD : va_D A (zw_9 q k S16) := by rw [hS16]; exact hD
    obtain ⟨S17, hS17, hf⟩ := zz_lts hf
    refine va_iast hx hb hK hP hD hS 8 4 rfl rfl (show zz_in (1 : Int32) 3 by decide) dX9_readAgain_68 (fun H locs hP hD hS => ?_)
    have hP : va_P D vwCl (zw_9 q k S17) H := by rw [hS17]; exact hP
    have hD : va_D A (zw_9 q k S17) := by rw [hS17]; exact hD
    refine lv_goto (tgt := 94) hx hb dX9_readAgain_69 (by decide) ?_
    exact Kj94_2 S17 _ _ hP hD hS ls (lv_sub hl [0] rfl) hf
  have hf := zz_ng hf cs1_1
  by_cases cs1_2 : u0 = (2 : Int32)
  · have hf := zz_ps hf cs1_2
    refine zz_ti (y := (2 : Int32)) cs1_2.symm ?_
    refine lv_tableIn (off := 71) (tgt := 72) hx hb dX9_readAgain_1 (by decide) (by decide) rfl (by decide) ?_
    refine lv_aload_n hx hb dX9_readAgain_72 rfl (lv_at hl 0 rfl) ?_
    refine va_get (D := D) (ci := 9) (v := .ref (q 8)) (C := RX9) (T := TX9) (N := 18) hx hb hts inX9 hown hK hP 0 rfl rfl 1 (by decide) lk15 (fun _ h9 => h9) rfl dX9_readAgain_73 ?_
    refine lv_iconst (v := (2 : Int32)) hx hb dX9_readAgain_76 (by decide) ?_
    refine lv_aload_n hx hb dX9_readAgain_77 rfl (lv_at hl 0 rfl) ?_
    refine va_get (D := D) (ci := 9) (v := .ref (q 14)) (C := RX9) (T := TX9) (N := 18) hx hb hts inX9 hown hK hP 0 rfl rfl 5 (by decide) lk39 (fun _ h9 => h9) rfl dX9_readAgain_78 ?_
    refine lv_aload_n hx hb dX9_readAgain_81 rfl (lv_at hl 0 rfl) ?_
    refine va_get (D := D) (ci := 9) (v := .ref (q 1)) (C := RX9) (T := TX9) (N := 18) hx hb hts inX9 hown hK hP 0 rfl rfl 0 (by decide) lk11 (fun _ h9 => h9) rfl dX9_readAgain_82 ?_
    refine lv_iconst (v := (2 : Int32)) hx hb dX9_readAgain_85 (by decide) ?_
    refine va_aldq hx hb hK hP 1 0 rfl rfl (show zz_in (2 : Int32) 3 by decide) dX9_readAgain_86 ?_
    refine W.eq (g2 := F0 m 87 ls [.ref (q 6), .ref (q 14), .int (2 : Int32), .ref (q 8)]) rfl ?_
    obtain ⟨r18, f19, f20, f21, hc22, hf⟩ := zz_b4s hf
    obtain ⟨S23, hS23, hf⟩ := zz_lts hf
    refine zz_ji (va_runV (As := [.ref (q 6)]) (rest := [.int (2 : Int32), .ref (q 8)]) hfx (zc_X7_parse l D tb (q 14) (q 15) (q 16) (q 6) (q 7) (k 15) (k 16) (k 7) 31 F  (zz_gI S 6) (zz_gA S 7) (zz_gA S 8) (zz_gI S 2) (zz_gA S 2) r18 f19 f20 f21 hc22 H.size) (cwV 1 hts gX9_readAgain_X7_parse rfl rfl rfl (by decide +kernel) ⟨Nat.le_of_ble_eq_true rfl, Nat.le_of_ble_eq_true rfl⟩) (zz_preV hK hP hD hS hA hE [14, 15, 16, 6, 7] [8, 9, 3] rfl (by decide) rfl 14 rfl rfl rfl) rfl rfl hl.1 rfl (lv_room (Nat.le_of_ble_eq_true rfl)) dX9_readAgain_87 ⟨Nat.zero_le _, Nat.zero_le _⟩) hP hD hS hA [14, 15, 16, 6, 7] rfl rfl (fun H locs hP hD hS => ?_)
    have hP : va_P D vwCl (zw_9 q k S23) H := by rw [hS23]; exact hP
    have hD : va_D A (zw_9 q k S23) := by rw [hS23]; exact hD
    obtain ⟨S24, hS24, hf⟩ := zz_lts hf
    refine va_iast hx hb hK hP hD hS 8 4 rfl rfl (show zz_in (2 : Int32) 3 by decide) dX9_readAgain_90 (fun H locs hP hD hS => ?_)
    have hP : va_P D vwCl (zw_9 q k S24) H := by rw [hS24]; exact hP
    have hD : va_D A (zw_9 q k S24) := by rw [hS24]; exact hD
    refine lv_goto (tgt := 94) hx hb dX9_readAgain_91 (by decide) ?_
    exact Kj94_2 S24 _ _ hP hD hS ls (lv_sub hl [0] rfl) hf
  have hf := zz_ng hf cs1_2
  obtain ⟨cd1, hf⟩ := zz_gd hf
  refine lv_tableOut (tgt := 94) hx hb dX9_readAgain_1 cd1 (by decide) ?_
  exact Kj94_2 S _ _ hP hD hS ls (lv_sub hl [0] rfl) hf
def rmX9_type : Room := { frames := 4, cells := 0, slots := 0, locals := 87 }
set_option maxHeartbeats 4000000 in
set_option maxRecDepth 100000 in
theorem zc_X9_type (l : Launch) (D : va_G) (tb : Nat → Nat) (q : Nat → Nat) (k : Nat → ClassId) (F : Nat) (u0 : Int32) (u1 : Int32) (S : zz_M) (r : Int32) (o1 : zz_M) (hf : pX9_type F u0 u1 S = some (r, o1)) : zz_Mi l yX9_type wsX9_type rmX9_type D tb [((k 1), .object "CatBeat$Text"), ((k 3), .int), ((k 5), .int), ((k 7), .int), ((k 8), .int), ((k 9), .int), ((k 11), .int), ((k 13), .int), ((k 15), .int), ((k 16), .int), ((k 18), .int), ((k 19), .int), ((k 20), .object "CatBeat$Sheet"), ((k 22), .int), ((k 24), .int), ((k 26), .int), ((k 28), .int), ((k 30), .int), ((k 31), .long), ((k 32), .boolean), ((k 34), .int), ((k 35), .long), ((k 37), .int), ((k 39), .int), ((k 40), .long), ((k 41), .boolean), ((k 43), .int), ((k 44), .long), ((k 46), .long), ((k 47), .int)] [.ref (q 0), .int u0, .int u1] (zw_9 q k S) (zw_9 q k o1) r := by
  refine zz_ofi (cc := cX9_type) (maxL := 3) (by decide) rfl (Nat.le_of_ble_eq_true rfl) ?_
  intro p e s m args below meth c A Q hfx hK hA hE hret H locs hP hD hS ls hl
  obtain ⟨hx, hb, hml, hown, hts⟩ := id hfx
  have inX9 : ∀ w ∈ u_ws RX9 TX9 18, w ∈ wsX9_type := by decide +kernel
  have inX6 : ∀ w ∈ u_ws RX6 TX6 2, w ∈ wsX9_type := by decide +kernel
  have lk11 := hts (.fieldLink RX9 11 "CatBeat" "texts" "[LCatBeat$Text;") (by decide +kernel)
  have lk117 := hts (.fieldLink RX9 117 "CatBeat$Text" "length" "I") (by decide +kernel)
  have hl : lv_has ls 3 [(0, .ref (q 0)), (1, .int u0), (2, .int u1)] := hl
  unfold pX9_type at hf
  refine lv_aload_n hx hb dX9_type_0 rfl (lv_at hl 0 rfl) ?_
  refine lv_iload_n hx hb dX9_type_1 rfl (lv_at hl 1 rfl) ?_
  obtain ⟨r1, hc2, hf⟩ := zz_b1s hf
  refine zz_ji0 (va_runV (As := [.int u0]) (rest := []) hfx (zc_X9_isText l D tb q k F u0 S r1 hc2 H.size) (cwV 1 hts gX9_type_X9_isText rfl rfl rfl (by decide +kernel) ⟨Nat.le_of_ble_eq_true rfl, Nat.le_of_ble_eq_true rfl⟩) (zz_pre0V hK hP hD hS hA hE 0 rfl rfl rfl) rfl rfl hl.1 rfl (lv_room (Nat.le_of_ble_eq_true rfl)) dX9_type_2 ⟨Nat.zero_le _, Nat.zero_le _⟩) hD hS hA (fun H locs hP hD hS => ?_)
  obtain ⟨j19_3, hj19_3, hf⟩ := zz_lts hf
  have Kj19_3 : ∀  (H : Heap) (locs : List Loc), va_P D vwCl (zw_9 q k S) H → va_D A (zw_9 q k S) → va_S A s.heap H locs → ∀ ls : Array Slot, lv_has ls 3 [] → j19_3 () = some (r, o1) → W p l e rmX9_type s m args below meth c H locs 0 0 Q (F0 m 19 ls []) := by
    intro  H locs hP hD hS ls hl hf
    rw [hj19_3] at hf
    refine lv_bipush (v := (-2 : Int32)) hx hb dX9_type_19 (by decide) ?_
    obtain ⟨rfl, rfl⟩ := zz_e2 hf
    exact hret _ _ _ _ dX9_type_21 hP hD hS
  refine lv_if_eq (tgt := 19) hx hb dX9_type_5 (by decide) (fun c5 => ?_) (fun c5 => ?_)
  · have hf := zz_ps hf c5
    exact Kj19_3  _ _ hP hD hS ls (lv_sub hl [] rfl) hf
  · have hf := zz_ng hf c5
    refine lv_iload_n hx hb dX9_type_8 rfl (lv_at hl 2 rfl) ?_
    refine lv_if_lt (tgt := 19) hx hb dX9_type_9 (by decide) (fun c9 => ?_) (fun c9 => ?_)
    · have hf := zz_ps hf c9
      exact Kj19_3  _ _ hP hD hS ls (lv_sub hl [] rfl) hf
    · have hf := zz_ng hf c9
      refine lv_iload_n hx hb dX9_type_12 rfl (lv_at hl 2 rfl) ?_
      refine lv_sipush (v := (255 : Int32)) hx hb dX9_type_13 (by decide) ?_
      refine lv_icmp_le (tgt := 22) hx hb dX9_type_16 (by decide) (fun c16 => ?_) (fun c16 => ?_)
      · have hf := zz_ps hf c16
        refine lv_aload_n hx hb dX9_type_22 rfl (lv_at hl 0 rfl) ?_
        refine va_get (D := D) (ci := 9) (v := .ref (q 1)) (C := RX9) (T := TX9) (N := 18) hx hb hts inX9 hown hK hP 0 rfl rfl 0 (by decide) lk11 (fun _ h9 => h9) rfl dX9_type_23 ?_
        refine lv_iload_n hx hb dX9_type_26 rfl (lv_at hl 1 rfl) ?_
        by_cases ci27_0 : u0 = (0 : Int32)
        · have hf := zz_ps hf ci27_0
          have hl : lv_has ls 3 [(0, .ref (q 0)), (1, .int (0 : Int32)), (2, .int u1)] := ci27_0 ▸ hl
          refine zz_ti (y := (0 : Int32)) ci27_0.symm ?_
          refine va_aldq hx hb hK hP 1 0 rfl rfl (show zz_in (0 : Int32) 3 by decide) dX9_type_27 ?_
          refine W.eq (g2 := F0 m 28 ls [.ref (q 2)]) rfl ?_
          refine lv_iload_n hx hb dX9_type_28 rfl (lv_at hl 2 rfl) ?_
          obtain ⟨r4, f5, f6, hc7, hf⟩ := zz_b3s hf
          obtain ⟨S8, hS8, hf⟩ := zz_lts hf
          refine zz_ji (va_runV (As := [.int u1]) (rest := []) hfx (zc_X6_append l D tb (q 2) (q 3) (k 3) 41 F u1 (zz_gI S 0) (zz_gA S 0) r4 f5 f6 hc7 H.size) (cwV 1 hts gX9_type_X6_append rfl rfl rfl (by decide +kernel) ⟨Nat.le_of_ble_eq_true rfl, Nat.le_of_ble_eq_true rfl⟩) (zz_preV hK hP hD hS hA hE [2, 3] [1] rfl (by decide) rfl 2 rfl rfl rfl) rfl rfl hl.1 rfl (lv_room (Nat.le_of_ble_eq_true rfl)) dX9_type_29 ⟨Nat.zero_le _, Nat.zero_le _⟩) hP hD hS hA [2, 3] rfl rfl (fun H locs hP hD hS => ?_)
          have hP : va_P D vwCl (zw_9 q k S8) H := by rw [hS8]; exact hP
          have hD : va_D A (zw_9 q k S8) := by rw [hS8]; exact hD
          refine lv_if_ne (tgt := 38) hx hb dX9_type_32 (by decide) (fun c32 => ?_) (fun c32 => ?_)
          · have hf := zz_ng hf c32
            refine lv_aload_n hx hb dX9_type_38 rfl (lv_at hl 0 rfl) ?_
            refine lv_iload_n hx hb dX9_type_39 rfl (lv_at hl 1 rfl) ?_
            obtain ⟨S9, hc10, hf⟩ := zz_b1s hf
            refine zz_jv0 (va_runV (As := [.int (0 : Int32)]) (rest := []) hfx (zc_X9_readAgain l D tb q k F (0 : Int32) S8 S9 hc10 H.size) (cwV 1 hts gX9_type_X9_readAgain rfl rfl rfl (by decide +kernel) ⟨Nat.le_of_ble_eq_true rfl, Nat.le_of_ble_eq_true rfl⟩) (zz_pre0V hK hP hD hS hA hE 0 rfl rfl rfl) rfl rfl hl.1 rfl (lv_room (Nat.le_of_ble_eq_true rfl)) dX9_type_40 ⟨Nat.zero_le _, Nat.zero_le _⟩) hD hS hA (fun H locs hP hD hS => ?_)
            refine lv_aload_n hx hb dX9_type_43 rfl (lv_at hl 0 rfl) ?_
            refine va_get (D := D) (ci := 9) (v := .ref (q 1)) (C := RX9) (T := TX9) (N := 18) hx hb hts inX9 hown hK hP 0 rfl rfl 0 (by decide) lk11 (fun _ h9 => h9) rfl dX9_type_44 ?_
            refine lv_iload_n hx hb dX9_type_47 rfl (lv_at hl 1 rfl) ?_
            refine va_aldq hx hb hK hP 1 0 rfl rfl (show zz_in (0 : Int32) 3 by decide) dX9_type_48 ?_
            refine W.eq (g2 := F0 m 49 ls [.ref (q 2)]) rfl ?_
            refine va_get (D := D) (ci := 6) (v := .int (zz_gI S9 0)) (C := RX6) (T := TX6) (N := 2) hx hb hts inX6 hown hK hP 2 rfl rfl 1 (by decide) lk117 (fun _ h9 => h9) rfl dX9_type_49 ?_
            obtain ⟨rfl, rfl⟩ := zz_e2 hf
            exact hret _ _ _ _ dX9_type_52 hP hD hS
          · have hf := zz_ps hf c32
            refine lv_bipush (v := (-4 : Int32)) hx hb dX9_type_35 (by decide) ?_
            obtain ⟨rfl, rfl⟩ := zz_e2 hf
            exact hret _ _ _ _ dX9_type_37 hP hD hS
        have hf := zz_ng hf ci27_0
        by_cases ci27_1 : u0 = (1 : Int32)
        · have hf := zz_ps hf ci27_1
          have hl : lv_has ls 3 [(0, .ref (q 0)), (1, .int (1 : Int32)), (2, .int u1)] := ci27_1 ▸ hl
          refine zz_ti (y := (1 : Int32)) ci27_1.symm ?_
          refine va_aldq hx hb hK hP 1 0 rfl rfl (show zz_in (1 : Int32) 3 by decide) dX9_type_27 ?_
          refine W.eq (g2 := F0 m 28 ls [.ref (q 4)]) rfl ?_
          refine lv_iload_n hx hb dX9_type_28 rfl (lv_at hl 2 rfl) ?_
          obtain ⟨r11, f12, f13, hc14, hf⟩ := zz_b3s hf
          obtain ⟨S15, hS15, hf⟩ := zz_lts hf
          refine zz_ji (va_runV (As := [.int u1]) (rest := []) hfx (zc_X6_append l D tb (q 4) (q 5) (k 5) 24 F u1 (zz_gI S 1) (zz_gA S 1) r11 f12 f13 hc14 H.size) (cwV 1 hts gX9_type_X6_append rfl rfl rfl (by decide +kernel) ⟨Nat.le_of_ble_eq_true rfl, Nat.le_of_ble_eq_true rfl⟩) (zz_preV hK hP hD hS hA hE [4, 5] [2] rfl (by decide) rfl 4 rfl rfl rfl) rfl rfl hl.1 rfl (lv_room (Nat.le_of_ble_eq_true rfl)) dX9_type_29 ⟨Nat.zero_le _, Nat.zero_le _⟩) hP hD hS hA [4, 5] rfl rfl (fun H locs hP hD hS => ?_)
          have hP : va_P D vwCl (zw_9 q k S15) H := by rw [hS15]; exact hP
          have hD : va_D A (zw_9 q k S15) := by rw [hS15]; exact hD
          refine lv_if_ne (tgt := 38) hx hb dX9_type_32 (by decide) (fun c32 => ?_) (fun c32 => ?_)
          · have hf := zz_ng hf c32
            refine lv_aload_n hx hb dX9_type_38 rfl (lv_at hl 0 rfl) ?_
            refine lv_iload_n hx hb dX9_type_39 rfl (lv_at hl 1 rfl) ?_
            obtain ⟨S16, hc17, hf⟩ := zz_b1s hf
            refine zz_jv0 (va_runV (As := [.int (1 : Int32)]) (rest := []) hfx (zc_X9_readAgain l D tb q k F (1 : Int32) S15 S16 hc17 H.size) (cwV 1 hts gX9_type_X9_readAgain rfl rfl rfl (by decide +kernel) ⟨Nat.le_of_ble_eq_true rfl, Nat.le_of_ble_eq_true rfl⟩) (zz_pre0V hK hP hD hS hA hE 0 rfl rfl rfl) rfl rfl hl.1 rfl (lv_room (Nat.le_of_ble_eq_true rfl)) dX9_type_40 ⟨Nat.zero_le _, Nat.zero_le _⟩) hD hS hA (fun H locs hP hD hS => ?_)
            refine lv_aload_n hx hb dX9_type_43 rfl (lv_at hl 0 rfl) ?_
            refine va_get (D := D) (ci := 9) (v := .ref (q 1)) (C := RX9) (T := TX9) (N := 18) hx hb hts inX9 hown hK hP 0 rfl rfl 0 (by decide) lk11 (fun _ h9 => h9) rfl dX9_type_44 ?_
            refine lv_iload_n hx hb dX9_type_47 rfl (lv_at hl 1 rfl) ?_
            refine va_aldq hx hb hK hP 1 0 rfl rfl (show zz_in (1 : Int32) 3 by decide) dX9_type_48 ?_
            refine W.eq (g2 := F0 m 49 ls [.ref (q 4)]) rfl ?_
            refine va_get (D := D) (ci := 6) (v := .int (zz_gI S16 1)) (C := RX6) (T := TX6) (N := 2) hx hb hts inX6 hown hK hP 4 rfl rfl 1 (by decide) lk117 (fun _ h9 => h9) rfl dX9_type_49 ?_
            obtain ⟨rfl, rfl⟩ := zz_e2 hf
            exact hret _ _ _ _ dX9_type_52 hP hD hS
          · have hf := zz_ps hf c32
            refine lv_bipush (v := (-4 : Int32)) hx hb dX9_type_35 (by decide) ?_
            obtain ⟨rfl, rfl⟩ := zz_e2 hf
            exact hret _ _ _ _ dX9_type_37 hP hD hS
        have hf := zz_ng hf ci27_1
        by_cases ci27_2 : u0 = (2 : Int32)
        · have hf := zz_ps hf ci27_2
          have hl : lv_has ls 3 [(0, .ref (q 0)), (1, .int (2 : Int32)), (2, .int u1)] := ci27_2 ▸ hl
          refine zz_ti (y := (2 : Int32)) ci27_2.symm ?_
          refine va_aldq hx hb hK hP 1 0 rfl rfl (show zz_in (2 : Int32) 3 by decide) dX9_type_27 ?_
          refine W.eq (g2 := F0 m 28 ls [.ref (q 6)]) rfl ?_
          refine lv_iload_n hx hb dX9_type_28 rfl (lv_at hl 2 rfl) ?_
          obtain ⟨r18, f19, f20, hc21, hf⟩ := zz_b3s hf
          obtain ⟨S22, hS22, hf⟩ := zz_lts hf
          refine zz_ji (va_runV (As := [.int u1]) (rest := []) hfx (zc_X6_append l D tb (q 6) (q 7) (k 7) 31 F u1 (zz_gI S 2) (zz_gA S 2) r18 f19 f20 hc21 H.size) (cwV 1 hts gX9_type_X6_append rfl rfl rfl (by decide +kernel) ⟨Nat.le_of_ble_eq_true rfl, Nat.le_of_ble_eq_true rfl⟩) (zz_preV hK hP hD hS hA hE [6, 7] [3] rfl (by decide) rfl 6 rfl rfl rfl) rfl rfl hl.1 rfl (lv_room (Nat.le_of_ble_eq_true rfl)) dX9_type_29 ⟨Nat.zero_le _, Nat.zero_le _⟩) hP hD hS hA [6, 7] rfl rfl (fun H locs hP hD hS => ?_)
          have hP : va_P D vwCl (zw_9 q k S22) H := by rw [hS22]; exact hP
          have hD : va_D A (zw_9 q k S22) := by rw [hS22]; exact hD
          refine lv_if_ne (tgt := 38) hx hb dX9_type_32 (by decide) (fun c32 => ?_) (fun c32 => ?_)
          · have hf := zz_ng hf c32
            refine lv_aload_n hx hb dX9_type_38 rfl (lv_at hl 0 rfl) ?_
            refine lv_iload_n hx hb dX9_type_39 rfl (lv_at hl 1 rfl) ?_
            obtain ⟨S23, hc24, hf⟩ := zz_b1s hf
            refine zz_jv0 (va_runV (As := [.int (2 : Int32)]) (rest := []) hfx (zc_X9_readAgain l D tb q k F (2 : Int32) S22 S23 hc24 H.size) (cwV 1 hts gX9_type_X9_readAgain rfl rfl rfl (by decide +kernel) ⟨Nat.le_of_ble_eq_true rfl, Nat.le_of_ble_eq_true rfl⟩) (zz_pre0V hK hP hD hS hA hE 0 rfl rfl rfl) rfl rfl hl.1 rfl (lv_room (Nat.le_of_ble_eq_true rfl)) dX9_type_40 ⟨Nat.zero_le _, Nat.zero_le _⟩) hD hS hA (fun H locs hP hD hS => ?_)
            refine lv_aload_n hx hb dX9_type_43 rfl (lv_at hl 0 rfl) ?_
            refine va_get (D := D) (ci := 9) (v := .ref (q 1)) (C := RX9) (T := TX9) (N := 18) hx hb hts inX9 hown hK hP 0 rfl rfl 0 (by decide) lk11 (fun _ h9 => h9) rfl dX9_type_44 ?_
            refine lv_iload_n hx hb dX9_type_47 rfl (lv_at hl 1 rfl) ?_
            refine va_aldq hx hb hK hP 1 0 rfl rfl (show zz_in (2 : Int32) 3 by decide) dX9_type_48 ?_
            refine W.eq (g2 := F0 m 49 ls [.ref (q 6)]) rfl ?_
            refine va_get (D := D) (ci := 6) (v := .int (zz_gI S23 2)) (C := RX6) (T := TX6) (N := 2) hx hb hts inX6 hown hK hP 6 rfl rfl 1 (by decide) lk117 (fun _ h9 => h9) rfl dX9_type_49 ?_
            obtain ⟨rfl, rfl⟩ := zz_e2 hf
            exact hret _ _ _ _ dX9_type_52 hP hD hS
          · have hf := zz_ps hf c32
            refine lv_bipush (v := (-4 : Int32)) hx hb dX9_type_35 (by decide) ?_
            obtain ⟨rfl, rfl⟩ := zz_e2 hf
            exact hret _ _ _ _ dX9_type_37 hP hD hS
        have hf := zz_ng hf ci27_2
        exact nomatch hf
      · have hf := zz_ng hf c16
        exact Kj19_3  _ _ hP hD hS ls (lv_sub hl [] rfl) hf
def rmX9_wipe : Room := { frames := 4, cells := 0, slots := 0, locals := 87 }
set_option maxHeartbeats 4000000 in
set_option maxRecDepth 100000 in
theorem zc_X9_wipe (l : Launch) (D : va_G) (tb : Nat → Nat) (q : Nat → Nat) (k : Nat → ClassId) (F : Nat) (u0 : Int32) (S : zz_M) (r : Int32) (o1 : zz_M) (hf : pX9_wipe F u0 S = some (r, o1)) : zz_Mi l yX9_wipe wsX9_wipe rmX9_wipe D tb [((k 1), .object "CatBeat$Text"), ((k 3), .int), ((k 5), .int), ((k 7), .int), ((k 8), .int), ((k 9), .int), ((k 11), .int), ((k 13), .int), ((k 15), .int), ((k 16), .int), ((k 18), .int), ((k 19), .int), ((k 20), .object "CatBeat$Sheet"), ((k 22), .int), ((k 24), .int), ((k 26), .int), ((k 28), .int), ((k 30), .int), ((k 31), .long), ((k 32), .boolean), ((k 34), .int), ((k 35), .long), ((k 37), .int), ((k 39), .int), ((k 40), .long), ((k 41), .boolean), ((k 43), .int), ((k 44), .long), ((k 46), .long), ((k 47), .int)] [.ref (q 0), .int u0] (zw_9 q k S) (zw_9 q k o1) r := by
  refine zz_ofi (cc := cX9_wipe) (maxL := 3) (by decide) rfl (Nat.le_of_ble_eq_true rfl) ?_
  intro p e s m args below meth c A Q hfx hK hA hE hret H locs hP hD hS ls hl
  obtain ⟨hx, hb, hml, hown, hts⟩ := id hfx
  have inX9 : ∀ w ∈ u_ws RX9 TX9 18, w ∈ wsX9_wipe := by decide +kernel
  have inX6 : ∀ w ∈ u_ws RX6 TX6 2, w ∈ wsX9_wipe := by decide +kernel
  have lk11 := hts (.fieldLink RX9 11 "CatBeat" "texts" "[LCatBeat$Text;") (by decide +kernel)
  have lk117 := hts (.fieldLink RX9 117 "CatBeat$Text" "length" "I") (by decide +kernel)
  have hl : lv_has ls 3 [(0, .ref (q 0)), (1, .int u0)] := hl
  unfold pX9_wipe at hf
  refine lv_aload_n hx hb dX9_wipe_0 rfl (lv_at hl 0 rfl) ?_
  refine lv_iload_n hx hb dX9_wipe_1 rfl (lv_at hl 1 rfl) ?_
  obtain ⟨r1, hc2, hf⟩ := zz_b1s hf
  refine zz_ji0 (va_runV (As := [.int u0]) (rest := []) hfx (zc_X9_isText l D tb q k F u0 S r1 hc2 H.size) (cwV 1 hts gX9_wipe_X9_isText rfl rfl rfl (by decide +kernel) ⟨Nat.le_of_ble_eq_true rfl, Nat.le_of_ble_eq_true rfl⟩) (zz_pre0V hK hP hD hS hA hE 0 rfl rfl rfl) rfl rfl hl.1 rfl (lv_room (Nat.le_of_ble_eq_true rfl)) dX9_wipe_2 ⟨Nat.zero_le _, Nat.zero_le _⟩) hD hS hA (fun H locs hP hD hS => ?_)
  refine lv_if_ne (tgt := 11) hx hb dX9_wipe_5 (by decide) (fun c5 => ?_) (fun c5 => ?_)
  · have hf := zz_ng hf c5
    refine lv_aload_n hx hb dX9_wipe_11 rfl (lv_at hl 0 rfl) ?_
    refine va_get (D := D) (ci := 9) (v := .ref (q 1)) (C := RX9) (T := TX9) (N := 18) hx hb hts inX9 hown hK hP 0 rfl rfl 0 (by decide) lk11 (fun _ h9 => h9) rfl dX9_wipe_12 ?_
    refine lv_iload_n hx hb dX9_wipe_15 rfl (lv_at hl 1 rfl) ?_
    by_cases ci16_0 : u0 = (0 : Int32)
    · have hf := zz_ps hf ci16_0
      have hl : lv_has ls 3 [(0, .ref (q 0)), (1, .int (0 : Int32))] := ci16_0 ▸ hl
      refine zz_ti (y := (0 : Int32)) ci16_0.symm ?_
      refine va_aldq hx hb hK hP 1 0 rfl rfl (show zz_in (0 : Int32) 3 by decide) dX9_wipe_16 ?_
      refine W.eq (g2 := F0 m 17 ls [.ref (q 2)]) rfl ?_
      refine va_get (D := D) (ci := 6) (v := .int (zz_gI S 0)) (C := RX6) (T := TX6) (N := 2) hx hb hts inX6 hown hK hP 2 rfl rfl 1 (by decide) lk117 (fun _ h9 => h9) rfl dX9_wipe_17 ?_
      obtain ⟨v3, hv3, hf⟩ := zz_lts hf
      refine zz_ti hv3 ?_
      refine lv_istore_n (lv' := [(2, .int v3), (0, .ref (q 0)), (1, .int (0 : Int32))]) hx hb dX9_wipe_20 rfl hl (by decide) rfl (fun ls hl => ?_)
      refine lv_aload_n hx hb dX9_wipe_21 rfl (lv_at hl 1 rfl) ?_
      refine va_get (D := D) (ci := 9) (v := .ref (q 1)) (C := RX9) (T := TX9) (N := 18) hx hb hts inX9 hown hK hP 0 rfl rfl 0 (by decide) lk11 (fun _ h9 => h9) rfl dX9_wipe_22 ?_
      refine lv_iload_n hx hb dX9_wipe_25 rfl (lv_at hl 2 rfl) ?_
      refine va_aldq hx hb hK hP 1 0 rfl rfl (show zz_in (0 : Int32) 3 by decide) dX9_wipe_26 ?_
      refine W.eq (g2 := F0 m 27 ls [.ref (q 2)]) rfl ?_
      refine lv_iconst (v := (0 : Int32)) hx hb dX9_wipe_27 (by decide) ?_
      obtain ⟨S4, hS4, hf⟩ := zz_lts hf
      refine va_put (D := D) (ci := 6) (v := .int (0 : Int32)) (ty := .int) (C := RX6) (T := TX6) (N := 2) hx hb hts inX6 tyX6 tyX6_ok nmX6 hown hK hP hD hS 2 rfl rfl 1 (by decide) lk117 (fun _ h9 => h9) rfl (by decide +kernel) rfl rfl (Nat.le_of_ble_eq_true rfl) dX9_wipe_28 (fun H locs hP hD hS => ?_)
      have hP : va_P D vwCl (zw_9 q k S4) H := by rw [hS4]; exact hP
      have hD : va_D A (zw_9 q k S4) := by rw [hS4]; exact hD
      refine lv_aload_n hx hb dX9_wipe_31 rfl (lv_at hl 1 rfl) ?_
      refine lv_iload_n hx hb dX9_wipe_32 rfl (lv_at hl 2 rfl) ?_
      obtain ⟨S5, hc6, hf⟩ := zz_b1s hf
      refine zz_jv0 (va_runV (As := [.int (0 : Int32)]) (rest := []) hfx (zc_X9_readAgain l D tb q k F (0 : Int32) S4 S5 hc6 H.size) (cwV 1 hts gX9_wipe_X9_readAgain rfl rfl rfl (by decide +kernel) ⟨Nat.le_of_ble_eq_true rfl, Nat.le_of_ble_eq_true rfl⟩) (zz_pre0V hK hP hD hS hA hE 0 rfl rfl rfl) rfl rfl hl.1 rfl (lv_room (Nat.le_of_ble_eq_true rfl)) dX9_wipe_33 ⟨Nat.zero_le _, Nat.zero_le _⟩) hD hS hA (fun H locs hP hD hS => ?_)
      refine lv_iload_n hx hb dX9_wipe_36 rfl (lv_at hl 0 rfl) ?_
      obtain ⟨rfl, rfl⟩ := zz_e2 hf
      exact hret _ _ _ _ dX9_wipe_37 hP hD hS
    have hf := zz_ng hf ci16_0
    by_cases ci16_1 : u0 = (1 : Int32)
    · have hf := zz_ps hf ci16_1
      have hl : lv_has ls 3 [(0, .ref (q 0)), (1, .int (1 : Int32))] := ci16_1 ▸ hl
      refine zz_ti (y := (1 : Int32)) ci16_1.symm ?_
      refine va_aldq hx hb hK hP 1 0 rfl rfl (show zz_in (1 : Int32) 3 by decide) dX9_wipe_16 ?_
      refine W.eq (g2 := F0 m 17 ls [.ref (q 4)]) rfl ?_
      refine va_get (D := D) (ci := 6) (v := .int (zz_gI S 1)) (C := RX6) (T := TX6) (N := 2) hx hb hts inX6 hown hK hP 4 rfl rfl 1 (by decide) lk117 (fun _ h9 => h9) rfl dX9_wipe_17 ?_
      obtain ⟨v7, hv7, hf⟩ := zz_lts hf
      refine zz_ti hv7 ?_
      refine lv_istore_n (lv' := [(2, .int v7), (0, .ref (q 0)), (1, .int (1 : Int32))]) hx hb dX9_wipe_20 rfl hl (by decide) rfl (fun ls hl => ?_)
      refine lv_aload_n hx hb dX9_wipe_21 rfl (lv_at hl 1 rfl) ?_
      refine va_get (D := D) (ci := 9) (v := .ref (q 1)) (C := RX9) (T := TX9) (N := 18) hx hb hts inX9 hown hK hP 0 rfl rfl 0 (by decide) lk11 (fun _ h9 => h9) rfl dX9_wipe_22 ?_
      refine lv_iload_n hx hb dX9_wipe_25 rfl (lv_at hl 2 rfl) ?_
      refine va_aldq hx hb hK hP 1 0 rfl rfl (show zz_in (1 : Int32) 3 by decide) dX9_wipe_26 ?_
      refine W.eq (g2 := F0 m 27 ls [.ref (q 4)]) rfl ?_
      refine lv_iconst (v := (0 : Int32)) hx hb dX9_wipe_27 (by decide) ?_
      obtain ⟨S8, hS8, hf⟩ := zz_lts hf
      refine va_put (D := D) (ci := 6) (v := .int (0 : Int32)) (ty := .int) (C := RX6) (T := TX6) (N := 2) hx hb hts inX6 tyX6 tyX6_ok nmX6 hown hK hP hD hS 4 rfl rfl 1 (by decide) lk117 (fun _ h9 => h9) rfl (by decide +kernel) rfl rfl (Nat.le_of_ble_eq_true rfl) dX9_wipe_28 (fun H locs hP hD hS => ?_)
      have hP : va_P D vwCl (zw_9 q k S8) H := by rw [hS8]; exact hP
      have hD : va_D A (zw_9 q k S8) := by rw [hS8]; exact hD
      refine lv_aload_n hx hb dX9_wipe_31 rfl (lv_at hl 1 rfl) ?_
      refine lv_iload_n hx hb dX9_wipe_32 rfl (lv_at hl 2 rfl) ?_
      obtain ⟨S9, hc10, hf⟩ := zz_b1s hf
      refine zz_jv0 (va_runV (As := [.int (1 : Int32)]) (rest := []) hfx (zc_X9_readAgain l D tb q k F (1 : Int32) S8 S9 hc10 H.size) (cwV 1 hts gX9_wipe_X9_readAgain rfl rfl rfl (by decide +kernel) ⟨Nat.le_of_ble_eq_true rfl, Nat.le_of_ble_eq_true rfl⟩) (zz_pre0V hK hP hD hS hA hE 0 rfl rfl rfl) rfl rfl hl.1 rfl (lv_room (Nat.le_of_ble_eq_true rfl)) dX9_wipe_33 ⟨Nat.zero_le _, Nat.zero_le _⟩) hD hS hA (fun H locs hP hD hS => ?_)
      refine lv_iload_n hx hb dX9_wipe_36 rfl (lv_at hl 0 rfl) ?_
      obtain ⟨rfl, rfl⟩ := zz_e2 hf
      exact hret _ _ _ _ dX9_wipe_37 hP hD hS
    have hf := zz_ng hf ci16_1
    by_cases ci16_2 : u0 = (2 : Int32)
    · have hf := zz_ps hf ci16_2
      have hl : lv_has ls 3 [(0, .ref (q 0)), (1, .int (2 : Int32))] := ci16_2 ▸ hl
      refine zz_ti (y := (2 : Int32)) ci16_2.symm ?_
      refine va_aldq hx hb hK hP 1 0 rfl rfl (show zz_in (2 : Int32) 3 by decide) dX9_wipe_16 ?_
      refine W.eq (g2 := F0 m 17 ls [.ref (q 6)]) rfl ?_
      refine va_get (D := D) (ci := 6) (v := .int (zz_gI S 2)) (C := RX6) (T := TX6) (N := 2) hx hb hts inX6 hown hK hP 6 rfl rfl 1 (by decide) lk117 (fun _ h9 => h9) rfl dX9_wipe_17 ?_
      obtain ⟨v11, hv11, hf⟩ := zz_lts hf
      refine zz_ti hv11 ?_
      refine lv_istore_n (lv' := [(2, .int v11), (0, .ref (q 0)), (1, .int (2 : Int32))]) hx hb dX9_wipe_20 rfl hl (by decide) rfl (fun ls hl => ?_)
      refine lv_aload_n hx hb dX9_wipe_21 rfl (lv_at hl 1 rfl) ?_
      refine va_get (D := D) (ci := 9) (v := .ref (q 1)) (C := RX9) (T := TX9) (N := 18) hx hb hts inX9 hown hK hP 0 rfl rfl 0 (by decide) lk11 (fun _ h9 => h9) rfl dX9_wipe_22 ?_
      refine lv_iload_n hx hb dX9_wipe_25 rfl (lv_at hl 2 rfl) ?_
      refine va_aldq hx hb hK hP 1 0 rfl rfl (show zz_in (2 : Int32) 3 by decide) dX9_wipe_26 ?_
      refine W.eq (g2 := F0 m 27 ls [.ref (q 6)]) rfl ?_
      refine lv_iconst (v := (0 : Int32)) hx hb dX9_wipe_27 (by decide) ?_
      obtain ⟨S12, hS12, hf⟩ := zz_lts hf
      refine va_put (D := D) (ci := 6) (v := .int (0 : Int32)) (ty := .int) (C := RX6) (T := TX6) (N := 2) hx hb hts inX6 tyX6 tyX6_ok nmX6 hown hK hP hD hS 6 rfl rfl 1 (by decide) lk117 (fun _ h9 => h9) rfl (by decide +kernel) rfl rfl (Nat.le_of_ble_eq_true rfl) dX9_wipe_28 (fun H locs hP hD hS => ?_)
      have hP : va_P D vwCl (zw_9 q k S12) H := by rw [hS12]; exact hP
      have hD : va_D A (zw_9 q k S12) := by rw [hS12]; exact hD
      refine lv_aload_n hx hb dX9_wipe_31 rfl (lv_at hl 1 rfl) ?_
      refine lv_iload_n hx hb dX9_wipe_32 rfl (lv_at hl 2 rfl) ?_
      obtain ⟨S13, hc14, hf⟩ := zz_b1s hf
      refine zz_jv0 (va_runV (As := [.int (2 : Int32)]) (rest := []) hfx (zc_X9_readAgain l D tb q k F (2 : Int32) S12 S13 hc14 H.size) (cwV 1 hts gX9_wipe_X9_readAgain rfl rfl rfl (by decide +kernel) ⟨Nat.le_of_ble_eq_true rfl, Nat.le_of_ble_eq_true rfl⟩) (zz_pre0V hK hP hD hS hA hE 0 rfl rfl rfl) rfl rfl hl.1 rfl (lv_room (Nat.le_of_ble_eq_true rfl)) dX9_wipe_33 ⟨Nat.zero_le _, Nat.zero_le _⟩) hD hS hA (fun H locs hP hD hS => ?_)
      refine lv_iload_n hx hb dX9_wipe_36 rfl (lv_at hl 0 rfl) ?_
      obtain ⟨rfl, rfl⟩ := zz_e2 hf
      exact hret _ _ _ _ dX9_wipe_37 hP hD hS
    have hf := zz_ng hf ci16_2
    exact nomatch hf
  · have hf := zz_ps hf c5
    refine lv_bipush (v := (-2 : Int32)) hx hb dX9_wipe_8 (by decide) ?_
    obtain ⟨rfl, rfl⟩ := zz_e2 hf
    exact hret _ _ _ _ dX9_wipe_10 hP hD hS
def rmX9_undo : Room := { frames := 4, cells := 0, slots := 0, locals := 87 }
set_option maxHeartbeats 4000000 in
set_option maxRecDepth 100000 in
theorem zc_X9_undo (l : Launch) (D : va_G) (tb : Nat → Nat) (q : Nat → Nat) (k : Nat → ClassId) (F : Nat) (u0 : Int32) (S : zz_M) (r : Int32) (o1 : zz_M) (hf : pX9_undo F u0 S = some (r, o1)) : zz_Mi l yX9_undo wsX9_undo rmX9_undo D tb [((k 1), .object "CatBeat$Text"), ((k 3), .int), ((k 5), .int), ((k 7), .int), ((k 8), .int), ((k 9), .int), ((k 11), .int), ((k 13), .int), ((k 15), .int), ((k 16), .int), ((k 18), .int), ((k 19), .int), ((k 20), .object "CatBeat$Sheet"), ((k 22), .int), ((k 24), .int), ((k 26), .int), ((k 28), .int), ((k 30), .int), ((k 31), .long), ((k 32), .boolean), ((k 34), .int), ((k 35), .long), ((k 37), .int), ((k 39), .int), ((k 40), .long), ((k 41), .boolean), ((k 43), .int), ((k 44), .long), ((k 46), .long), ((k 47), .int)] [.ref (q 0), .int u0] (zw_9 q k S) (zw_9 q k o1) r := by
  refine zz_ofi (cc := cX9_undo) (maxL := 2) (by decide) rfl (Nat.le_of_ble_eq_true rfl) ?_
  intro p e s m args below meth c A Q hfx hK hA hE hret H locs hP hD hS ls hl
  obtain ⟨hx, hb, hml, hown, hts⟩ := id hfx
  have inX9 : ∀ w ∈ u_ws RX9 TX9 18, w ∈ wsX9_undo := by decide +kernel
  have inX6 : ∀ w ∈ u_ws RX6 TX6 2, w ∈ wsX9_undo := by decide +kernel
  have lk11 := hts (.fieldLink RX9 11 "CatBeat" "texts" "[LCatBeat$Text;") (by decide +kernel)
  have lk117 := hts (.fieldLink RX9 117 "CatBeat$Text" "length" "I") (by decide +kernel)
  have hl : lv_has ls 2 [(0, .ref (q 0)), (1, .int u0)] := hl
  unfold pX9_undo at hf
  refine lv_aload_n hx hb dX9_undo_0 rfl (lv_at hl 0 rfl) ?_
  refine lv_iload_n hx hb dX9_undo_1 rfl (lv_at hl 1 rfl) ?_
  obtain ⟨r1, hc2, hf⟩ := zz_b1s hf
  refine zz_ji0 (va_runV (As := [.int u0]) (rest := []) hfx (zc_X9_isText l D tb q k F u0 S r1 hc2 H.size) (cwV 1 hts gX9_undo_X9_isText rfl rfl rfl (by decide +kernel) ⟨Nat.le_of_ble_eq_true rfl, Nat.le_of_ble_eq_true rfl⟩) (zz_pre0V hK hP hD hS hA hE 0 rfl rfl rfl) rfl rfl hl.1 rfl (lv_room (Nat.le_of_ble_eq_true rfl)) dX9_undo_2 ⟨Nat.zero_le _, Nat.zero_le _⟩) hD hS hA (fun H locs hP hD hS => ?_)
  refine lv_if_ne (tgt := 11) hx hb dX9_undo_5 (by decide) (fun c5 => ?_) (fun c5 => ?_)
  · have hf := zz_ng hf c5
    refine lv_aload_n hx hb dX9_undo_11 rfl (lv_at hl 0 rfl) ?_
    refine va_get (D := D) (ci := 9) (v := .ref (q 1)) (C := RX9) (T := TX9) (N := 18) hx hb hts inX9 hown hK hP 0 rfl rfl 0 (by decide) lk11 (fun _ h9 => h9) rfl dX9_undo_12 ?_
    refine lv_iload_n hx hb dX9_undo_15 rfl (lv_at hl 1 rfl) ?_
    by_cases ci16_0 : u0 = (0 : Int32)
    · have hf := zz_ps hf ci16_0
      have hl : lv_has ls 2 [(0, .ref (q 0)), (1, .int (0 : Int32))] := ci16_0 ▸ hl
      refine zz_ti (y := (0 : Int32)) ci16_0.symm ?_
      refine va_aldq hx hb hK hP 1 0 rfl rfl (show zz_in (0 : Int32) 3 by decide) dX9_undo_16 ?_
      refine W.eq (g2 := F0 m 17 ls [.ref (q 2)]) rfl ?_
      refine va_get (D := D) (ci := 6) (v := .int (zz_gI S 0)) (C := RX6) (T := TX6) (N := 2) hx hb hts inX6 hown hK hP 2 rfl rfl 1 (by decide) lk117 (fun _ h9 => h9) rfl dX9_undo_17 ?_
      refine lv_if_ne (tgt := 26) hx hb dX9_undo_20 (by decide) (fun c20 => ?_) (fun c20 => ?_)
      · have hf := zz_ng hf c20
        refine lv_aload_n hx hb dX9_undo_26 rfl (lv_at hl 0 rfl) ?_
        refine va_get (D := D) (ci := 9) (v := .ref (q 1)) (C := RX9) (T := TX9) (N := 18) hx hb hts inX9 hown hK hP 0 rfl rfl 0 (by decide) lk11 (fun _ h9 => h9) rfl dX9_undo_27 ?_
        refine lv_iload_n hx hb dX9_undo_30 rfl (lv_at hl 1 rfl) ?_
        refine va_aldq hx hb hK hP 1 0 rfl rfl (show zz_in (0 : Int32) 3 by decide) dX9_undo_31 ?_
        refine W.eq (g2 := F0 m 32 ls [.ref (q 2)]) rfl ?_
        refine lv_dup hx hb dX9_undo_32 rfl ?_
        refine va_get (D := D) (ci := 6) (v := .int (zz_gI S 0)) (C := RX6) (T := TX6) (N := 2) hx hb hts inX6 hown hK hP 2 rfl rfl 1 (by decide) lk117 (fun _ h9 => h9) rfl dX9_undo_33 ?_
        refine lv_iconst (v := (1 : Int32)) hx hb dX9_undo_36 (by decide) ?_
        refine lv_isub hx hb dX9_undo_37 ?_
        obtain ⟨S3, hS3, hf⟩ := zz_lts hf
        refine va_put (D := D) (ci := 6) (v := .int ((zz_gI S 0) - (1 : Int32))) (ty := .int) (C := RX6) (T := TX6) (N := 2) hx hb hts inX6 tyX6 tyX6_ok nmX6 hown hK hP hD hS 2 rfl rfl 1 (by decide) lk117 (fun _ h9 => h9) rfl (by decide +kernel) rfl rfl (Nat.le_of_ble_eq_true rfl) dX9_undo_38 (fun H locs hP hD hS => ?_)
        have hP : va_P D vwCl (zw_9 q k S3) H := by rw [hS3]; exact hP
        have hD : va_D A (zw_9 q k S3) := by rw [hS3]; exact hD
        refine lv_aload_n hx hb dX9_undo_41 rfl (lv_at hl 0 rfl) ?_
        refine lv_iload_n hx hb dX9_undo_42 rfl (lv_at hl 1 rfl) ?_
        obtain ⟨S4, hc5, hf⟩ := zz_b1s hf
        refine zz_jv0 (va_runV (As := [.int (0 : Int32)]) (rest := []) hfx (zc_X9_readAgain l D tb q k F (0 : Int32) S3 S4 hc5 H.size) (cwV 1 hts gX9_undo_X9_readAgain rfl rfl rfl (by decide +kernel) ⟨Nat.le_of_ble_eq_true rfl, Nat.le_of_ble_eq_true rfl⟩) (zz_pre0V hK hP hD hS hA hE 0 rfl rfl rfl) rfl rfl hl.1 rfl (lv_room (Nat.le_of_ble_eq_true rfl)) dX9_undo_43 ⟨Nat.zero_le _, Nat.zero_le _⟩) hD hS hA (fun H locs hP hD hS => ?_)
        refine lv_aload_n hx hb dX9_undo_46 rfl (lv_at hl 0 rfl) ?_
        refine va_get (D := D) (ci := 9) (v := .ref (q 1)) (C := RX9) (T := TX9) (N := 18) hx hb hts inX9 hown hK hP 0 rfl rfl 0 (by decide) lk11 (fun _ h9 => h9) rfl dX9_undo_47 ?_
        refine lv_iload_n hx hb dX9_undo_50 rfl (lv_at hl 1 rfl) ?_
        refine va_aldq hx hb hK hP 1 0 rfl rfl (show zz_in (0 : Int32) 3 by decide) dX9_undo_51 ?_
        refine W.eq (g2 := F0 m 52 ls [.ref (q 2)]) rfl ?_
        refine va_get (D := D) (ci := 6) (v := .int (zz_gI S4 0)) (C := RX6) (T := TX6) (N := 2) hx hb hts inX6 hown hK hP 2 rfl rfl 1 (by decide) lk117 (fun _ h9 => h9) rfl dX9_undo_52 ?_
        obtain ⟨rfl, rfl⟩ := zz_e2 hf
        exact hret _ _ _ _ dX9_undo_55 hP hD hS
      · have hf := zz_ps hf c20
        refine lv_bipush (v := (-3 : Int32)) hx hb dX9_undo_23 (by decide) ?_
        obtain ⟨rfl, rfl⟩ := zz_e2 hf
        exact hret _ _ _ _ dX9_undo_25 hP hD hS
    have hf := zz_ng hf ci16_0
    by_cases ci16_1 : u0 = (1 : Int32)
    · have hf := zz_ps hf ci16_1
      have hl : lv_has ls 2 [(0, .ref (q 0)), (1, .int (1 : Int32))] := ci16_1 ▸ hl
      refine zz_ti (y := (1 : Int32)) ci16_1.symm ?_
      refine va_aldq hx hb hK hP 1 0 rfl rfl (show zz_in (1 : Int32) 3 by decide) dX9_undo_16 ?_
      refine W.eq (g2 := F0 m 17 ls [.ref (q 4)]) rfl ?_
      refine va_get (D := D) (ci := 6) (v := .int (zz_gI S 1)) (C := RX6) (T := TX6) (N := 2) hx hb hts inX6 hown hK hP 4 rfl rfl 1 (by decide) lk117 (fun _ h9 => h9) rfl dX9_undo_17 ?_
      refine lv_if_ne (tgt := 26) hx hb dX9_undo_20 (by decide) (fun c20 => ?_) (fun c20 => ?_)
      · have hf := zz_ng hf c20
        refine lv_aload_n hx hb dX9_undo_26 rfl (lv_at hl 0 rfl) ?_
        refine va_get (D := D) (ci := 9) (v := .ref (q 1)) (C := RX9) (T := TX9) (N := 18) hx hb hts inX9 hown hK hP 0 rfl rfl 0 (by decide) lk11 (fun _ h9 => h9) rfl dX9_undo_27 ?_
        refine lv_iload_n hx hb dX9_undo_30 rfl (lv_at hl 1 rfl) ?_
        refine va_aldq hx hb hK hP 1 0 rfl rfl (show zz_in (1 : Int32) 3 by decide) dX9_undo_31 ?_
        refine W.eq (g2 := F0 m 32 ls [.ref (q 4)]) rfl ?_
        refine lv_dup hx hb dX9_undo_32 rfl ?_
        refine va_get (D := D) (ci := 6) (v := .int (zz_gI S 1)) (C := RX6) (T := TX6) (N := 2) hx hb hts inX6 hown hK hP 4 rfl rfl 1 (by decide) lk117 (fun _ h9 => h9) rfl dX9_undo_33 ?_
        refine lv_iconst (v := (1 : Int32)) hx hb dX9_undo_36 (by decide) ?_
        refine lv_isub hx hb dX9_undo_37 ?_
        obtain ⟨S6, hS6, hf⟩ := zz_lts hf
        refine va_put (D := D) (ci := 6) (v := .int ((zz_gI S 1) - (1 : Int32))) (ty := .int) (C := RX6) (T := TX6) (N := 2) hx hb hts inX6 tyX6 tyX6_ok nmX6 hown hK hP hD hS 4 rfl rfl 1 (by decide) lk117 (fun _ h9 => h9) rfl (by decide +kernel) rfl rfl (Nat.le_of_ble_eq_true rfl) dX9_undo_38 (fun H locs hP hD hS => ?_)
        have hP : va_P D vwCl (zw_9 q k S6) H := by rw [hS6]; exact hP
        have hD : va_D A (zw_9 q k S6) := by rw [hS6]; exact hD
        refine lv_aload_n hx hb dX9_undo_41 rfl (lv_at hl 0 rfl) ?_
        refine lv_iload_n hx hb dX9_undo_42 rfl (lv_at hl 1 rfl) ?_
        obtain ⟨S7, hc8, hf⟩ := zz_b1s hf
        refine zz_jv0 (va_runV (As := [.int (1 : Int32)]) (rest := []) hfx (zc_X9_readAgain l D tb q k F (1 : Int32) S6 S7 hc8 H.size) (cwV 1 hts gX9_undo_X9_readAgain rfl rfl rfl (by decide +kernel) ⟨Nat.le_of_ble_eq_true rfl, Nat.le_of_ble_eq_true rfl⟩) (zz_pre0V hK hP hD hS hA hE 0 rfl rfl rfl) rfl rfl hl.1 rfl (lv_room (Nat.le_of_ble_eq_true rfl)) dX9_undo_43 ⟨Nat.zero_le _, Nat.zero_le _⟩) hD hS hA (fun H locs hP hD hS => ?_)
        refine lv_aload_n hx hb dX9_undo_46 rfl (lv_at hl 0 rfl) ?_
        refine va_get (D := D) (ci := 9) (v := .ref (q 1)) (C := RX9) (T := TX9) (N := 18) hx hb hts inX9 hown hK hP 0 rfl rfl 0 (by decide) lk11 (fun _ h9 => h9) rfl dX9_undo_47 ?_
        refine lv_iload_n hx hb dX9_undo_50 rfl (lv_at hl 1 rfl) ?_
        refine va_aldq hx hb hK hP 1 0 rfl rfl (show zz_in (1 : Int32) 3 by decide) dX9_undo_51 ?_
        refine W.eq (g2 := F0 m 52 ls [.ref (q 4)]) rfl ?_
        refine va_get (D := D) (ci := 6) (v := .int (zz_gI S7 1)) (C := RX6) (T := TX6) (N := 2) hx hb hts inX6 hown hK hP 4 rfl rfl 1 (by decide) lk117 (fun _ h9 => h9) rfl dX9_undo_52 ?_
        obtain ⟨rfl, rfl⟩ := zz_e2 hf
        exact hret _ _ _ _ dX9_undo_55 hP hD hS
      · have hf := zz_ps hf c20
        refine lv_bipush (v := (-3 : Int32)) hx hb dX9_undo_23 (by decide) ?_
        obtain ⟨rfl, rfl⟩ := zz_e2 hf
        exact hret _ _ _ _ dX9_undo_25 hP hD hS
    have hf := zz_ng hf ci16_1
    by_cases ci16_2 : u0 = (2 : Int32)
    · have hf := zz_ps hf ci16_2
      have hl : lv_has ls 2 [(0, .ref (q 0)), (1, .int (2 : Int32))] := ci16_2 ▸ hl
      refine zz_ti (y := (2 : Int32)) ci16_2.symm ?_
      refine va_aldq hx hb hK hP 1 0 rfl rfl (show zz_in (2 : Int32) 3 by decide) dX9_undo_16 ?_
      refine W.eq (g2 := F0 m 17 ls [.ref (q 6)]) rfl ?_
      refine va_get (D := D) (ci := 6) (v := .int (zz_gI S 2)) (C := RX6) (T := TX6) (N := 2) hx hb hts inX6 hown hK hP 6 rfl rfl 1 (by decide) lk117 (fun _ h9 => h9) rfl dX9_undo_17 ?_
      refine lv_if_ne (tgt := 26) hx hb dX9_undo_20 (by decide) (fun c20 => ?_) (fun c20 => ?_)
      · have hf := zz_ng hf c20
        refine lv_aload_n hx hb dX9_undo_26 rfl (lv_at hl 0 rfl) ?_
        refine va_get (D := D) (ci := 9) (v := .ref (q 1)) (C := RX9) (T := TX9) (N := 18) hx hb hts inX9 hown hK hP 0 rfl rfl 0 (by decide) lk11 (fun _ h9 => h9) rfl dX9_undo_27 ?_
        refine lv_iload_n hx hb dX9_undo_30 rfl (lv_at hl 1 rfl) ?_
        refine va_aldq hx hb hK hP 1 0 rfl rfl (show zz_in (2 : Int32) 3 by decide) dX9_undo_31 ?_
        refine W.eq (g2 := F0 m 32 ls [.ref (q 6)]) rfl ?_
        refine lv_dup hx hb dX9_undo_32 rfl ?_
        refine va_get (D := D) (ci := 6) (v := .int (zz_gI S 2)) (C := RX6) (T := TX6) (N := 2) hx hb hts inX6 hown hK hP 6 rfl rfl 1 (by decide) lk117 (fun _ h9 => h9) rfl dX9_undo_33 ?_
        refine lv_iconst (v := (1 : Int32)) hx hb dX9_undo_36 (by decide) ?_
        refine lv_isub hx hb dX9_undo_37 ?_
        obtain ⟨S9, hS9, hf⟩ := zz_lts hf
        refine va_put (D := D) (ci := 6) (v := .int ((zz_gI S 2) - (1 : Int32))) (ty := .int) (C := RX6) (T := TX6) (N := 2) hx hb hts inX6 tyX6 tyX6_ok nmX6 hown hK hP hD hS 6 rfl rfl 1 (by decide) lk117 (fun _ h9 => h9) rfl (by decide +kernel) rfl rfl (Nat.le_of_ble_eq_true rfl) dX9_undo_38 (fun H locs hP hD hS => ?_)
        have hP : va_P D vwCl (zw_9 q k S9) H := by rw [hS9]; exact hP
        have hD : va_D A (zw_9 q k S9) := by rw [hS9]; exact hD
        refine lv_aload_n hx hb dX9_undo_41 rfl (lv_at hl 0 rfl) ?_
        refine lv_iload_n hx hb dX9_undo_42 rfl (lv_at hl 1 rfl) ?_
        obtain ⟨S10, hc11, hf⟩ := zz_b1s hf
        refine zz_jv0 (va_runV (As := [.int (2 : Int32)]) (rest := []) hfx (zc_X9_readAgain l D tb q k F (2 : Int32) S9 S10 hc11 H.size) (cwV 1 hts gX9_undo_X9_readAgain rfl rfl rfl (by decide +kernel) ⟨Nat.le_of_ble_eq_true rfl, Nat.le_of_ble_eq_true rfl⟩) (zz_pre0V hK hP hD hS hA hE 0 rfl rfl rfl) rfl rfl hl.1 rfl (lv_room (Nat.le_of_ble_eq_true rfl)) dX9_undo_43 ⟨Nat.zero_le _, Nat.zero_le _⟩) hD hS hA (fun H locs hP hD hS => ?_)
        refine lv_aload_n hx hb dX9_undo_46 rfl (lv_at hl 0 rfl) ?_
        refine va_get (D := D) (ci := 9) (v := .ref (q 1)) (C := RX9) (T := TX9) (N := 18) hx hb hts inX9 hown hK hP 0 rfl rfl 0 (by decide) lk11 (fun _ h9 => h9) rfl dX9_undo_47 ?_
        refine lv_iload_n hx hb dX9_undo_50 rfl (lv_at hl 1 rfl) ?_
        refine va_aldq hx hb hK hP 1 0 rfl rfl (show zz_in (2 : Int32) 3 by decide) dX9_undo_51 ?_
        refine W.eq (g2 := F0 m 52 ls [.ref (q 6)]) rfl ?_
        refine va_get (D := D) (ci := 6) (v := .int (zz_gI S10 2)) (C := RX6) (T := TX6) (N := 2) hx hb hts inX6 hown hK hP 6 rfl rfl 1 (by decide) lk117 (fun _ h9 => h9) rfl dX9_undo_52 ?_
        obtain ⟨rfl, rfl⟩ := zz_e2 hf
        exact hret _ _ _ _ dX9_undo_55 hP hD hS
      · have hf := zz_ps hf c20
        refine lv_bipush (v := (-3 : Int32)) hx hb dX9_undo_23 (by decide) ?_
        obtain ⟨rfl, rfl⟩ := zz_e2 hf
        exact hret _ _ _ _ dX9_undo_25 hP hD hS
    have hf := zz_ng hf ci16_2
    exact nomatch hf
  · have hf := zz_ps hf c5
    refine lv_bipush (v := (-2 : Int32)) hx hb dX9_undo_8 (by decide) ?_
    obtain ⟨rfl, rfl⟩ := zz_e2 hf
    exact hret _ _ _ _ dX9_undo_10 hP hD hS
def rmX9_fault : Room := { frames := 1, cells := 0, slots := 0, locals := 21 }
set_option maxHeartbeats 4000000 in
set_option maxRecDepth 100000 in
theorem zc_X9_fault (l : Launch) (D : va_G) (tb : Nat → Nat) (q : Nat → Nat) (k : Nat → ClassId) (F : Nat) (u0 : Int32) (S : zz_M) (r : Int32) (hf : pX9_fault F u0 S = some r) : zz_Mi l yX9_fault wsX9_fault rmX9_fault D tb [((k 1), .object "CatBeat$Text"), ((k 3), .int), ((k 5), .int), ((k 7), .int), ((k 8), .int), ((k 9), .int), ((k 11), .int), ((k 13), .int), ((k 15), .int), ((k 16), .int), ((k 18), .int), ((k 19), .int), ((k 20), .object "CatBeat$Sheet"), ((k 22), .int), ((k 24), .int), ((k 26), .int), ((k 28), .int), ((k 30), .int), ((k 31), .long), ((k 32), .boolean), ((k 34), .int), ((k 35), .long), ((k 37), .int), ((k 39), .int), ((k 40), .long), ((k 41), .boolean), ((k 43), .int), ((k 44), .long), ((k 46), .long), ((k 47), .int)] [.ref (q 0), .int u0] (zw_9 q k S) (zw_9 q k S) r := by
  refine zz_ofi (cc := cX9_fault) (maxL := 2) (by decide) rfl (Nat.le_of_ble_eq_true rfl) ?_
  intro p e s m args below meth c A Q hfx hK hA hE hret H locs hP hD hS ls hl
  obtain ⟨hx, hb, hml, hown, hts⟩ := id hfx
  have inX9 : ∀ w ∈ u_ws RX9 TX9 18, w ∈ wsX9_fault := by decide +kernel
  have lk15 := hts (.fieldLink RX9 15 "CatBeat" "faults" "[I") (by decide +kernel)
  have hl : lv_has ls 2 [(0, .ref (q 0)), (1, .int u0)] := hl
  unfold pX9_fault at hf
  refine lv_aload_n hx hb dX9_fault_0 rfl (lv_at hl 0 rfl) ?_
  refine lv_iload_n hx hb dX9_fault_1 rfl (lv_at hl 1 rfl) ?_
  obtain ⟨r1, hc2, hf⟩ := zz_b1s hf
  refine zz_ji0 (va_runV (As := [.int u0]) (rest := []) hfx (zc_X9_isText l D tb q k F u0 S r1 hc2 H.size) (cwV 1 hts gX9_fault_X9_isText rfl rfl rfl (by decide +kernel) ⟨Nat.le_of_ble_eq_true rfl, Nat.le_of_ble_eq_true rfl⟩) (zz_pre0V hK hP hD hS hA hE 0 rfl rfl rfl) rfl rfl hl.1 rfl (lv_room (Nat.le_of_ble_eq_true rfl)) dX9_fault_2 ⟨Nat.zero_le _, Nat.zero_le _⟩) hD hS hA (fun H locs hP hD hS => ?_)
  obtain ⟨j19_4, hj19_4, hf⟩ := zz_lts hf
  have Kj19_4 : ∀ (y3 : Int32) (H : Heap) (locs : List Loc), va_P D vwCl (zw_9 q k S) H → va_D A (zw_9 q k S) → va_S A s.heap H locs → ∀ ls : Array Slot, lv_has ls 2 [] → j19_4 y3 = some r → W p l e rmX9_fault s m args below meth c H locs 0 0 Q (F0 m 19 ls [.int y3]) := by
    intro y3 H locs hP hD hS ls hl hf
    rw [hj19_4] at hf
    obtain rfl := zz_e1 hf
    exact hret _ _ _ _ dX9_fault_19 hP hD hS
  refine lv_if_eq (tgt := 17) hx hb dX9_fault_5 (by decide) (fun c5 => ?_) (fun c5 => ?_)
  · have hf := zz_ps hf c5
    refine lv_bipush (v := (-2 : Int32)) hx hb dX9_fault_17 (by decide) ?_
    exact Kj19_4 (-2 : Int32) _ _ hP hD hS ls (lv_sub hl [] rfl) hf
  · have hf := zz_ng hf c5
    refine lv_aload_n hx hb dX9_fault_8 rfl (lv_at hl 0 rfl) ?_
    refine va_get (D := D) (ci := 9) (v := .ref (q 8)) (C := RX9) (T := TX9) (N := 18) hx hb hts inX9 hown hK hP 0 rfl rfl 1 (by decide) lk15 (fun _ h9 => h9) rfl dX9_fault_9 ?_
    refine lv_iload_n hx hb dX9_fault_12 rfl (lv_at hl 1 rfl) ?_
    obtain ⟨hg5, hf⟩ := zz_gd hf
    refine va_iald hx hb hK hP 8 4 rfl rfl hg5 dX9_fault_13 ?_
    refine lv_goto (tgt := 19) hx hb dX9_fault_14 (by decide) ?_
    exact Kj19_4 ((zz_gA S 3) (Int32.toNatClampNeg u0)) _ _ hP hD hS ls (lv_sub hl [] rfl) hf
def rmX9_cell : Room := { frames := 0, cells := 0, slots := 0, locals := 0 }
set_option maxHeartbeats 4000000 in
set_option maxRecDepth 100000 in
theorem zc_X9_cell (l : Launch) (D : va_G) (tb : Nat → Nat) (q : Nat → Nat) (k : Nat → ClassId) (F : Nat) (u0 : Int32) (S : zz_M) (r : Int32) (hf : pX9_cell F u0 S = some r) : zz_Mi l yX9_cell wsX9_cell rmX9_cell D tb [((k 1), .object "CatBeat$Text"), ((k 3), .int), ((k 5), .int), ((k 7), .int), ((k 8), .int), ((k 9), .int), ((k 11), .int), ((k 13), .int), ((k 15), .int), ((k 16), .int), ((k 18), .int), ((k 19), .int), ((k 20), .object "CatBeat$Sheet"), ((k 22), .int), ((k 24), .int), ((k 26), .int), ((k 28), .int), ((k 30), .int), ((k 31), .long), ((k 32), .boolean), ((k 34), .int), ((k 35), .long), ((k 37), .int), ((k 39), .int), ((k 40), .long), ((k 41), .boolean), ((k 43), .int), ((k 44), .long), ((k 46), .long), ((k 47), .int)] [.ref (q 0), .int u0] (zw_9 q k S) (zw_9 q k S) r := by
  refine zz_ofi (cc := cX9_cell) (maxL := 2) (by decide) rfl (Nat.le_of_ble_eq_true rfl) ?_
  intro p e s m args below meth c A Q hfx hK hA hE hret H locs hP hD hS ls hl
  obtain ⟨hx, hb, hml, hown, hts⟩ := id hfx
  have inX9 : ∀ w ∈ u_ws RX9 TX9 18, w ∈ wsX9_cell := by decide +kernel
  have inX8 : ∀ w ∈ u_ws RX8 TX8 4, w ∈ wsX9_cell := by decide +kernel
  have lk25 := hts (.fieldLink RX9 25 "CatBeat" "ward" "LCatBeat$Ward;") (by decide +kernel)
  have lk120 := hts (.fieldLink RX9 120 "CatBeat$Ward" "count" "I") (by decide +kernel)
  have lk123 := hts (.fieldLink RX9 123 "CatBeat$Ward" "kinds" "[I") (by decide +kernel)
  have hl : lv_has ls 2 [(0, .ref (q 0)), (1, .int u0)] := hl
  unfold pX9_cell at hf
  refine lv_iload_n hx hb dX9_cell_0 rfl (lv_at hl 1 rfl) ?_
  obtain ⟨j10_1, hj10_1, hf⟩ := zz_lts hf
  have Kj10_1 : ∀  (H : Heap) (locs : List Loc), va_P D vwCl (zw_9 q k S) H → va_D A (zw_9 q k S) → va_S A s.heap H locs → ∀ ls : Array Slot, lv_has ls 2 [] → j10_1 () = some r → W p l e rmX9_cell s m args below meth c H locs 0 0 Q (F0 m 10 ls []) := by
    intro  H locs hP hD hS ls hl hf
    rw [hj10_1] at hf
    refine lv_bipush (v := (-2 : Int32)) hx hb dX9_cell_10 (by decide) ?_
    obtain rfl := zz_e1 hf
    exact hret _ _ _ _ dX9_cell_12 hP hD hS
  refine lv_if_lt (tgt := 10) hx hb dX9_cell_1 (by decide) (fun c1 => ?_) (fun c1 => ?_)
  · have hf := zz_ps hf c1
    exact Kj10_1  _ _ hP hD hS ls (lv_sub hl [] rfl) hf
  · have hf := zz_ng hf c1
    refine lv_iload_n hx hb dX9_cell_4 rfl (lv_at hl 1 rfl) ?_
    refine lv_bipush (v := (36 : Int32)) hx hb dX9_cell_5 (by decide) ?_
    refine lv_icmp_lt (tgt := 13) hx hb dX9_cell_7 (by decide) (fun c7 => ?_) (fun c7 => ?_)
    · have hf := zz_ps hf c7
      refine lv_iload_n hx hb dX9_cell_13 rfl (lv_at hl 1 rfl) ?_
      refine lv_aload_n hx hb dX9_cell_14 rfl (lv_at hl 0 rfl) ?_
      refine va_get (D := D) (ci := 9) (v := .ref (q 10)) (C := RX9) (T := TX9) (N := 18) hx hb hts inX9 hown hK hP 0 rfl rfl 3 (by decide) lk25 (fun _ h9 => h9) rfl dX9_cell_15 ?_
      refine va_get (D := D) (ci := 8) (v := .int (zz_gI S 3)) (C := RX8) (T := TX8) (N := 4) hx hb hts inX8 hown hK hP 10 rfl rfl 1 (by decide) lk120 (fun _ h9 => h9) rfl dX9_cell_18 ?_
      obtain ⟨j37_3, hj37_3, hf⟩ := zz_lts hf
      have Kj37_3 : ∀ (y2 : Int32) (H : Heap) (locs : List Loc), va_P D vwCl (zw_9 q k S) H → va_D A (zw_9 q k S) → va_S A s.heap H locs → ∀ ls : Array Slot, lv_has ls 2 [] → j37_3 y2 = some r → W p l e rmX9_cell s m args below meth c H locs 0 0 Q (F0 m 37 ls [.int y2]) := by
        intro y2 H locs hP hD hS ls hl hf
        rw [hj37_3] at hf
        obtain rfl := zz_e1 hf
        exact hret _ _ _ _ dX9_cell_37 hP hD hS
      refine lv_icmp_ge (tgt := 36) hx hb dX9_cell_21 (by decide) (fun c21 => ?_) (fun c21 => ?_)
      · have hf := zz_ps hf c21
        refine lv_iconst (v := (-1 : Int32)) hx hb dX9_cell_36 (by decide) ?_
        exact Kj37_3 (-1 : Int32) _ _ hP hD hS ls (lv_sub hl [] rfl) hf
      · have hf := zz_ng hf c21
        refine lv_aload_n hx hb dX9_cell_24 rfl (lv_at hl 0 rfl) ?_
        refine va_get (D := D) (ci := 9) (v := .ref (q 10)) (C := RX9) (T := TX9) (N := 18) hx hb hts inX9 hown hK hP 0 rfl rfl 3 (by decide) lk25 (fun _ h9 => h9) rfl dX9_cell_25 ?_
        refine va_get (D := D) (ci := 8) (v := .ref (q 11)) (C := RX8) (T := TX8) (N := 4) hx hb hts inX8 hown hK hP 10 rfl rfl 0 (by decide) lk123 (fun _ h9 => h9) rfl dX9_cell_28 ?_
        refine lv_iload_n hx hb dX9_cell_31 rfl (lv_at hl 1 rfl) ?_
        obtain ⟨hg4, hf⟩ := zz_gd hf
        refine va_iald hx hb hK hP 11 6 rfl rfl hg4 dX9_cell_32 ?_
        refine lv_goto (tgt := 37) hx hb dX9_cell_33 (by decide) ?_
        exact Kj37_3 ((zz_gA S 5) (Int32.toNatClampNeg u0)) _ _ hP hD hS ls (lv_sub hl [] rfl) hf
    · have hf := zz_ng hf c7
      exact Kj10_1  _ _ hP hD hS ls (lv_sub hl [] rfl) hf
def rmX9_beat : Room := { frames := 0, cells := 0, slots := 0, locals := 0 }
set_option maxHeartbeats 4000000 in
set_option maxRecDepth 100000 in
theorem zc_X9_beat (l : Launch) (D : va_G) (tb : Nat → Nat) (q : Nat → Nat) (k : Nat → ClassId) (F : Nat) (u0 : Int32) (S : zz_M) (r : Int32) (hf : pX9_beat F u0 S = some r) : zz_Mi l yX9_beat wsX9_beat rmX9_beat D tb [((k 1), .object "CatBeat$Text"), ((k 3), .int), ((k 5), .int), ((k 7), .int), ((k 8), .int), ((k 9), .int), ((k 11), .int), ((k 13), .int), ((k 15), .int), ((k 16), .int), ((k 18), .int), ((k 19), .int), ((k 20), .object "CatBeat$Sheet"), ((k 22), .int), ((k 24), .int), ((k 26), .int), ((k 28), .int), ((k 30), .int), ((k 31), .long), ((k 32), .boolean), ((k 34), .int), ((k 35), .long), ((k 37), .int), ((k 39), .int), ((k 40), .long), ((k 41), .boolean), ((k 43), .int), ((k 44), .long), ((k 46), .long), ((k 47), .int)] [.ref (q 0), .int u0] (zw_9 q k S) (zw_9 q k S) r := by
  refine zz_ofi (cc := cX9_beat) (maxL := 2) (by decide) rfl (Nat.le_of_ble_eq_true rfl) ?_
  intro p e s m args below meth c A Q hfx hK hA hE hret H locs hP hD hS ls hl
  obtain ⟨hx, hb, hml, hown, hts⟩ := id hfx
  have inX9 : ∀ w ∈ u_ws RX9 TX9 18, w ∈ wsX9_beat := by decide +kernel
  have inX4 : ∀ w ∈ u_ws RX4 TX4 2, w ∈ wsX9_beat := by decide +kernel
  have lk32 := hts (.fieldLink RX9 32 "CatBeat" "round" "LCatBeat$Round;") (by decide +kernel)
  have lk126 := hts (.fieldLink RX9 126 "CatBeat$Round" "count" "I") (by decide +kernel)
  have lk127 := hts (.fieldLink RX9 127 "CatBeat$Round" "steps" "[I") (by decide +kernel)
  have hl : lv_has ls 2 [(0, .ref (q 0)), (1, .int u0)] := hl
  unfold pX9_beat at hf
  refine lv_iload_n hx hb dX9_beat_0 rfl (lv_at hl 1 rfl) ?_
  obtain ⟨j10_1, hj10_1, hf⟩ := zz_lts hf
  have Kj10_1 : ∀  (H : Heap) (locs : List Loc), va_P D vwCl (zw_9 q k S) H → va_D A (zw_9 q k S) → va_S A s.heap H locs → ∀ ls : Array Slot, lv_has ls 2 [] → j10_1 () = some r → W p l e rmX9_beat s m args below meth c H locs 0 0 Q (F0 m 10 ls []) := by
    intro  H locs hP hD hS ls hl hf
    rw [hj10_1] at hf
    refine lv_bipush (v := (-2 : Int32)) hx hb dX9_beat_10 (by decide) ?_
    obtain rfl := zz_e1 hf
    exact hret _ _ _ _ dX9_beat_12 hP hD hS
  refine lv_if_lt (tgt := 10) hx hb dX9_beat_1 (by decide) (fun c1 => ?_) (fun c1 => ?_)
  · have hf := zz_ps hf c1
    exact Kj10_1  _ _ hP hD hS ls (lv_sub hl [] rfl) hf
  · have hf := zz_ng hf c1
    refine lv_iload_n hx hb dX9_beat_4 rfl (lv_at hl 1 rfl) ?_
    refine lv_bipush (v := (24 : Int32)) hx hb dX9_beat_5 (by decide) ?_
    refine lv_icmp_lt (tgt := 13) hx hb dX9_beat_7 (by decide) (fun c7 => ?_) (fun c7 => ?_)
    · have hf := zz_ps hf c7
      refine lv_iload_n hx hb dX9_beat_13 rfl (lv_at hl 1 rfl) ?_
      refine lv_aload_n hx hb dX9_beat_14 rfl (lv_at hl 0 rfl) ?_
      refine va_get (D := D) (ci := 9) (v := .ref (q 12)) (C := RX9) (T := TX9) (N := 18) hx hb hts inX9 hown hK hP 0 rfl rfl 4 (by decide) lk32 (fun _ h9 => h9) rfl dX9_beat_15 ?_
      refine va_get (D := D) (ci := 4) (v := .int (zz_gI S 5)) (C := RX4) (T := TX4) (N := 2) hx hb hts inX4 hown hK hP 12 rfl rfl 1 (by decide) lk126 (fun _ h9 => h9) rfl dX9_beat_18 ?_
      obtain ⟨j37_3, hj37_3, hf⟩ := zz_lts hf
      have Kj37_3 : ∀ (y2 : Int32) (H : Heap) (locs : List Loc), va_P D vwCl (zw_9 q k S) H → va_D A (zw_9 q k S) → va_S A s.heap H locs → ∀ ls : Array Slot, lv_has ls 2 [] → j37_3 y2 = some r → W p l e rmX9_beat s m args below meth c H locs 0 0 Q (F0 m 37 ls [.int y2]) := by
        intro y2 H locs hP hD hS ls hl hf
        rw [hj37_3] at hf
        obtain rfl := zz_e1 hf
        exact hret _ _ _ _ dX9_beat_37 hP hD hS
      refine lv_icmp_ge (tgt := 36) hx hb dX9_beat_21 (by decide) (fun c21 => ?_) (fun c21 => ?_)
      · have hf := zz_ps hf c21
        refine lv_iconst (v := (-1 : Int32)) hx hb dX9_beat_36 (by decide) ?_
        exact Kj37_3 (-1 : Int32) _ _ hP hD hS ls (lv_sub hl [] rfl) hf
      · have hf := zz_ng hf c21
        refine lv_aload_n hx hb dX9_beat_24 rfl (lv_at hl 0 rfl) ?_
        refine va_get (D := D) (ci := 9) (v := .ref (q 12)) (C := RX9) (T := TX9) (N := 18) hx hb hts inX9 hown hK hP 0 rfl rfl 4 (by decide) lk32 (fun _ h9 => h9) rfl dX9_beat_25 ?_
        refine va_get (D := D) (ci := 4) (v := .ref (q 13)) (C := RX4) (T := TX4) (N := 2) hx hb hts inX4 hown hK hP 12 rfl rfl 0 (by decide) lk127 (fun _ h9 => h9) rfl dX9_beat_28 ?_
        refine lv_iload_n hx hb dX9_beat_31 rfl (lv_at hl 1 rfl) ?_
        obtain ⟨hg4, hf⟩ := zz_gd hf
        refine va_iald hx hb hK hP 13 7 rfl rfl hg4 dX9_beat_32 ?_
        refine lv_goto (tgt := 37) hx hb dX9_beat_33 (by decide) ?_
        exact Kj37_3 ((zz_gA S 6) (Int32.toNatClampNeg u0)) _ _ hP hD hS ls (lv_sub hl [] rfl) hf
    · have hf := zz_ng hf c7
      exact Kj10_1  _ _ hP hD hS ls (lv_sub hl [] rfl) hf
def rmX9_isThief : Room := { frames := 0, cells := 0, slots := 0, locals := 0 }
set_option maxHeartbeats 4000000 in
set_option maxRecDepth 100000 in
theorem zc_X9_isThief (l : Launch) (D : va_G) (tb : Nat → Nat) (q : Nat → Nat) (k : Nat → ClassId) (F : Nat) (u0 : Int32) (S : zz_M) (r : Int32) (hf : pX9_isThief F u0 S = some r) : zz_Mi l yX9_isThief wsX9_isThief rmX9_isThief D tb [((k 1), .object "CatBeat$Text"), ((k 3), .int), ((k 5), .int), ((k 7), .int), ((k 8), .int), ((k 9), .int), ((k 11), .int), ((k 13), .int), ((k 15), .int), ((k 16), .int), ((k 18), .int), ((k 19), .int), ((k 20), .object "CatBeat$Sheet"), ((k 22), .int), ((k 24), .int), ((k 26), .int), ((k 28), .int), ((k 30), .int), ((k 31), .long), ((k 32), .boolean), ((k 34), .int), ((k 35), .long), ((k 37), .int), ((k 39), .int), ((k 40), .long), ((k 41), .boolean), ((k 43), .int), ((k 44), .long), ((k 46), .long), ((k 47), .int)] [.ref (q 0), .int u0] (zw_9 q k S) (zw_9 q k S) r := by
  refine zz_ofz (cc := cX9_isThief) (maxL := 2) (by decide) rfl (Nat.le_of_ble_eq_true rfl) ?_
  intro p e s m args below meth c A Q hfx hK hA hE hret H locs hP hD hS ls hl
  obtain ⟨hx, hb, hml, hown, hts⟩ := id hfx
  have inX9 : ∀ w ∈ u_ws RX9 TX9 18, w ∈ wsX9_isThief := by decide +kernel
  have inX7 : ∀ w ∈ u_ws RX7 TX7 3, w ∈ wsX9_isThief := by decide +kernel
  have lk39 := hts (.fieldLink RX9 39 "CatBeat" "thieves" "LCatBeat$Thieves;") (by decide +kernel)
  have lk190 := hts (.fieldLink RX9 190 "CatBeat$Thieves" "count" "I") (by decide +kernel)
  have hl : lv_has ls 2 [(0, .ref (q 0)), (1, .int u0)] := hl
  unfold pX9_isThief at hf
  refine lv_iload_n hx hb dX9_isThief_0 rfl (lv_at hl 1 rfl) ?_
  obtain ⟨v1, hv1, hf⟩ := zz_lts hf
  have hK2 : ∀ ls : Array Slot, lv_has ls 2 [] → W p l e rmX9_isThief s m args below meth c H locs 0 0 Q (F0 m 20 ls [.int v1]) := by
    intro ls hl
    obtain rfl := zz_e1 hf
    exact hret _ _ _ _ (by rw [hv1]; (repeat' split) <;> rfl) dX9_isThief_20 hP hD hS
  refine lv_if_lt (tgt := 19) hx hb dX9_isThief_1 (by decide) (fun c1 => ?_) (fun c1 => ?_)
  · refine lv_iconst (v := (0 : Int32)) hx hb dX9_isThief_19 (by decide) ?_
    refine zz_ti (show v1 = (0 : Int32) by rw [hv1, if_pos c1]) ?_
    exact hK2 ls (lv_sub hl [] rfl)
  · refine lv_iload_n hx hb dX9_isThief_4 rfl (lv_at hl 1 rfl) ?_
    refine lv_aload_n hx hb dX9_isThief_5 rfl (lv_at hl 0 rfl) ?_
    refine va_get (D := D) (ci := 9) (v := .ref (q 14)) (C := RX9) (T := TX9) (N := 18) hx hb hts inX9 hown hK hP 0 rfl rfl 5 (by decide) lk39 (fun _ h9 => h9) rfl dX9_isThief_6 ?_
    refine va_get (D := D) (ci := 7) (v := .int (zz_gI S 6)) (C := RX7) (T := TX7) (N := 3) hx hb hts inX7 hown hK hP 14 rfl rfl 2 (by decide) lk190 (fun _ h9 => h9) rfl dX9_isThief_9 ?_
    refine lv_icmp_ge (tgt := 19) hx hb dX9_isThief_12 (by decide) (fun c12 => ?_) (fun c12 => ?_)
    · refine lv_iconst (v := (0 : Int32)) hx hb dX9_isThief_19 (by decide) ?_
      refine zz_ti (show v1 = (0 : Int32) by rw [hv1, if_neg c1, if_pos c12]) ?_
      exact hK2 ls (lv_sub hl [] rfl)
    · refine lv_iconst (v := (1 : Int32)) hx hb dX9_isThief_15 (by decide) ?_
      refine lv_goto (tgt := 20) hx hb dX9_isThief_16 (by decide) ?_
      refine zz_ti (show v1 = (1 : Int32) by rw [hv1, if_neg c1, if_neg c12]) ?_
      exact hK2 ls (lv_sub hl [] rfl)
def rmX9_thief : Room := { frames := 1, cells := 0, slots := 0, locals := 21 }
set_option maxHeartbeats 4000000 in
set_option maxRecDepth 100000 in
theorem zc_X9_thief (l : Launch) (D : va_G) (tb : Nat → Nat) (q : Nat → Nat) (k : Nat → ClassId) (F : Nat) (u0 : Int32) (u1 : Int32) (S : zz_M) (r : Int32) (hf : pX9_thief F u0 u1 S = some r) : zz_Mi l yX9_thief wsX9_thief rmX9_thief D tb [((k 1), .object "CatBeat$Text"), ((k 3), .int), ((k 5), .int), ((k 7), .int), ((k 8), .int), ((k 9), .int), ((k 11), .int), ((k 13), .int), ((k 15), .int), ((k 16), .int), ((k 18), .int), ((k 19), .int), ((k 20), .object "CatBeat$Sheet"), ((k 22), .int), ((k 24), .int), ((k 26), .int), ((k 28), .int), ((k 30), .int), ((k 31), .long), ((k 32), .boolean), ((k 34), .int), ((k 35), .long), ((k 37), .int), ((k 39), .int), ((k 40), .long), ((k 41), .boolean), ((k 43), .int), ((k 44), .long), ((k 46), .long), ((k 47), .int)] [.ref (q 0), .int u0, .int u1] (zw_9 q k S) (zw_9 q k S) r := by
  refine zz_ofi (cc := cX9_thief) (maxL := 3) (by decide) rfl (Nat.le_of_ble_eq_true rfl) ?_
  intro p e s m args below meth c A Q hfx hK hA hE hret H locs hP hD hS ls hl
  obtain ⟨hx, hb, hml, hown, hts⟩ := id hfx
  have inX9 : ∀ w ∈ u_ws RX9 TX9 18, w ∈ wsX9_thief := by decide +kernel
  have inX7 : ∀ w ∈ u_ws RX7 TX7 3, w ∈ wsX9_thief := by decide +kernel
  have lk39 := hts (.fieldLink RX9 39 "CatBeat" "thieves" "LCatBeat$Thieves;") (by decide +kernel)
  have lk139 := hts (.fieldLink RX9 139 "CatBeat$Thieves" "needs" "[I") (by decide +kernel)
  have lk136 := hts (.fieldLink RX9 136 "CatBeat$Thieves" "wants" "[I") (by decide +kernel)
  have hl : lv_has ls 3 [(0, .ref (q 0)), (1, .int u0), (2, .int u1)] := hl
  unfold pX9_thief at hf
  refine lv_aload_n hx hb dX9_thief_0 rfl (lv_at hl 0 rfl) ?_
  refine lv_iload_n hx hb dX9_thief_1 rfl (lv_at hl 1 rfl) ?_
  obtain ⟨r1, hc2, hf⟩ := zz_b1s hf
  refine zz_ji0 (va_runV (As := [.int u0]) (rest := []) hfx (zc_X9_isThief l D tb q k F u0 S r1 hc2 H.size) (cwV 1 hts gX9_thief_X9_isThief rfl rfl rfl (by decide +kernel) ⟨Nat.le_of_ble_eq_true rfl, Nat.le_of_ble_eq_true rfl⟩) (zz_pre0V hK hP hD hS hA hE 0 rfl rfl rfl) rfl rfl hl.1 rfl (lv_room (Nat.le_of_ble_eq_true rfl)) dX9_thief_2 ⟨Nat.zero_le _, Nat.zero_le _⟩) hD hS hA (fun H locs hP hD hS => ?_)
  obtain ⟨j15_3, hj15_3, hf⟩ := zz_lts hf
  have Kj15_3 : ∀  (H : Heap) (locs : List Loc), va_P D vwCl (zw_9 q k S) H → va_D A (zw_9 q k S) → va_S A s.heap H locs → ∀ ls : Array Slot, lv_has ls 3 [] → j15_3 () = some r → W p l e rmX9_thief s m args below meth c H locs 0 0 Q (F0 m 15 ls []) := by
    intro  H locs hP hD hS ls hl hf
    rw [hj15_3] at hf
    refine lv_bipush (v := (-2 : Int32)) hx hb dX9_thief_15 (by decide) ?_
    obtain rfl := zz_e1 hf
    exact hret _ _ _ _ dX9_thief_17 hP hD hS
  refine lv_if_eq (tgt := 15) hx hb dX9_thief_5 (by decide) (fun c5 => ?_) (fun c5 => ?_)
  · have hf := zz_ps hf c5
    exact Kj15_3  _ _ hP hD hS ls (lv_sub hl [] rfl) hf
  · have hf := zz_ng hf c5
    refine lv_iload_n hx hb dX9_thief_8 rfl (lv_at hl 2 rfl) ?_
    obtain ⟨r4, hc5, hf⟩ := zz_b1s hf
    refine zz_ji (va_runS (As := [.int u1]) (rest := []) hfx (zc_X9_isEither l D tb  F u1  r4 hc5 H.size) (va_cwS 1 hts gX9_thief_X9_isEither rfl rfl rfl (by decide +kernel) ⟨Nat.le_of_ble_eq_true rfl, Nat.le_of_ble_eq_true rfl⟩) (zz_preS hK hP hD hS hA hE [] [] rfl (by decide) rfl) rfl rfl hl.1 rfl (lv_room (Nat.le_of_ble_eq_true rfl)) dX9_thief_9 ⟨Nat.zero_le _, Nat.zero_le _⟩) hP hD hS hA [] rfl rfl (fun H locs hP hD hS => ?_)
    have hP : va_P D vwCl (zw_9 q k S) H := hP
    have hD : va_D A (zw_9 q k S) := hD
    refine lv_if_ne (tgt := 18) hx hb dX9_thief_12 (by decide) (fun c12 => ?_) (fun c12 => ?_)
    · have hf := zz_ng hf c12
      refine lv_iload_n hx hb dX9_thief_18 rfl (lv_at hl 2 rfl) ?_
      obtain ⟨j43_7, hj43_7, hf⟩ := zz_lts hf
      have Kj43_7 : ∀ (y6 : Int32) (H : Heap) (locs : List Loc), va_P D vwCl (zw_9 q k S) H → va_D A (zw_9 q k S) → va_S A s.heap H locs → ∀ ls : Array Slot, lv_has ls 3 [] → j43_7 y6 = some r → W p l e rmX9_thief s m args below meth c H locs 0 0 Q (F0 m 43 ls [.int y6]) := by
        intro y6 H locs hP hD hS ls hl hf
        rw [hj43_7] at hf
        obtain rfl := zz_e1 hf
        exact hret _ _ _ _ dX9_thief_43 hP hD hS
      refine lv_if_ne (tgt := 34) hx hb dX9_thief_19 (by decide) (fun c19 => ?_) (fun c19 => ?_)
      · have hf := zz_ng hf c19
        refine lv_aload_n hx hb dX9_thief_34 rfl (lv_at hl 0 rfl) ?_
        refine va_get (D := D) (ci := 9) (v := .ref (q 14)) (C := RX9) (T := TX9) (N := 18) hx hb hts inX9 hown hK hP 0 rfl rfl 5 (by decide) lk39 (fun _ h9 => h9) rfl dX9_thief_35 ?_
        refine va_get (D := D) (ci := 7) (v := .ref (q 16)) (C := RX7) (T := TX7) (N := 3) hx hb hts inX7 hown hK hP 14 rfl rfl 1 (by decide) lk139 (fun _ h9 => h9) rfl dX9_thief_38 ?_
        refine lv_iload_n hx hb dX9_thief_41 rfl (lv_at hl 1 rfl) ?_
        obtain ⟨hg8, hf⟩ := zz_gd hf
        refine va_iald hx hb hK hP 16 9 rfl rfl hg8 dX9_thief_42 ?_
        exact Kj43_7 ((zz_gA S 8) (Int32.toNatClampNeg u0)) _ _ hP hD hS ls (lv_sub hl [] rfl) hf
      · have hf := zz_ps hf c19
        refine lv_aload_n hx hb dX9_thief_22 rfl (lv_at hl 0 rfl) ?_
        refine va_get (D := D) (ci := 9) (v := .ref (q 14)) (C := RX9) (T := TX9) (N := 18) hx hb hts inX9 hown hK hP 0 rfl rfl 5 (by decide) lk39 (fun _ h9 => h9) rfl dX9_thief_23 ?_
        refine va_get (D := D) (ci := 7) (v := .ref (q 15)) (C := RX7) (T := TX7) (N := 3) hx hb hts inX7 hown hK hP 14 rfl rfl 0 (by decide) lk136 (fun _ h9 => h9) rfl dX9_thief_26 ?_
        refine lv_iload_n hx hb dX9_thief_29 rfl (lv_at hl 1 rfl) ?_
        obtain ⟨hg9, hf⟩ := zz_gd hf
        refine va_iald hx hb hK hP 15 8 rfl rfl hg9 dX9_thief_30 ?_
        refine lv_goto (tgt := 43) hx hb dX9_thief_31 (by decide) ?_
        exact Kj43_7 ((zz_gA S 7) (Int32.toNatClampNeg u0)) _ _ hP hD hS ls (lv_sub hl [] rfl) hf
    · have hf := zz_ps hf c12
      exact Kj15_3  _ _ hP hD hS ls (lv_sub hl [] rfl) hf
def rmX9_set : Room := { frames := 0, cells := 0, slots := 0, locals := 0 }
set_option maxHeartbeats 4000000 in
set_option maxRecDepth 100000 in
theorem zc_X9_set (l : Launch) (D : va_G) (tb : Nat → Nat) (q : Nat → Nat) (k : Nat → ClassId) (F : Nat) (u0 : Int32) (u1 : Int32) (S : zz_M) (r : Int32) (o1 : zz_M) (hf : pX9_set F u0 u1 S = some (r, o1)) : zz_Mi l yX9_set wsX9_set rmX9_set D tb [((k 1), .object "CatBeat$Text"), ((k 3), .int), ((k 5), .int), ((k 7), .int), ((k 8), .int), ((k 9), .int), ((k 11), .int), ((k 13), .int), ((k 15), .int), ((k 16), .int), ((k 18), .int), ((k 19), .int), ((k 20), .object "CatBeat$Sheet"), ((k 22), .int), ((k 24), .int), ((k 26), .int), ((k 28), .int), ((k 30), .int), ((k 31), .long), ((k 32), .boolean), ((k 34), .int), ((k 35), .long), ((k 37), .int), ((k 39), .int), ((k 40), .long), ((k 41), .boolean), ((k 43), .int), ((k 44), .long), ((k 46), .long), ((k 47), .int)] [.ref (q 0), .int u0, .int u1] (zw_9 q k S) (zw_9 q k o1) r := by
  refine zz_ofi (cc := cX9_set) (maxL := 4) (by decide) rfl (Nat.le_of_ble_eq_true rfl) ?_
  intro p e s m args below meth c A Q hfx hK hA hE hret H locs hP hD hS ls hl
  obtain ⟨hx, hb, hml, hown, hts⟩ := id hfx
  have inX9 : ∀ w ∈ u_ws RX9 TX9 18, w ∈ wsX9_set := by decide +kernel
  have lk19 := hts (.fieldLink RX9 19 "CatBeat" "settings" "[I") (by decide +kernel)
  have lk142 := hts (.fieldLink RX9 142 "CatBeat" "MOST_OF_SETTING" "[I") (by decide +kernel)
  have lk93 := hts (.fieldLink RX9 93 "CatBeat" "stale" "Z") (by decide +kernel)
  obtain ⟨-, hE0, hE1, hE2⟩ := id hE
  have hl : lv_has ls 4 [(0, .ref (q 0)), (1, .int u0), (2, .int u1)] := hl
  unfold pX9_set at hf
  refine lv_iload_n hx hb dX9_set_0 rfl (lv_at hl 1 rfl) ?_
  obtain ⟨j26_1, hj26_1, hf⟩ := zz_lts hf
  have Kj26_1 : ∀  (H : Heap) (locs : List Loc), va_P D vwCl (zw_9 q k S) H → va_D A (zw_9 q k S) → va_S A s.heap H locs → ∀ ls : Array Slot, lv_has ls 4 [] → j26_1 () = some (r, o1) → W p l e rmX9_set s m args below meth c H locs 0 0 Q (F0 m 26 ls []) := by
    intro  H locs hP hD hS ls hl hf
    rw [hj26_1] at hf
    refine lv_bipush (v := (-2 : Int32)) hx hb dX9_set_26 (by decide) ?_
    obtain ⟨rfl, rfl⟩ := zz_e2 hf
    exact hret _ _ _ _ dX9_set_28 hP hD hS
  refine lv_if_lt (tgt := 26) hx hb dX9_set_1 (by decide) (fun c1 => ?_) (fun c1 => ?_)
  · have hf := zz_ps hf c1
    exact Kj26_1  _ _ hP hD hS ls (lv_sub hl [] rfl) hf
  · have hf := zz_ng hf c1
    refine lv_iload_n hx hb dX9_set_4 rfl (lv_at hl 1 rfl) ?_
    refine lv_aload_n hx hb dX9_set_5 rfl (lv_at hl 0 rfl) ?_
    refine va_get (D := D) (ci := 9) (v := .ref (q 9)) (C := RX9) (T := TX9) (N := 18) hx hb hts inX9 hown hK hP 0 rfl rfl 2 (by decide) lk19 (fun _ h9 => h9) rfl dX9_set_6 ?_
    refine va_alen (v := (4 : Int32)) hx hb hK hP 9 5 rfl rfl rfl dX9_set_9 ?_
    refine lv_icmp_ge (tgt := 26) hx hb dX9_set_10 (by decide) (fun c10 => ?_) (fun c10 => ?_)
    · have hf := zz_ps hf c10
      exact Kj26_1  _ _ hP hD hS ls (lv_sub hl [] rfl) hf
    · have hf := zz_ng hf c10
      refine lv_iload_n hx hb dX9_set_13 rfl (lv_at hl 2 rfl) ?_
      refine lv_if_lt (tgt := 26) hx hb dX9_set_14 (by decide) (fun c14 => ?_) (fun c14 => ?_)
      · have hf := zz_ps hf c14
        exact Kj26_1  _ _ hP hD hS ls (lv_sub hl [] rfl) hf
      · have hf := zz_ng hf c14
        refine lv_iload_n hx hb dX9_set_17 rfl (lv_at hl 2 rfl) ?_
        refine va_gets hx hb hE1.1 hS hown lk142 (fun _ h9 => h9) dX9_set_18 ?_
        refine lv_iload_n hx hb dX9_set_21 rfl (lv_at hl 1 rfl) ?_
        obtain ⟨hg2, hf⟩ := zz_gd hf
        refine va_ti (v := .int (zz_T1 (Int32.toNatClampNeg u0))) hx hb hE1.2 hS hg2 rfl dX9_set_22 ?_
        refine lv_icmp_le (tgt := 29) hx hb dX9_set_23 (by decide) (fun c23 => ?_) (fun c23 => ?_)
        · have hf := zz_ps hf c23
          refine lv_aload_n hx hb dX9_set_29 rfl (lv_at hl 0 rfl) ?_
          refine va_get (D := D) (ci := 9) (v := .ref (q 9)) (C := RX9) (T := TX9) (N := 18) hx hb hts inX9 hown hK hP 0 rfl rfl 2 (by decide) lk19 (fun _ h9 => h9) rfl dX9_set_30 ?_
          refine lv_iload_n hx hb dX9_set_33 rfl (lv_at hl 1 rfl) ?_
          obtain ⟨hg3, hf⟩ := zz_gd hf
          refine va_iald hx hb hK hP 9 5 rfl rfl hg3 dX9_set_34 ?_
          obtain ⟨v4, hv4, hf⟩ := zz_lts hf
          refine zz_ti hv4 ?_
          refine lv_istore_n (lv' := [(3, .int v4), (0, .ref (q 0)), (1, .int u0), (2, .int u1)]) hx hb dX9_set_35 rfl hl (by decide) rfl (fun ls hl => ?_)
          refine lv_aload_n hx hb dX9_set_36 rfl (lv_at hl 1 rfl) ?_
          refine va_get (D := D) (ci := 9) (v := .ref (q 9)) (C := RX9) (T := TX9) (N := 18) hx hb hts inX9 hown hK hP 0 rfl rfl 2 (by decide) lk19 (fun _ h9 => h9) rfl dX9_set_37 ?_
          refine lv_iload_n hx hb dX9_set_40 rfl (lv_at hl 2 rfl) ?_
          refine lv_iload_n hx hb dX9_set_41 rfl (lv_at hl 3 rfl) ?_
          obtain ⟨hg5, hf⟩ := zz_gd hf
          obtain ⟨S6, hS6, hf⟩ := zz_lts hf
          refine va_iast hx hb hK hP hD hS 9 5 rfl rfl hg5 dX9_set_42 (fun H locs hP hD hS => ?_)
          have hP : va_P D vwCl (zw_9 q k S6) H := by rw [hS6]; exact hP
          have hD : va_D A (zw_9 q k S6) := by rw [hS6]; exact hD
          refine lv_aload_n hx hb dX9_set_43 rfl (lv_at hl 1 rfl) ?_
          refine lv_iconst (v := (1 : Int32)) hx hb dX9_set_44 (by decide) ?_
          obtain ⟨S7, hS7, hf⟩ := zz_lts hf
          refine va_put (D := D) (ci := 9) (v := .int (1 : Int32)) (ty := .boolean) (C := RX9) (T := TX9) (N := 18) hx hb hts inX9 tyX9 tyX9_ok nmX9 hown hK hP hD hS 0 rfl rfl 16 (by decide) lk93 (fun _ h9 => h9) rfl (by decide +kernel) rfl rfl (Nat.le_of_ble_eq_true rfl) dX9_set_45 (fun H locs hP hD hS => ?_)
          have hP : va_P D vwCl (zw_9 q k S7) H := by rw [hS7]; exact hP
          have hD : va_D A (zw_9 q k S7) := by rw [hS7]; exact hD
          refine lv_iload_n hx hb dX9_set_48 rfl (lv_at hl 0 rfl) ?_
          obtain ⟨rfl, rfl⟩ := zz_e2 hf
          exact hret _ _ _ _ dX9_set_49 hP hD hS
        · have hf := zz_ng hf c23
          exact Kj26_1  _ _ hP hD hS ls (lv_sub hl [] rfl) hf
def rmX9_isMoment : Room := { frames := 0, cells := 0, slots := 0, locals := 0 }
set_option maxHeartbeats 4000000 in
set_option maxRecDepth 100000 in
theorem zc_X9_isMoment (l : Launch) (D : va_G) (tb : Nat → Nat)  (F : Nat) (u0 : Int32)  (r : Int32) (hf : pX9_isMoment F u0 = some r) : zz_Mi l yX9_isMoment wsX9_isMoment rmX9_isMoment D tb [] [.int u0] zw_none zw_none r := by
  refine zz_ofz (cc := cX9_isMoment) (maxL := 1) (by decide) rfl (Nat.le_of_ble_eq_true rfl) ?_
  intro p e s m args below meth c A Q hfx hK hA hE hret H locs hP hD hS ls hl
  obtain ⟨hx, hb, hml, hown, hts⟩ := id hfx
  have hl : lv_has ls 1 [(0, .int u0)] := hl
  unfold pX9_isMoment at hf
  refine lv_iload_n hx hb dX9_isMoment_0 rfl (lv_at hl 0 rfl) ?_
  obtain ⟨v1, hv1, hf⟩ := zz_lts hf
  have hK2 : ∀ ls : Array Slot, lv_has ls 1 [] → W p l e rmX9_isMoment s m args below meth c H locs 0 0 Q (F0 m 15 ls [.int v1]) := by
    intro ls hl
    obtain rfl := zz_e1 hf
    exact hret _ _ _ _ (by rw [hv1]; (repeat' split) <;> rfl) dX9_isMoment_15 hP hD hS
  refine lv_if_lt (tgt := 14) hx hb dX9_isMoment_1 (by decide) (fun c1 => ?_) (fun c1 => ?_)
  · refine lv_iconst (v := (0 : Int32)) hx hb dX9_isMoment_14 (by decide) ?_
    refine zz_ti (show v1 = (0 : Int32) by rw [hv1, if_pos c1]) ?_
    exact hK2 ls (lv_sub hl [] rfl)
  · refine lv_iload_n hx hb dX9_isMoment_4 rfl (lv_at hl 0 rfl) ?_
    refine lv_bipush (v := (96 : Int32)) hx hb dX9_isMoment_5 (by decide) ?_
    refine lv_icmp_ge (tgt := 14) hx hb dX9_isMoment_7 (by decide) (fun c7 => ?_) (fun c7 => ?_)
    · refine lv_iconst (v := (0 : Int32)) hx hb dX9_isMoment_14 (by decide) ?_
      refine zz_ti (show v1 = (0 : Int32) by rw [hv1, if_neg c1, if_pos c7]) ?_
      exact hK2 ls (lv_sub hl [] rfl)
    · refine lv_iconst (v := (1 : Int32)) hx hb dX9_isMoment_10 (by decide) ?_
      refine lv_goto (tgt := 15) hx hb dX9_isMoment_11 (by decide) ?_
      refine zz_ti (show v1 = (1 : Int32) by rw [hv1, if_neg c1, if_neg c7]) ?_
      exact hK2 ls (lv_sub hl [] rfl)
def rmX9_foggySight : Room := { frames := 1, cells := 0, slots := 0, locals := 21 }
set_option maxHeartbeats 4000000 in
set_option maxRecDepth 100000 in
theorem zc_X9_foggySight (l : Launch) (D : va_G) (tb : Nat → Nat) (q : Nat → Nat) (k : Nat → ClassId) (F : Nat)  (S : zz_M) (r : Int32) (hf : pX9_foggySight F S = some r) : zz_Mi l yX9_foggySight wsX9_foggySight rmX9_foggySight D tb [((k 1), .object "CatBeat$Text"), ((k 3), .int), ((k 5), .int), ((k 7), .int), ((k 8), .int), ((k 9), .int), ((k 11), .int), ((k 13), .int), ((k 15), .int), ((k 16), .int), ((k 18), .int), ((k 19), .int), ((k 20), .object "CatBeat$Sheet"), ((k 22), .int), ((k 24), .int), ((k 26), .int), ((k 28), .int), ((k 30), .int), ((k 31), .long), ((k 32), .boolean), ((k 34), .int), ((k 35), .long), ((k 37), .int), ((k 39), .int), ((k 40), .long), ((k 41), .boolean), ((k 43), .int), ((k 44), .long), ((k 46), .long), ((k 47), .int)] [.ref (q 0)] (zw_9 q k S) (zw_9 q k S) r := by
  refine zz_ofi (cc := cX9_foggySight) (maxL := 1) (by decide) rfl (Nat.le_of_ble_eq_true rfl) ?_
  intro p e s m args below meth c A Q hfx hK hA hE hret H locs hP hD hS ls hl
  obtain ⟨hx, hb, hml, hown, hts⟩ := id hfx
  have inX9 : ∀ w ∈ u_ws RX9 TX9 18, w ∈ wsX9_foggySight := by decide +kernel
  have lk19 := hts (.fieldLink RX9 19 "CatBeat" "settings" "[I") (by decide +kernel)
  have lkm404 := hts (.methodLink RX9 404 Lib.Math.min.name) (by decide +kernel)
  have hl : lv_has ls 1 [(0, .ref (q 0))] := hl
  unfold pX9_foggySight at hf
  refine lv_aload_n hx hb dX9_foggySight_0 rfl (lv_at hl 0 rfl) ?_
  refine va_get (D := D) (ci := 9) (v := .ref (q 9)) (C := RX9) (T := TX9) (N := 18) hx hb hts inX9 hown hK hP 0 rfl rfl 2 (by decide) lk19 (fun _ h9 => h9) rfl dX9_foggySight_1 ?_
  refine lv_iconst (v := (2 : Int32)) hx hb dX9_foggySight_4 (by decide) ?_
  refine va_iald hx hb hK hP 9 5 rfl rfl (show zz_in (2 : Int32) 4 by decide) dX9_foggySight_5 ?_
  refine lv_iconst (v := (1 : Int32)) hx hb dX9_foggySight_6 (by decide) ?_
  refine va_mmin hx hb (hml.trans hl.1.symm) hown lkm404 (hts (.static Lib.Math.min.name) (by decide +kernel)) (hts (.initialized "java/lang/Math") (by decide +kernel)) (hts (.code Lib.Math.min.name Lib.Math.min.code 2 (some .int)) (by decide +kernel)) (Nat.le_of_ble_eq_true rfl) (Nat.le_of_ble_eq_true rfl) (Nat.zero_le _) (Nat.zero_le _) dX9_foggySight_7 ?_
  obtain rfl := zz_e1 hf
  exact hret _ _ _ _ dX9_foggySight_10 hP hD hS
def rmX9_presentSight : Room := { frames := 2, cells := 0, slots := 0, locals := 41 }
set_option maxHeartbeats 4000000 in
set_option maxRecDepth 100000 in
theorem zc_X9_presentSight (l : Launch) (D : va_G) (tb : Nat → Nat) (q : Nat → Nat) (k : Nat → ClassId) (F : Nat)  (S : zz_M) (r : Int32) (hf : pX9_presentSight F S = some r) : zz_Mi l yX9_presentSight wsX9_presentSight rmX9_presentSight D tb [((k 1), .object "CatBeat$Text"), ((k 3), .int), ((k 5), .int), ((k 7), .int), ((k 8), .int), ((k 9), .int), ((k 11), .int), ((k 13), .int), ((k 15), .int), ((k 16), .int), ((k 18), .int), ((k 19), .int), ((k 20), .object "CatBeat$Sheet"), ((k 22), .int), ((k 24), .int), ((k 26), .int), ((k 28), .int), ((k 30), .int), ((k 31), .long), ((k 32), .boolean), ((k 34), .int), ((k 35), .long), ((k 37), .int), ((k 39), .int), ((k 40), .long), ((k 41), .boolean), ((k 43), .int), ((k 44), .long), ((k 46), .long), ((k 47), .int)] [.ref (q 0)] (zw_9 q k S) (zw_9 q k S) r := by
  refine zz_ofi (cc := cX9_presentSight) (maxL := 1) (by decide) rfl (Nat.le_of_ble_eq_true rfl) ?_
  intro p e s m args below meth c A Q hfx hK hA hE hret H locs hP hD hS ls hl
  obtain ⟨hx, hb, hml, hown, hts⟩ := id hfx
  have inX9 : ∀ w ∈ u_ws RX9 TX9 18, w ∈ wsX9_presentSight := by decide +kernel
  have lk19 := hts (.fieldLink RX9 19 "CatBeat" "settings" "[I") (by decide +kernel)
  have hl : lv_has ls 1 [(0, .ref (q 0))] := hl
  unfold pX9_presentSight at hf
  refine lv_aload_n hx hb dX9_presentSight_0 rfl (lv_at hl 0 rfl) ?_
  refine va_get (D := D) (ci := 9) (v := .ref (q 9)) (C := RX9) (T := TX9) (N := 18) hx hb hts inX9 hown hK hP 0 rfl rfl 2 (by decide) lk19 (fun _ h9 => h9) rfl dX9_presentSight_1 ?_
  refine lv_iconst (v := (3 : Int32)) hx hb dX9_presentSight_4 (by decide) ?_
  refine va_iald hx hb hK hP 9 5 rfl rfl (show zz_in (3 : Int32) 4 by decide) dX9_presentSight_5 ?_
  refine lv_iconst (v := (1 : Int32)) hx hb dX9_presentSight_6 (by decide) ?_
  obtain ⟨j23_2, hj23_2, hf⟩ := zz_lts hf
  have Kj23_2 : ∀ (y1 : Int32) (H : Heap) (locs : List Loc), va_P D vwCl (zw_9 q k S) H → va_D A (zw_9 q k S) → va_S A s.heap H locs → ∀ ls : Array Slot, lv_has ls 1 [] → j23_2 y1 = some r → W p l e rmX9_presentSight s m args below meth c H locs 0 0 Q (F0 m 23 ls [.int y1]) := by
    intro y1 H locs hP hD hS ls hl hf
    rw [hj23_2] at hf
    obtain rfl := zz_e1 hf
    exact hret _ _ _ _ dX9_presentSight_23 hP hD hS
  refine lv_icmp_ne (tgt := 17) hx hb dX9_presentSight_7 (by decide) (fun c7 => ?_) (fun c7 => ?_)
  · have hf := zz_ng hf c7
    refine lv_aload_n hx hb dX9_presentSight_17 rfl (lv_at hl 0 rfl) ?_
    refine va_get (D := D) (ci := 9) (v := .ref (q 9)) (C := RX9) (T := TX9) (N := 18) hx hb hts inX9 hown hK hP 0 rfl rfl 2 (by decide) lk19 (fun _ h9 => h9) rfl dX9_presentSight_18 ?_
    refine lv_iconst (v := (2 : Int32)) hx hb dX9_presentSight_21 (by decide) ?_
    refine va_iald hx hb hK hP 9 5 rfl rfl (show zz_in (2 : Int32) 4 by decide) dX9_presentSight_22 ?_
    exact Kj23_2 ((zz_gA S 4) (Int32.toNatClampNeg (2 : Int32))) _ _ hP hD hS ls (lv_sub hl [] rfl) hf
  · have hf := zz_ps hf c7
    refine lv_aload_n hx hb dX9_presentSight_10 rfl (lv_at hl 0 rfl) ?_
    obtain ⟨r3, hc4, hf⟩ := zz_b1s hf
    refine zz_ji0 (va_runV (As := []) (rest := []) hfx (zc_X9_foggySight l D tb q k F  S r3 hc4 H.size) (cwV 0 hts gX9_presentSight_X9_foggySight rfl rfl rfl (by decide +kernel) ⟨Nat.le_of_ble_eq_true rfl, Nat.le_of_ble_eq_true rfl⟩) (zz_pre0V hK hP hD hS hA hE 0 rfl rfl rfl) rfl rfl hl.1 rfl (lv_room (Nat.le_of_ble_eq_true rfl)) dX9_presentSight_11 ⟨Nat.zero_le _, Nat.zero_le _⟩) hD hS hA (fun H locs hP hD hS => ?_)
    refine lv_goto (tgt := 23) hx hb dX9_presentSight_14 (by decide) ?_
    exact Kj23_2 r3 _ _ hP hD hS ls (lv_sub hl [] rfl) hf
def rmX9_settle : Room := { frames := 3, cells := 0, slots := 0, locals := 76 }
set_option maxHeartbeats 4000000 in
set_option maxRecDepth 100000 in
theorem zc_X9_settle (l : Launch) (D : va_G) (tb : Nat → Nat) (q : Nat → Nat) (k : Nat → ClassId) (F : Nat)  (S : zz_M) (o0 : zz_M) (hf : pX9_settle F S = some o0) : zz_Mv l yX9_settle wsX9_settle rmX9_settle D tb [((k 1), .object "CatBeat$Text"), ((k 3), .int), ((k 5), .int), ((k 7), .int), ((k 8), .int), ((k 9), .int), ((k 11), .int), ((k 13), .int), ((k 15), .int), ((k 16), .int), ((k 18), .int), ((k 19), .int), ((k 20), .object "CatBeat$Sheet"), ((k 22), .int), ((k 24), .int), ((k 26), .int), ((k 28), .int), ((k 30), .int), ((k 31), .long), ((k 32), .boolean), ((k 34), .int), ((k 35), .long), ((k 37), .int), ((k 39), .int), ((k 40), .long), ((k 41), .boolean), ((k 43), .int), ((k 44), .long), ((k 46), .long), ((k 47), .int)] [.ref (q 0)] (zw_9 q k S) (zw_9 q k o0)  := by
  refine zz_ofv (cc := cX9_settle) (maxL := 1) (by decide) rfl (Nat.le_of_ble_eq_true rfl) ?_
  intro p e s m args below meth c A Q hfx hK hA hE hret H locs hP hD hS ls hl
  obtain ⟨hx, hb, hml, hown, hts⟩ := id hfx
  have inX9 : ∀ w ∈ u_ws RX9 TX9 18, w ∈ wsX9_settle := by decide +kernel
  have lk93 := hts (.fieldLink RX9 93 "CatBeat" "stale" "Z") (by decide +kernel)
  have lk59 := hts (.fieldLink RX9 59 "CatBeat" "ground" "LCatBeat$Ground;") (by decide +kernel)
  have lk25 := hts (.fieldLink RX9 25 "CatBeat" "ward" "LCatBeat$Ward;") (by decide +kernel)
  have lk19 := hts (.fieldLink RX9 19 "CatBeat" "settings" "[I") (by decide +kernel)
  have lk66 := hts (.fieldLink RX9 66 "CatBeat" "night" "LCatBeat$Night;") (by decide +kernel)
  have lk32 := hts (.fieldLink RX9 32 "CatBeat" "round" "LCatBeat$Round;") (by decide +kernel)
  have lk97 := hts (.fieldLink RX9 97 "CatBeat" "trimmed" "I") (by decide +kernel)
  have hl : lv_has ls 1 [(0, .ref (q 0))] := hl
  unfold pX9_settle at hf
  refine lv_aload_n hx hb dX9_settle_0 rfl (lv_at hl 0 rfl) ?_
  refine va_get (D := D) (ci := 9) (v := .int (zz_gI S 25)) (C := RX9) (T := TX9) (N := 18) hx hb hts inX9 hown hK hP 0 rfl rfl 16 (by decide) lk93 (fun _ h9 => h9) rfl dX9_settle_1 ?_
  obtain ⟨j59_2, hj59_2, hf⟩ := zz_lts hf
  have Kj59_2 : ∀ (z1 : zz_M) (H : Heap) (locs : List Loc), va_P D vwCl (zw_9 q k z1) H → va_D A (zw_9 q k z1) → va_S A s.heap H locs → ∀ ls : Array Slot, lv_has ls 1 [] → j59_2 z1 = some o0 → W p l e rmX9_settle s m args below meth c H locs 0 0 Q (F0 m 59 ls []) := by
    intro z1 H locs hP hD hS ls hl hf
    rw [hj59_2] at hf
    obtain rfl := zz_e1 hf
    exact hret _ _ _ _ dX9_settle_59 hP hD hS
  refine lv_if_eq (tgt := 59) hx hb dX9_settle_4 (by decide) (fun c4 => ?_) (fun c4 => ?_)
  · have hf := zz_ps hf c4
    exact Kj59_2 S _ _ hP hD hS ls (lv_sub hl [] rfl) hf
  · have hf := zz_ng hf c4
    refine lv_aload_n hx hb dX9_settle_7 rfl (lv_at hl 0 rfl) ?_
    refine va_get (D := D) (ci := 9) (v := .ref (q 29)) (C := RX9) (T := TX9) (N := 18) hx hb hts inX9 hown hK hP 0 rfl rfl 8 (by decide) lk59 (fun _ h9 => h9) rfl dX9_settle_8 ?_
    refine lv_aload_n hx hb dX9_settle_11 rfl (lv_at hl 0 rfl) ?_
    refine va_get (D := D) (ci := 9) (v := .ref (q 10)) (C := RX9) (T := TX9) (N := 18) hx hb hts inX9 hown hK hP 0 rfl rfl 3 (by decide) lk25 (fun _ h9 => h9) rfl dX9_settle_12 ?_
    refine lv_aload_n hx hb dX9_settle_15 rfl (lv_at hl 0 rfl) ?_
    refine va_get (D := D) (ci := 9) (v := .ref (q 9)) (C := RX9) (T := TX9) (N := 18) hx hb hts inX9 hown hK hP 0 rfl rfl 2 (by decide) lk19 (fun _ h9 => h9) rfl dX9_settle_16 ?_
    refine lv_iconst (v := (1 : Int32)) hx hb dX9_settle_19 (by decide) ?_
    refine va_iald hx hb hK hP 9 5 rfl rfl (show zz_in (1 : Int32) 4 by decide) dX9_settle_20 ?_
    refine lv_aload_n hx hb dX9_settle_21 rfl (lv_at hl 0 rfl) ?_
    obtain ⟨r3, hc4, hf⟩ := zz_b1s hf
    refine zz_ji0 (va_runV (As := []) (rest := [.int ((zz_gA S 4) (Int32.toNatClampNeg (1 : Int32))), .ref (q 10), .ref (q 29)]) hfx (zc_X9_presentSight l D tb q k F  S r3 hc4 H.size) (cwV 0 hts gX9_settle_X9_presentSight rfl rfl rfl (by decide +kernel) ⟨Nat.le_of_ble_eq_true rfl, Nat.le_of_ble_eq_true rfl⟩) (zz_pre0V hK hP hD hS hA hE 0 rfl rfl rfl) rfl rfl hl.1 rfl (lv_room (Nat.le_of_ble_eq_true rfl)) dX9_settle_22 ⟨Nat.zero_le _, Nat.zero_le _⟩) hD hS hA (fun H locs hP hD hS => ?_)
    obtain ⟨f5, f6, f7, f8, hc9, hf⟩ := zz_b4s hf
    obtain ⟨S10, hS10, hf⟩ := zz_lts hf
    refine zz_jv (va_runV (As := [.ref (q 10), .int ((zz_gA S 4) (Int32.toNatClampNeg (1 : Int32))), .int r3]) (rest := []) hfx (zc_X0_lay l D tb (q 29) (q 30) (q 31) (q 32) (q 10) (q 11) (k 30) (k 31) (k 32) (k 11) F ((zz_gA S 4) (Int32.toNatClampNeg (1 : Int32))) r3 (zz_gI S 20) (zz_gA S 15) (zz_gL S 1) (zz_gA S 16) (zz_gI S 3) (zz_gI S 4) (zz_gL S 0 0) (zz_gA S 5) f5 f6 f7 f8 hc9 H.size) (cwV 3 hts gX9_settle_X0_lay rfl rfl rfl (by decide +kernel) ⟨Nat.le_of_ble_eq_true rfl, Nat.le_of_ble_eq_true rfl⟩) (zz_preV hK hP hD hS hA hE [29, 30, 31, 32, 10, 11] [17, 18, 19, 6] rfl (by decide) rfl 29 rfl rfl rfl) rfl rfl hl.1 rfl (lv_room (Nat.le_of_ble_eq_true rfl)) dX9_settle_25 ⟨Nat.zero_le _, Nat.zero_le _⟩) hP hD hS hA [29, 30, 31, 32, 10, 11] rfl rfl (fun H locs hP hD hS => ?_)
    have hP : va_P D vwCl (zw_9 q k S10) H := by rw [hS10]; exact hP
    have hD : va_D A (zw_9 q k S10) := by rw [hS10]; exact hD
    refine lv_aload_n hx hb dX9_settle_28 rfl (lv_at hl 0 rfl) ?_
    refine va_get (D := D) (ci := 9) (v := .ref (q 33)) (C := RX9) (T := TX9) (N := 18) hx hb hts inX9 hown hK hP 0 rfl rfl 9 (by decide) lk66 (fun _ h9 => h9) rfl dX9_settle_29 ?_
    refine lv_aload_n hx hb dX9_settle_32 rfl (lv_at hl 0 rfl) ?_
    refine va_get (D := D) (ci := 9) (v := .ref (q 29)) (C := RX9) (T := TX9) (N := 18) hx hb hts inX9 hown hK hP 0 rfl rfl 8 (by decide) lk59 (fun _ h9 => h9) rfl dX9_settle_33 ?_
    refine lv_aload_n hx hb dX9_settle_36 rfl (lv_at hl 0 rfl) ?_
    refine va_get (D := D) (ci := 9) (v := .ref (q 9)) (C := RX9) (T := TX9) (N := 18) hx hb hts inX9 hown hK hP 0 rfl rfl 2 (by decide) lk19 (fun _ h9 => h9) rfl dX9_settle_37 ?_
    refine lv_iconst (v := (0 : Int32)) hx hb dX9_settle_40 (by decide) ?_
    refine va_iald hx hb hK hP 9 5 rfl rfl (show zz_in (0 : Int32) 4 by decide) dX9_settle_41 ?_
    refine lv_aload_n hx hb dX9_settle_42 rfl (lv_at hl 0 rfl) ?_
    refine va_get (D := D) (ci := 9) (v := .ref (q 12)) (C := RX9) (T := TX9) (N := 18) hx hb hts inX9 hown hK hP 0 rfl rfl 4 (by decide) lk32 (fun _ h9 => h9) rfl dX9_settle_43 ?_
    obtain ⟨f11, f12, hc13, hf⟩ := zz_b2s hf
    obtain ⟨S14, hS14, hf⟩ := zz_lts hf
    refine zz_jv (va_runV (As := [.ref (q 29), .int ((zz_gA S10 4) (Int32.toNatClampNeg (0 : Int32))), .ref (q 12)]) (rest := []) hfx (zc_X2_walk l D tb (q 33) (q 34) (q 35) (q 29) (q 30) (q 31) (q 32) (q 12) (q 13) (k 34) (k 35) (k 30) (k 31) (k 32) (k 13) F ((zz_gA S10 4) (Int32.toNatClampNeg (0 : Int32))) (zz_gA S10 17) (zz_gL S10 2) (zz_gI S10 20) (zz_gA S10 15) (zz_gL S10 1) (zz_gA S10 16) (zz_gI S10 5) (zz_gA S10 6) f11 f12 hc13 H.size) (cwV 3 hts gX9_settle_X2_walk rfl rfl rfl (by decide +kernel) ⟨Nat.le_of_ble_eq_true rfl, Nat.le_of_ble_eq_true rfl⟩) (zz_preV hK hP hD hS hA hE [33, 34, 35, 29, 30, 31, 32, 12, 13] [20, 21, 17, 18, 19, 7] rfl (by decide) rfl 33 rfl rfl rfl) rfl rfl hl.1 rfl (lv_room (Nat.le_of_ble_eq_true rfl)) dX9_settle_46 ⟨Nat.zero_le _, Nat.zero_le _⟩) hP hD hS hA [33, 34, 35, 29, 30, 31, 32, 12, 13] rfl rfl (fun H locs hP hD hS => ?_)
    have hP : va_P D vwCl (zw_9 q k S14) H := by rw [hS14]; exact hP
    have hD : va_D A (zw_9 q k S14) := by rw [hS14]; exact hD
    refine lv_aload_n hx hb dX9_settle_49 rfl (lv_at hl 0 rfl) ?_
    refine lv_iconst (v := (-1 : Int32)) hx hb dX9_settle_50 (by decide) ?_
    obtain ⟨S15, hS15, hf⟩ := zz_lts hf
    refine va_put (D := D) (ci := 9) (v := .int (-1 : Int32)) (ty := .int) (C := RX9) (T := TX9) (N := 18) hx hb hts inX9 tyX9 tyX9_ok nmX9 hown hK hP hD hS 0 rfl rfl 17 (by decide) lk97 (fun _ h9 => h9) rfl (by decide +kernel) rfl rfl (Nat.le_of_ble_eq_true rfl) dX9_settle_51 (fun H locs hP hD hS => ?_)
    have hP : va_P D vwCl (zw_9 q k S15) H := by rw [hS15]; exact hP
    have hD : va_D A (zw_9 q k S15) := by rw [hS15]; exact hD
    refine lv_aload_n hx hb dX9_settle_54 rfl (lv_at hl 0 rfl) ?_
    refine lv_iconst (v := (0 : Int32)) hx hb dX9_settle_55 (by decide) ?_
    obtain ⟨S16, hS16, hf⟩ := zz_lts hf
    refine va_put (D := D) (ci := 9) (v := .int (0 : Int32)) (ty := .boolean) (C := RX9) (T := TX9) (N := 18) hx hb hts inX9 tyX9 tyX9_ok nmX9 hown hK hP hD hS 0 rfl rfl 16 (by decide) lk93 (fun _ h9 => h9) rfl (by decide +kernel) rfl rfl (Nat.le_of_ble_eq_true rfl) dX9_settle_56 (fun H locs hP hD hS => ?_)
    have hP : va_P D vwCl (zw_9 q k S16) H := by rw [hS16]; exact hP
    have hD : va_D A (zw_9 q k S16) := by rw [hS16]; exact hD
    exact Kj59_2 S16 _ _ hP hD hS ls (lv_sub hl [] rfl) hf
def rmX9_at : Room := { frames := 4, cells := 0, slots := 0, locals := 96 }
set_option maxHeartbeats 4000000 in
set_option maxRecDepth 100000 in
theorem zc_X9_at (l : Launch) (D : va_G) (tb : Nat → Nat) (q : Nat → Nat) (k : Nat → ClassId) (F : Nat) (u0 : Int32) (S : zz_M) (r : Int32) (o1 : zz_M) (hf : pX9_at F u0 S = some (r, o1)) : zz_Mi l yX9_at wsX9_at rmX9_at D tb [((k 1), .object "CatBeat$Text"), ((k 3), .int), ((k 5), .int), ((k 7), .int), ((k 8), .int), ((k 9), .int), ((k 11), .int), ((k 13), .int), ((k 15), .int), ((k 16), .int), ((k 18), .int), ((k 19), .int), ((k 20), .object "CatBeat$Sheet"), ((k 22), .int), ((k 24), .int), ((k 26), .int), ((k 28), .int), ((k 30), .int), ((k 31), .long), ((k 32), .boolean), ((k 34), .int), ((k 35), .long), ((k 37), .int), ((k 39), .int), ((k 40), .long), ((k 41), .boolean), ((k 43), .int), ((k 44), .long), ((k 46), .long), ((k 47), .int)] [.ref (q 0), .int u0] (zw_9 q k S) (zw_9 q k o1) r := by
  refine zz_ofi (cc := cX9_at) (maxL := 2) (by decide) rfl (Nat.le_of_ble_eq_true rfl) ?_
  intro p e s m args below meth c A Q hfx hK hA hE hret H locs hP hD hS ls hl
  obtain ⟨hx, hb, hml, hown, hts⟩ := id hfx
  have inX9 : ∀ w ∈ u_ws RX9 TX9 18, w ∈ wsX9_at := by decide +kernel
  have inX2 : ∀ w ∈ u_ws RX2 TX2 2, w ∈ wsX9_at := by decide +kernel
  have lk66 := hts (.fieldLink RX9 66 "CatBeat" "night" "LCatBeat$Night;") (by decide +kernel)
  have lk151 := hts (.fieldLink RX9 151 "CatBeat$Night" "places" "[I") (by decide +kernel)
  have hl : lv_has ls 2 [(0, .ref (q 0)), (1, .int u0)] := hl
  unfold pX9_at at hf
  refine lv_iload_n hx hb dX9_at_0 rfl (lv_at hl 1 rfl) ?_
  obtain ⟨r1, hc2, hf⟩ := zz_b1s hf
  refine zz_ji (va_runS (As := [.int u0]) (rest := []) hfx (zc_X9_isMoment l D tb  F u0  r1 hc2 H.size) (va_cwS 1 hts gX9_at_X9_isMoment rfl rfl rfl (by decide +kernel) ⟨Nat.le_of_ble_eq_true rfl, Nat.le_of_ble_eq_true rfl⟩) (zz_preS hK hP hD hS hA hE [] [] rfl (by decide) rfl) rfl rfl hl.1 rfl (lv_room (Nat.le_of_ble_eq_true rfl)) dX9_at_1 ⟨Nat.zero_le _, Nat.zero_le _⟩) hP hD hS hA [] rfl rfl (fun H locs hP hD hS => ?_)
  have hP : va_P D vwCl (zw_9 q k S) H := hP
  have hD : va_D A (zw_9 q k S) := hD
  refine lv_if_ne (tgt := 10) hx hb dX9_at_4 (by decide) (fun c4 => ?_) (fun c4 => ?_)
  · have hf := zz_ng hf c4
    refine lv_aload_n hx hb dX9_at_10 rfl (lv_at hl 0 rfl) ?_
    obtain ⟨S3, hc4, hf⟩ := zz_b1s hf
    refine zz_jv0 (va_runV (As := []) (rest := []) hfx (zc_X9_settle l D tb q k F  S S3 hc4 H.size) (cwV 0 hts gX9_at_X9_settle rfl rfl rfl (by decide +kernel) ⟨Nat.le_of_ble_eq_true rfl, Nat.le_of_ble_eq_true rfl⟩) (zz_pre0V hK hP hD hS hA hE 0 rfl rfl rfl) rfl rfl hl.1 rfl (lv_room (Nat.le_of_ble_eq_true rfl)) dX9_at_11 ⟨Nat.zero_le _, Nat.zero_le _⟩) hD hS hA (fun H locs hP hD hS => ?_)
    refine lv_aload_n hx hb dX9_at_14 rfl (lv_at hl 0 rfl) ?_
    refine va_get (D := D) (ci := 9) (v := .ref (q 33)) (C := RX9) (T := TX9) (N := 18) hx hb hts inX9 hown hK hP 0 rfl rfl 9 (by decide) lk66 (fun _ h9 => h9) rfl dX9_at_15 ?_
    refine va_get (D := D) (ci := 2) (v := .ref (q 34)) (C := RX2) (T := TX2) (N := 2) hx hb hts inX2 hown hK hP 33 rfl rfl 0 (by decide) lk151 (fun _ h9 => h9) rfl dX9_at_18 ?_
    refine lv_iload_n hx hb dX9_at_21 rfl (lv_at hl 1 rfl) ?_
    obtain ⟨hg5, hf⟩ := zz_gd hf
    refine va_iald hx hb hK hP 34 20 rfl rfl hg5 dX9_at_22 ?_
    obtain ⟨rfl, rfl⟩ := zz_e2 hf
    exact hret _ _ _ _ dX9_at_23 hP hD hS
  · have hf := zz_ps hf c4
    refine lv_bipush (v := (-2 : Int32)) hx hb dX9_at_7 (by decide) ?_
    obtain ⟨rfl, rfl⟩ := zz_e2 hf
    exact hret _ _ _ _ dX9_at_9 hP hD hS
def rmX9_halfOf : Room := { frames := 0, cells := 0, slots := 0, locals := 0 }
set_option maxHeartbeats 4000000 in
set_option maxRecDepth 100000 in
theorem zc_X9_halfOf (l : Launch) (D : va_G) (tb : Nat → Nat)  (F : Nat) (u0 : Int64) (u1 : Int32)  (r : Int32) (hf : pX9_halfOf F u0 u1 = some r) : zz_Mi l yX9_halfOf wsX9_halfOf rmX9_halfOf D tb [] [.long u0, .int u1] zw_none zw_none r := by
  refine zz_ofi (cc := cX9_halfOf) (maxL := 3) (by decide) rfl (Nat.le_of_ble_eq_true rfl) ?_
  intro p e s m args below meth c A Q hfx hK hA hE hret H locs hP hD hS ls hl
  obtain ⟨hx, hb, hml, hown, hts⟩ := id hfx
  have kc413 := hts (.constant RX9 413 (262143)) (by decide +kernel)
  have hl : lv_has ls 3 [(0, .long u0), (2, .int u1)] := hl
  unfold pX9_halfOf at hf
  refine lv_lload_n hx hb dX9_halfOf_0 rfl (lv_at hl 0 rfl) ?_
  refine lv_iload_n hx hb dX9_halfOf_1 rfl (lv_at hl 1 rfl) ?_
  refine lv_bipush (v := (18 : Int32)) hx hb dX9_halfOf_2 (by decide) ?_
  refine lv_imul hx hb dX9_halfOf_4 ?_
  refine lv_lushr (v := (zz_lushr u0 (u1 * (18 : Int32)))) hx hb dX9_halfOf_5 rfl ?_
  refine lv_l2i (v := (Int64.toInt32 (zz_lushr u0 (u1 * (18 : Int32))))) hx hb dX9_halfOf_6 rfl ?_
  refine lv_ldcw (v := (262143 : Int32)) hx hb hown kc413 dX9_halfOf_7 ?_
  refine lv_iand hx hb dX9_halfOf_10 ?_
  obtain rfl := zz_e1 hf
  exact hret _ _ _ _ dX9_halfOf_11 hP hD hS
def rmX9_sees : Room := { frames := 4, cells := 0, slots := 0, locals := 96 }
set_option maxHeartbeats 4000000 in
set_option maxRecDepth 100000 in
theorem zc_X9_sees (l : Launch) (D : va_G) (tb : Nat → Nat) (q : Nat → Nat) (k : Nat → ClassId) (F : Nat) (u0 : Int32) (u1 : Int32) (S : zz_M) (r : Int32) (o1 : zz_M) (hf : pX9_sees F u0 u1 S = some (r, o1)) : zz_Mi l yX9_sees wsX9_sees rmX9_sees D tb [((k 1), .object "CatBeat$Text"), ((k 3), .int), ((k 5), .int), ((k 7), .int), ((k 8), .int), ((k 9), .int), ((k 11), .int), ((k 13), .int), ((k 15), .int), ((k 16), .int), ((k 18), .int), ((k 19), .int), ((k 20), .object "CatBeat$Sheet"), ((k 22), .int), ((k 24), .int), ((k 26), .int), ((k 28), .int), ((k 30), .int), ((k 31), .long), ((k 32), .boolean), ((k 34), .int), ((k 35), .long), ((k 37), .int), ((k 39), .int), ((k 40), .long), ((k 41), .boolean), ((k 43), .int), ((k 44), .long), ((k 46), .long), ((k 47), .int)] [.ref (q 0), .int u0, .int u1] (zw_9 q k S) (zw_9 q k o1) r := by
  refine zz_ofi (cc := cX9_sees) (maxL := 3) (by decide) rfl (Nat.le_of_ble_eq_true rfl) ?_
  intro p e s m args below meth c A Q hfx hK hA hE hret H locs hP hD hS ls hl
  obtain ⟨hx, hb, hml, hown, hts⟩ := id hfx
  have inX9 : ∀ w ∈ u_ws RX9 TX9 18, w ∈ wsX9_sees := by decide +kernel
  have inX2 : ∀ w ∈ u_ws RX2 TX2 2, w ∈ wsX9_sees := by decide +kernel
  have lk66 := hts (.fieldLink RX9 66 "CatBeat" "night" "LCatBeat$Night;") (by decide +kernel)
  have lk154 := hts (.fieldLink RX9 154 "CatBeat$Night" "views" "[J") (by decide +kernel)
  have hl : lv_has ls 3 [(0, .ref (q 0)), (1, .int u0), (2, .int u1)] := hl
  unfold pX9_sees at hf
  refine lv_iload_n hx hb dX9_sees_0 rfl (lv_at hl 1 rfl) ?_
  obtain ⟨r1, hc2, hf⟩ := zz_b1s hf
  refine zz_ji (va_runS (As := [.int u0]) (rest := []) hfx (zc_X9_isMoment l D tb  F u0  r1 hc2 H.size) (va_cwS 1 hts gX9_sees_X9_isMoment rfl rfl rfl (by decide +kernel) ⟨Nat.le_of_ble_eq_true rfl, Nat.le_of_ble_eq_true rfl⟩) (zz_preS hK hP hD hS hA hE [] [] rfl (by decide) rfl) rfl rfl hl.1 rfl (lv_room (Nat.le_of_ble_eq_true rfl)) dX9_sees_1 ⟨Nat.zero_le _, Nat.zero_le _⟩) hP hD hS hA [] rfl rfl (fun H locs hP hD hS => ?_)
  have hP : va_P D vwCl (zw_9 q k S) H := hP
  have hD : va_D A (zw_9 q k S) := hD
  obtain ⟨j14_3, hj14_3, hf⟩ := zz_lts hf
  have Kj14_3 : ∀  (H : Heap) (locs : List Loc), va_P D vwCl (zw_9 q k S) H → va_D A (zw_9 q k S) → va_S A s.heap H locs → ∀ ls : Array Slot, lv_has ls 3 [] → j14_3 () = some (r, o1) → W p l e rmX9_sees s m args below meth c H locs 0 0 Q (F0 m 14 ls []) := by
    intro  H locs hP hD hS ls hl hf
    rw [hj14_3] at hf
    refine lv_bipush (v := (-2 : Int32)) hx hb dX9_sees_14 (by decide) ?_
    obtain ⟨rfl, rfl⟩ := zz_e2 hf
    exact hret _ _ _ _ dX9_sees_16 hP hD hS
  refine lv_if_eq (tgt := 14) hx hb dX9_sees_4 (by decide) (fun c4 => ?_) (fun c4 => ?_)
  · have hf := zz_ps hf c4
    exact Kj14_3  _ _ hP hD hS ls (lv_sub hl [] rfl) hf
  · have hf := zz_ng hf c4
    refine lv_iload_n hx hb dX9_sees_7 rfl (lv_at hl 2 rfl) ?_
    obtain ⟨r4, hc5, hf⟩ := zz_b1s hf
    refine zz_ji (va_runS (As := [.int u1]) (rest := []) hfx (zc_X9_isEither l D tb  F u1  r4 hc5 H.size) (va_cwS 1 hts gX9_sees_X9_isEither rfl rfl rfl (by decide +kernel) ⟨Nat.le_of_ble_eq_true rfl, Nat.le_of_ble_eq_true rfl⟩) (zz_preS hK hP hD hS hA hE [] [] rfl (by decide) rfl) rfl rfl hl.1 rfl (lv_room (Nat.le_of_ble_eq_true rfl)) dX9_sees_8 ⟨Nat.zero_le _, Nat.zero_le _⟩) hP hD hS hA [] rfl rfl (fun H locs hP hD hS => ?_)
    have hP : va_P D vwCl (zw_9 q k S) H := hP
    have hD : va_D A (zw_9 q k S) := hD
    refine lv_if_ne (tgt := 17) hx hb dX9_sees_11 (by decide) (fun c11 => ?_) (fun c11 => ?_)
    · have hf := zz_ng hf c11
      refine lv_aload_n hx hb dX9_sees_17 rfl (lv_at hl 0 rfl) ?_
      obtain ⟨S6, hc7, hf⟩ := zz_b1s hf
      refine zz_jv0 (va_runV (As := []) (rest := []) hfx (zc_X9_settle l D tb q k F  S S6 hc7 H.size) (cwV 0 hts gX9_sees_X9_settle rfl rfl rfl (by decide +kernel) ⟨Nat.le_of_ble_eq_true rfl, Nat.le_of_ble_eq_true rfl⟩) (zz_pre0V hK hP hD hS hA hE 0 rfl rfl rfl) rfl rfl hl.1 rfl (lv_room (Nat.le_of_ble_eq_true rfl)) dX9_sees_18 ⟨Nat.zero_le _, Nat.zero_le _⟩) hD hS hA (fun H locs hP hD hS => ?_)
      refine lv_aload_n hx hb dX9_sees_21 rfl (lv_at hl 0 rfl) ?_
      refine va_get (D := D) (ci := 9) (v := .ref (q 33)) (C := RX9) (T := TX9) (N := 18) hx hb hts inX9 hown hK hP 0 rfl rfl 9 (by decide) lk66 (fun _ h9 => h9) rfl dX9_sees_22 ?_
      refine va_get (D := D) (ci := 2) (v := .ref (q 35)) (C := RX2) (T := TX2) (N := 2) hx hb hts inX2 hown hK hP 33 rfl rfl 1 (by decide) lk154 (fun _ h9 => h9) rfl dX9_sees_25 ?_
      refine lv_iload_n hx hb dX9_sees_28 rfl (lv_at hl 1 rfl) ?_
      obtain ⟨hg8, hf⟩ := zz_gd hf
      refine va_lald hx hb hK hP 35 21 rfl rfl hg8 dX9_sees_29 ?_
      refine lv_iload_n hx hb dX9_sees_30 rfl (lv_at hl 2 rfl) ?_
      obtain ⟨r9, hc10, hf⟩ := zz_b1s hf
      refine zz_ji (va_runS (As := [.long ((zz_gL S6 2) (Int32.toNatClampNeg u0)), .int u1]) (rest := []) hfx (zc_X9_halfOf l D tb  F ((zz_gL S6 2) (Int32.toNatClampNeg u0)) u1  r9 hc10 H.size) (va_cwS 2 hts gX9_sees_X9_halfOf rfl rfl rfl (by decide +kernel) ⟨Nat.le_of_ble_eq_true rfl, Nat.le_of_ble_eq_true rfl⟩) (zz_preS hK hP hD hS hA hE [] [] rfl (by decide) rfl) rfl rfl hl.1 rfl (lv_room (Nat.le_of_ble_eq_true rfl)) dX9_sees_31 ⟨Nat.zero_le _, Nat.zero_le _⟩) hP hD hS hA [] rfl rfl (fun H locs hP hD hS => ?_)
      have hP : va_P D vwCl (zw_9 q k S6) H := hP
      have hD : va_D A (zw_9 q k S6) := hD
      obtain ⟨rfl, rfl⟩ := zz_e2 hf
      exact hret _ _ _ _ dX9_sees_34 hP hD hS
    · have hf := zz_ps hf c11
      exact Kj14_3  _ _ hP hD hS ls (lv_sub hl [] rfl) hf
def rmX9_seen : Room := { frames := 4, cells := 0, slots := 0, locals := 96 }
set_option maxHeartbeats 4000000 in
set_option maxRecDepth 100000 in
theorem zc_X9_seen (l : Launch) (D : va_G) (tb : Nat → Nat) (q : Nat → Nat) (k : Nat → ClassId) (F : Nat) (u0 : Int32) (u1 : Int32) (S : zz_M) (r : Int32) (o1 : zz_M) (hf : pX9_seen F u0 u1 S = some (r, o1)) : zz_Mi l yX9_seen wsX9_seen rmX9_seen D tb [((k 1), .object "CatBeat$Text"), ((k 3), .int), ((k 5), .int), ((k 7), .int), ((k 8), .int), ((k 9), .int), ((k 11), .int), ((k 13), .int), ((k 15), .int), ((k 16), .int), ((k 18), .int), ((k 19), .int), ((k 20), .object "CatBeat$Sheet"), ((k 22), .int), ((k 24), .int), ((k 26), .int), ((k 28), .int), ((k 30), .int), ((k 31), .long), ((k 32), .boolean), ((k 34), .int), ((k 35), .long), ((k 37), .int), ((k 39), .int), ((k 40), .long), ((k 41), .boolean), ((k 43), .int), ((k 44), .long), ((k 46), .long), ((k 47), .int)] [.ref (q 0), .int u0, .int u1] (zw_9 q k S) (zw_9 q k o1) r := by
  refine zz_ofi (cc := cX9_seen) (maxL := 3) (by decide) rfl (Nat.le_of_ble_eq_true rfl) ?_
  intro p e s m args below meth c A Q hfx hK hA hE hret H locs hP hD hS ls hl
  obtain ⟨hx, hb, hml, hown, hts⟩ := id hfx
  have inX9 : ∀ w ∈ u_ws RX9 TX9 18, w ∈ wsX9_seen := by decide +kernel
  have lk25 := hts (.fieldLink RX9 25 "CatBeat" "ward" "LCatBeat$Ward;") (by decide +kernel)
  have lk66 := hts (.fieldLink RX9 66 "CatBeat" "night" "LCatBeat$Night;") (by decide +kernel)
  have hl : lv_has ls 3 [(0, .ref (q 0)), (1, .int u0), (2, .int u1)] := hl
  unfold pX9_seen at hf
  refine lv_aload_n hx hb dX9_seen_0 rfl (lv_at hl 0 rfl) ?_
  refine va_get (D := D) (ci := 9) (v := .ref (q 10)) (C := RX9) (T := TX9) (N := 18) hx hb hts inX9 hown hK hP 0 rfl rfl 3 (by decide) lk25 (fun _ h9 => h9) rfl dX9_seen_1 ?_
  refine lv_iload_n hx hb dX9_seen_4 rfl (lv_at hl 1 rfl) ?_
  obtain ⟨r1, hc2, hf⟩ := zz_b1s hf
  refine zz_ji (va_runV (As := [.int u0]) (rest := []) hfx (zc_X8_has l D tb (q 10) (q 11) (k 11) F u0 (zz_gI S 3) (zz_gI S 4) (zz_gL S 0 0) (zz_gA S 5) r1 hc2 H.size) (cwV 1 hts gX9_seen_X8_has rfl rfl rfl (by decide +kernel) ⟨Nat.le_of_ble_eq_true rfl, Nat.le_of_ble_eq_true rfl⟩) (zz_preV hK hP hD hS hA hE [10, 11] [6] rfl (by decide) rfl 10 rfl rfl rfl) rfl rfl hl.1 rfl (lv_room (Nat.le_of_ble_eq_true rfl)) dX9_seen_5 ⟨Nat.zero_le _, Nat.zero_le _⟩) hP hD hS hA [10, 11] rfl rfl (fun H locs hP hD hS => ?_)
  have hP : va_P D vwCl (zw_9 q k S) H := hP
  have hD : va_D A (zw_9 q k S) := hD
  obtain ⟨j18_3, hj18_3, hf⟩ := zz_lts hf
  have Kj18_3 : ∀  (H : Heap) (locs : List Loc), va_P D vwCl (zw_9 q k S) H → va_D A (zw_9 q k S) → va_S A s.heap H locs → ∀ ls : Array Slot, lv_has ls 3 [] → j18_3 () = some (r, o1) → W p l e rmX9_seen s m args below meth c H locs 0 0 Q (F0 m 18 ls []) := by
    intro  H locs hP hD hS ls hl hf
    rw [hj18_3] at hf
    refine lv_bipush (v := (-2 : Int32)) hx hb dX9_seen_18 (by decide) ?_
    obtain ⟨rfl, rfl⟩ := zz_e2 hf
    exact hret _ _ _ _ dX9_seen_20 hP hD hS
  refine lv_if_eq (tgt := 18) hx hb dX9_seen_8 (by decide) (fun c8 => ?_) (fun c8 => ?_)
  · have hf := zz_ps hf c8
    exact Kj18_3  _ _ hP hD hS ls (lv_sub hl [] rfl) hf
  · have hf := zz_ng hf c8
    refine lv_iload_n hx hb dX9_seen_11 rfl (lv_at hl 2 rfl) ?_
    obtain ⟨r4, hc5, hf⟩ := zz_b1s hf
    refine zz_ji (va_runS (As := [.int u1]) (rest := []) hfx (zc_X9_isEither l D tb  F u1  r4 hc5 H.size) (va_cwS 1 hts gX9_seen_X9_isEither rfl rfl rfl (by decide +kernel) ⟨Nat.le_of_ble_eq_true rfl, Nat.le_of_ble_eq_true rfl⟩) (zz_preS hK hP hD hS hA hE [] [] rfl (by decide) rfl) rfl rfl hl.1 rfl (lv_room (Nat.le_of_ble_eq_true rfl)) dX9_seen_12 ⟨Nat.zero_le _, Nat.zero_le _⟩) hP hD hS hA [] rfl rfl (fun H locs hP hD hS => ?_)
    have hP : va_P D vwCl (zw_9 q k S) H := hP
    have hD : va_D A (zw_9 q k S) := hD
    refine lv_if_ne (tgt := 21) hx hb dX9_seen_15 (by decide) (fun c15 => ?_) (fun c15 => ?_)
    · have hf := zz_ng hf c15
      refine lv_aload_n hx hb dX9_seen_21 rfl (lv_at hl 0 rfl) ?_
      obtain ⟨S6, hc7, hf⟩ := zz_b1s hf
      refine zz_jv0 (va_runV (As := []) (rest := []) hfx (zc_X9_settle l D tb q k F  S S6 hc7 H.size) (cwV 0 hts gX9_seen_X9_settle rfl rfl rfl (by decide +kernel) ⟨Nat.le_of_ble_eq_true rfl, Nat.le_of_ble_eq_true rfl⟩) (zz_pre0V hK hP hD hS hA hE 0 rfl rfl rfl) rfl rfl hl.1 rfl (lv_room (Nat.le_of_ble_eq_true rfl)) dX9_seen_22 ⟨Nat.zero_le _, Nat.zero_le _⟩) hD hS hA (fun H locs hP hD hS => ?_)
      refine lv_iload_n hx hb dX9_seen_25 rfl (lv_at hl 2 rfl) ?_
      obtain ⟨j48_9, hj48_9, hf⟩ := zz_lts hf
      have Kj48_9 : ∀ (y8 : Int32) (H : Heap) (locs : List Loc), va_P D vwCl (zw_9 q k S6) H → va_D A (zw_9 q k S6) → va_S A s.heap H locs → ∀ ls : Array Slot, lv_has ls 3 [] → j48_9 y8 = some (r, o1) → W p l e rmX9_seen s m args below meth c H locs 0 0 Q (F0 m 48 ls [.int y8]) := by
        intro y8 H locs hP hD hS ls hl hf
        rw [hj48_9] at hf
        obtain ⟨rfl, rfl⟩ := zz_e2 hf
        exact hret _ _ _ _ dX9_seen_48 hP hD hS
      refine lv_if_ne (tgt := 40) hx hb dX9_seen_26 (by decide) (fun c26 => ?_) (fun c26 => ?_)
      · have hf := zz_ng hf c26
        refine lv_aload_n hx hb dX9_seen_40 rfl (lv_at hl 0 rfl) ?_
        refine va_get (D := D) (ci := 9) (v := .ref (q 33)) (C := RX9) (T := TX9) (N := 18) hx hb hts inX9 hown hK hP 0 rfl rfl 9 (by decide) lk66 (fun _ h9 => h9) rfl dX9_seen_41 ?_
        refine lv_iload_n hx hb dX9_seen_44 rfl (lv_at hl 1 rfl) ?_
        obtain ⟨r10, hc11, hf⟩ := zz_b1s hf
        refine zz_ji (va_runV (As := [.int u0]) (rest := []) hfx (zc_X2_longestUnseen l D tb (q 33) (q 34) (q 35) (k 34) (k 35) F u0 (zz_gA S6 17) (zz_gL S6 2) r10 hc11 H.size) (cwV 1 hts gX9_seen_X2_longestUnseen rfl rfl rfl (by decide +kernel) ⟨Nat.le_of_ble_eq_true rfl, Nat.le_of_ble_eq_true rfl⟩) (zz_preV hK hP hD hS hA hE [33, 34, 35] [20, 21] rfl (by decide) rfl 33 rfl rfl rfl) rfl rfl hl.1 rfl (lv_room (Nat.le_of_ble_eq_true rfl)) dX9_seen_45 ⟨Nat.zero_le _, Nat.zero_le _⟩) hP hD hS hA [33, 34, 35] rfl rfl (fun H locs hP hD hS => ?_)
        have hP : va_P D vwCl (zw_9 q k S6) H := hP
        have hD : va_D A (zw_9 q k S6) := hD
        exact Kj48_9 r10 _ _ hP hD hS ls (lv_sub hl [] rfl) hf
      · have hf := zz_ps hf c26
        refine lv_aload_n hx hb dX9_seen_29 rfl (lv_at hl 0 rfl) ?_
        refine va_get (D := D) (ci := 9) (v := .ref (q 33)) (C := RX9) (T := TX9) (N := 18) hx hb hts inX9 hown hK hP 0 rfl rfl 9 (by decide) lk66 (fun _ h9 => h9) rfl dX9_seen_30 ?_
        refine lv_iload_n hx hb dX9_seen_33 rfl (lv_at hl 1 rfl) ?_
        obtain ⟨r12, hc13, hf⟩ := zz_b1s hf
        refine zz_ji (va_runV (As := [.int u0]) (rest := []) hfx (zc_X2_momentsSeen l D tb (q 33) (q 34) (q 35) (k 34) (k 35) F u0 (zz_gA S6 17) (zz_gL S6 2) r12 hc13 H.size) (cwV 1 hts gX9_seen_X2_momentsSeen rfl rfl rfl (by decide +kernel) ⟨Nat.le_of_ble_eq_true rfl, Nat.le_of_ble_eq_true rfl⟩) (zz_preV hK hP hD hS hA hE [33, 34, 35] [20, 21] rfl (by decide) rfl 33 rfl rfl rfl) rfl rfl hl.1 rfl (lv_room (Nat.le_of_ble_eq_true rfl)) dX9_seen_34 ⟨Nat.zero_le _, Nat.zero_le _⟩) hP hD hS hA [33, 34, 35] rfl rfl (fun H locs hP hD hS => ?_)
        have hP : va_P D vwCl (zw_9 q k S6) H := hP
        have hD : va_D A (zw_9 q k S6) := hD
        refine lv_goto (tgt := 48) hx hb dX9_seen_37 (by decide) ?_
        exact Kj48_9 r12 _ _ hP hD hS ls (lv_sub hl [] rfl) hf
    · have hf := zz_ps hf c15
      exact Kj18_3  _ _ hP hD hS ls (lv_sub hl [] rfl) hf
def rmX9_takes : Room := { frames := 4, cells := 0, slots := 0, locals := 96 }
set_option maxHeartbeats 4000000 in
set_option maxRecDepth 100000 in
theorem zc_X9_takes (l : Launch) (D : va_G) (tb : Nat → Nat) (q : Nat → Nat) (k : Nat → ClassId) (F : Nat) (u0 : Int32) (S : zz_M) (r : Int32) (o1 : zz_M) (hf : pX9_takes F u0 S = some (r, o1)) : zz_Mi l yX9_takes wsX9_takes rmX9_takes D tb [((k 1), .object "CatBeat$Text"), ((k 3), .int), ((k 5), .int), ((k 7), .int), ((k 8), .int), ((k 9), .int), ((k 11), .int), ((k 13), .int), ((k 15), .int), ((k 16), .int), ((k 18), .int), ((k 19), .int), ((k 20), .object "CatBeat$Sheet"), ((k 22), .int), ((k 24), .int), ((k 26), .int), ((k 28), .int), ((k 30), .int), ((k 31), .long), ((k 32), .boolean), ((k 34), .int), ((k 35), .long), ((k 37), .int), ((k 39), .int), ((k 40), .long), ((k 41), .boolean), ((k 43), .int), ((k 44), .long), ((k 46), .long), ((k 47), .int)] [.ref (q 0), .int u0] (zw_9 q k S) (zw_9 q k o1) r := by
  refine zz_ofi (cc := cX9_takes) (maxL := 2) (by decide) rfl (Nat.le_of_ble_eq_true rfl) ?_
  intro p e s m args below meth c A Q hfx hK hA hE hret H locs hP hD hS ls hl
  obtain ⟨hx, hb, hml, hown, hts⟩ := id hfx
  have inX9 : ∀ w ∈ u_ws RX9 TX9 18, w ∈ wsX9_takes := by decide +kernel
  have lk39 := hts (.fieldLink RX9 39 "CatBeat" "thieves" "LCatBeat$Thieves;") (by decide +kernel)
  have lk25 := hts (.fieldLink RX9 25 "CatBeat" "ward" "LCatBeat$Ward;") (by decide +kernel)
  have lk66 := hts (.fieldLink RX9 66 "CatBeat" "night" "LCatBeat$Night;") (by decide +kernel)
  have hl : lv_has ls 2 [(0, .ref (q 0)), (1, .int u0)] := hl
  unfold pX9_takes at hf
  refine lv_aload_n hx hb dX9_takes_0 rfl (lv_at hl 0 rfl) ?_
  refine lv_iload_n hx hb dX9_takes_1 rfl (lv_at hl 1 rfl) ?_
  obtain ⟨r1, hc2, hf⟩ := zz_b1s hf
  refine zz_ji0 (va_runV (As := [.int u0]) (rest := []) hfx (zc_X9_isThief l D tb q k F u0 S r1 hc2 H.size) (cwV 1 hts gX9_takes_X9_isThief rfl rfl rfl (by decide +kernel) ⟨Nat.le_of_ble_eq_true rfl, Nat.le_of_ble_eq_true rfl⟩) (zz_pre0V hK hP hD hS hA hE 0 rfl rfl rfl) rfl rfl hl.1 rfl (lv_room (Nat.le_of_ble_eq_true rfl)) dX9_takes_2 ⟨Nat.zero_le _, Nat.zero_le _⟩) hD hS hA (fun H locs hP hD hS => ?_)
  refine lv_if_ne (tgt := 11) hx hb dX9_takes_5 (by decide) (fun c5 => ?_) (fun c5 => ?_)
  · have hf := zz_ng hf c5
    refine lv_aload_n hx hb dX9_takes_11 rfl (lv_at hl 0 rfl) ?_
    obtain ⟨S3, hc4, hf⟩ := zz_b1s hf
    refine zz_jv0 (va_runV (As := []) (rest := []) hfx (zc_X9_settle l D tb q k F  S S3 hc4 H.size) (cwV 0 hts gX9_takes_X9_settle rfl rfl rfl (by decide +kernel) ⟨Nat.le_of_ble_eq_true rfl, Nat.le_of_ble_eq_true rfl⟩) (zz_pre0V hK hP hD hS hA hE 0 rfl rfl rfl) rfl rfl hl.1 rfl (lv_room (Nat.le_of_ble_eq_true rfl)) dX9_takes_12 ⟨Nat.zero_le _, Nat.zero_le _⟩) hD hS hA (fun H locs hP hD hS => ?_)
    refine lv_aload_n hx hb dX9_takes_15 rfl (lv_at hl 0 rfl) ?_
    refine va_get (D := D) (ci := 9) (v := .ref (q 14)) (C := RX9) (T := TX9) (N := 18) hx hb hts inX9 hown hK hP 0 rfl rfl 5 (by decide) lk39 (fun _ h9 => h9) rfl dX9_takes_16 ?_
    refine lv_iload_n hx hb dX9_takes_19 rfl (lv_at hl 1 rfl) ?_
    refine lv_aload_n hx hb dX9_takes_20 rfl (lv_at hl 0 rfl) ?_
    refine va_get (D := D) (ci := 9) (v := .ref (q 10)) (C := RX9) (T := TX9) (N := 18) hx hb hts inX9 hown hK hP 0 rfl rfl 3 (by decide) lk25 (fun _ h9 => h9) rfl dX9_takes_21 ?_
    refine lv_aload_n hx hb dX9_takes_24 rfl (lv_at hl 0 rfl) ?_
    refine va_get (D := D) (ci := 9) (v := .ref (q 33)) (C := RX9) (T := TX9) (N := 18) hx hb hts inX9 hown hK hP 0 rfl rfl 9 (by decide) lk66 (fun _ h9 => h9) rfl dX9_takes_25 ?_
    obtain ⟨r5, hc6, hf⟩ := zz_b1s hf
    refine zz_ji (va_runV (As := [.int u0, .ref (q 10), .ref (q 33)]) (rest := []) hfx (zc_X7_takesBehind l D tb (q 14) (q 15) (q 16) (q 10) (q 11) (q 33) (q 34) (q 35) (k 15) (k 16) (k 11) (k 34) (k 35) F u0 (zz_gI S3 6) (zz_gA S3 7) (zz_gA S3 8) (zz_gI S3 3) (zz_gI S3 4) (zz_gL S3 0 0) (zz_gA S3 5) (zz_gA S3 17) (zz_gL S3 2) r5 hc6 H.size) (cwV 3 hts gX9_takes_X7_takesBehind rfl rfl rfl (by decide +kernel) ⟨Nat.le_of_ble_eq_true rfl, Nat.le_of_ble_eq_true rfl⟩) (zz_preV hK hP hD hS hA hE [14, 15, 16, 10, 11, 33, 34, 35] [8, 9, 6, 20, 21] rfl (by decide) rfl 14 rfl rfl rfl) rfl rfl hl.1 rfl (lv_room (Nat.le_of_ble_eq_true rfl)) dX9_takes_28 ⟨Nat.zero_le _, Nat.zero_le _⟩) hP hD hS hA [14, 15, 16, 10, 11, 33, 34, 35] rfl rfl (fun H locs hP hD hS => ?_)
    have hP : va_P D vwCl (zw_9 q k S3) H := hP
    have hD : va_D A (zw_9 q k S3) := hD
    obtain ⟨rfl, rfl⟩ := zz_e2 hf
    exact hret _ _ _ _ dX9_takes_31 hP hD hS
  · have hf := zz_ps hf c5
    refine lv_bipush (v := (-2 : Int32)) hx hb dX9_takes_8 (by decide) ?_
    obtain ⟨rfl, rfl⟩ := zz_e2 hf
    exact hret _ _ _ _ dX9_takes_10 hP hD hS
def rmX9_safe : Room := { frames := 4, cells := 0, slots := 0, locals := 96 }
set_option maxHeartbeats 4000000 in
set_option maxRecDepth 100000 in
theorem zc_X9_safe (l : Launch) (D : va_G) (tb : Nat → Nat) (q : Nat → Nat) (k : Nat → ClassId) (F : Nat) (u0 : Int32) (S : zz_M) (r : Int32) (o1 : zz_M) (hf : pX9_safe F u0 S = some (r, o1)) : zz_Mi l yX9_safe wsX9_safe rmX9_safe D tb [((k 1), .object "CatBeat$Text"), ((k 3), .int), ((k 5), .int), ((k 7), .int), ((k 8), .int), ((k 9), .int), ((k 11), .int), ((k 13), .int), ((k 15), .int), ((k 16), .int), ((k 18), .int), ((k 19), .int), ((k 20), .object "CatBeat$Sheet"), ((k 22), .int), ((k 24), .int), ((k 26), .int), ((k 28), .int), ((k 30), .int), ((k 31), .long), ((k 32), .boolean), ((k 34), .int), ((k 35), .long), ((k 37), .int), ((k 39), .int), ((k 40), .long), ((k 41), .boolean), ((k 43), .int), ((k 44), .long), ((k 46), .long), ((k 47), .int)] [.ref (q 0), .int u0] (zw_9 q k S) (zw_9 q k o1) r := by
  refine zz_ofi (cc := cX9_safe) (maxL := 2) (by decide) rfl (Nat.le_of_ble_eq_true rfl) ?_
  intro p e s m args below meth c A Q hfx hK hA hE hret H locs hP hD hS ls hl
  obtain ⟨hx, hb, hml, hown, hts⟩ := id hfx
  have inX9 : ∀ w ∈ u_ws RX9 TX9 18, w ∈ wsX9_safe := by decide +kernel
  have inX8 : ∀ w ∈ u_ws RX8 TX8 4, w ∈ wsX9_safe := by decide +kernel
  have lk25 := hts (.fieldLink RX9 25 "CatBeat" "ward" "LCatBeat$Ward;") (by decide +kernel)
  have lk176 := hts (.fieldLink RX9 176 "CatBeat$Ward" "shops" "J") (by decide +kernel)
  have lk39 := hts (.fieldLink RX9 39 "CatBeat" "thieves" "LCatBeat$Thieves;") (by decide +kernel)
  have lk66 := hts (.fieldLink RX9 66 "CatBeat" "night" "LCatBeat$Night;") (by decide +kernel)
  have kc184 := hts (.constantLong RX9 184 (-1)) (by decide +kernel)
  have hl : lv_has ls 2 [(0, .ref (q 0)), (1, .int u0)] := hl
  unfold pX9_safe at hf
  refine lv_iload_n hx hb dX9_safe_0 rfl (lv_at hl 1 rfl) ?_
  obtain ⟨r1, hc2, hf⟩ := zz_b1s hf
  refine zz_ji (va_runS (As := [.int u0]) (rest := []) hfx (zc_X9_isEither l D tb  F u0  r1 hc2 H.size) (va_cwS 1 hts gX9_safe_X9_isEither rfl rfl rfl (by decide +kernel) ⟨Nat.le_of_ble_eq_true rfl, Nat.le_of_ble_eq_true rfl⟩) (zz_preS hK hP hD hS hA hE [] [] rfl (by decide) rfl) rfl rfl hl.1 rfl (lv_room (Nat.le_of_ble_eq_true rfl)) dX9_safe_1 ⟨Nat.zero_le _, Nat.zero_le _⟩) hP hD hS hA [] rfl rfl (fun H locs hP hD hS => ?_)
  have hP : va_P D vwCl (zw_9 q k S) H := hP
  have hD : va_D A (zw_9 q k S) := hD
  refine lv_if_ne (tgt := 10) hx hb dX9_safe_4 (by decide) (fun c4 => ?_) (fun c4 => ?_)
  · have hf := zz_ng hf c4
    refine lv_aload_n hx hb dX9_safe_10 rfl (lv_at hl 0 rfl) ?_
    obtain ⟨S3, hc4, hf⟩ := zz_b1s hf
    refine zz_jv0 (va_runV (As := []) (rest := []) hfx (zc_X9_settle l D tb q k F  S S3 hc4 H.size) (cwV 0 hts gX9_safe_X9_settle rfl rfl rfl (by decide +kernel) ⟨Nat.le_of_ble_eq_true rfl, Nat.le_of_ble_eq_true rfl⟩) (zz_pre0V hK hP hD hS hA hE 0 rfl rfl rfl) rfl rfl hl.1 rfl (lv_room (Nat.le_of_ble_eq_true rfl)) dX9_safe_11 ⟨Nat.zero_le _, Nat.zero_le _⟩) hD hS hA (fun H locs hP hD hS => ?_)
    refine lv_aload_n hx hb dX9_safe_14 rfl (lv_at hl 0 rfl) ?_
    refine va_get (D := D) (ci := 9) (v := .ref (q 10)) (C := RX9) (T := TX9) (N := 18) hx hb hts inX9 hown hK hP 0 rfl rfl 3 (by decide) lk25 (fun _ h9 => h9) rfl dX9_safe_15 ?_
    refine va_get (D := D) (ci := 8) (v := .long (zz_gL S3 0 0)) (C := RX8) (T := TX8) (N := 4) hx hb hts inX8 hown hK hP 10 rfl rfl 3 (by decide) lk176 (fun _ h9 => h9) rfl dX9_safe_18 ?_
    refine lv_aload_n hx hb dX9_safe_21 rfl (lv_at hl 0 rfl) ?_
    refine va_get (D := D) (ci := 9) (v := .ref (q 14)) (C := RX9) (T := TX9) (N := 18) hx hb hts inX9 hown hK hP 0 rfl rfl 5 (by decide) lk39 (fun _ h9 => h9) rfl dX9_safe_22 ?_
    refine lv_aload_n hx hb dX9_safe_25 rfl (lv_at hl 0 rfl) ?_
    refine va_get (D := D) (ci := 9) (v := .ref (q 10)) (C := RX9) (T := TX9) (N := 18) hx hb hts inX9 hown hK hP 0 rfl rfl 3 (by decide) lk25 (fun _ h9 => h9) rfl dX9_safe_26 ?_
    refine lv_aload_n hx hb dX9_safe_29 rfl (lv_at hl 0 rfl) ?_
    refine va_get (D := D) (ci := 9) (v := .ref (q 33)) (C := RX9) (T := TX9) (N := 18) hx hb hts inX9 hown hK hP 0 rfl rfl 9 (by decide) lk66 (fun _ h9 => h9) rfl dX9_safe_30 ?_
    refine lv_iconst (v := (-1 : Int32)) hx hb dX9_safe_33 (by decide) ?_
    obtain ⟨r5, hc6, hf⟩ := zz_b1s hf
    refine zz_jl (va_runV (As := [.ref (q 10), .ref (q 33), .int (-1 : Int32)]) (rest := [.long (zz_gL S3 0 0)]) hfx (zc_X7_takenFrom l D tb (q 14) (q 15) (q 16) (q 10) (q 11) (q 33) (q 34) (q 35) (k 15) (k 16) (k 11) (k 34) (k 35) F (-1 : Int32) (zz_gI S3 6) (zz_gA S3 7) (zz_gA S3 8) (zz_gI S3 3) (zz_gI S3 4) (zz_gL S3 0 0) (zz_gA S3 5) (zz_gA S3 17) (zz_gL S3 2) r5 hc6 H.size) (cwV 3 hts gX9_safe_X7_takenFrom rfl rfl rfl (by decide +kernel) ⟨Nat.le_of_ble_eq_true rfl, Nat.le_of_ble_eq_true rfl⟩) (zz_preV hK hP hD hS hA hE [14, 15, 16, 10, 11, 33, 34, 35] [8, 9, 6, 20, 21] rfl (by decide) rfl 14 rfl rfl rfl) rfl rfl hl.1 rfl (lv_room (Nat.le_of_ble_eq_true rfl)) dX9_safe_34 ⟨Nat.zero_le _, Nat.zero_le _⟩) hP hD hS hA [14, 15, 16, 10, 11, 33, 34, 35] rfl rfl (fun H locs hP hD hS => ?_)
    have hP : va_P D vwCl (zw_9 q k S3) H := hP
    have hD : va_D A (zw_9 q k S3) := hD
    refine lv_ldc2 (v := (-1 : Int64)) hx hb hown kc184 dX9_safe_37 ?_
    refine lv_lxor hx hb dX9_safe_40 ?_
    refine lv_land hx hb dX9_safe_41 ?_
    refine lv_iload_n hx hb dX9_safe_42 rfl (lv_at hl 1 rfl) ?_
    obtain ⟨r7, hc8, hf⟩ := zz_b1s hf
    refine zz_ji (va_runS (As := [.long ((zz_gL S3 0 0) &&& (r5 ^^^ (-1 : Int64))), .int u0]) (rest := []) hfx (zc_X9_halfOf l D tb  F ((zz_gL S3 0 0) &&& (r5 ^^^ (-1 : Int64))) u0  r7 hc8 H.size) (va_cwS 2 hts gX9_safe_X9_halfOf rfl rfl rfl (by decide +kernel) ⟨Nat.le_of_ble_eq_true rfl, Nat.le_of_ble_eq_true rfl⟩) (zz_preS hK hP hD hS hA hE [] [] rfl (by decide) rfl) rfl rfl hl.1 rfl (lv_room (Nat.le_of_ble_eq_true rfl)) dX9_safe_43 ⟨Nat.zero_le _, Nat.zero_le _⟩) hP hD hS hA [] rfl rfl (fun H locs hP hD hS => ?_)
    have hP : va_P D vwCl (zw_9 q k S3) H := hP
    have hD : va_D A (zw_9 q k S3) := hD
    obtain ⟨rfl, rfl⟩ := zz_e2 hf
    exact hret _ _ _ _ dX9_safe_46 hP hD hS
  · have hf := zz_ps hf c4
    refine lv_bipush (v := (-2 : Int32)) hx hb dX9_safe_7 (by decide) ?_
    obtain ⟨rfl, rfl⟩ := zz_e2 hf
    exact hret _ _ _ _ dX9_safe_9 hP hD hS
def rmX9_lost : Room := { frames := 4, cells := 0, slots := 0, locals := 96 }
set_option maxHeartbeats 4000000 in
set_option maxRecDepth 100000 in
theorem zc_X9_lost (l : Launch) (D : va_G) (tb : Nat → Nat) (q : Nat → Nat) (k : Nat → ClassId) (F : Nat)  (S : zz_M) (r : Int32) (o1 : zz_M) (hf : pX9_lost F S = some (r, o1)) : zz_Mi l yX9_lost wsX9_lost rmX9_lost D tb [((k 1), .object "CatBeat$Text"), ((k 3), .int), ((k 5), .int), ((k 7), .int), ((k 8), .int), ((k 9), .int), ((k 11), .int), ((k 13), .int), ((k 15), .int), ((k 16), .int), ((k 18), .int), ((k 19), .int), ((k 20), .object "CatBeat$Sheet"), ((k 22), .int), ((k 24), .int), ((k 26), .int), ((k 28), .int), ((k 30), .int), ((k 31), .long), ((k 32), .boolean), ((k 34), .int), ((k 35), .long), ((k 37), .int), ((k 39), .int), ((k 40), .long), ((k 41), .boolean), ((k 43), .int), ((k 44), .long), ((k 46), .long), ((k 47), .int)] [.ref (q 0)] (zw_9 q k S) (zw_9 q k o1) r := by
  refine zz_ofi (cc := cX9_lost) (maxL := 1) (by decide) rfl (Nat.le_of_ble_eq_true rfl) ?_
  intro p e s m args below meth c A Q hfx hK hA hE hret H locs hP hD hS ls hl
  obtain ⟨hx, hb, hml, hown, hts⟩ := id hfx
  have inX9 : ∀ w ∈ u_ws RX9 TX9 18, w ∈ wsX9_lost := by decide +kernel
  have lk39 := hts (.fieldLink RX9 39 "CatBeat" "thieves" "LCatBeat$Thieves;") (by decide +kernel)
  have lk25 := hts (.fieldLink RX9 25 "CatBeat" "ward" "LCatBeat$Ward;") (by decide +kernel)
  have lk66 := hts (.fieldLink RX9 66 "CatBeat" "night" "LCatBeat$Night;") (by decide +kernel)
  have hl : lv_has ls 1 [(0, .ref (q 0))] := hl
  unfold pX9_lost at hf
  refine lv_aload_n hx hb dX9_lost_0 rfl (lv_at hl 0 rfl) ?_
  obtain ⟨S1, hc2, hf⟩ := zz_b1s hf
  refine zz_jv0 (va_runV (As := []) (rest := []) hfx (zc_X9_settle l D tb q k F  S S1 hc2 H.size) (cwV 0 hts gX9_lost_X9_settle rfl rfl rfl (by decide +kernel) ⟨Nat.le_of_ble_eq_true rfl, Nat.le_of_ble_eq_true rfl⟩) (zz_pre0V hK hP hD hS hA hE 0 rfl rfl rfl) rfl rfl hl.1 rfl (lv_room (Nat.le_of_ble_eq_true rfl)) dX9_lost_1 ⟨Nat.zero_le _, Nat.zero_le _⟩) hD hS hA (fun H locs hP hD hS => ?_)
  refine lv_aload_n hx hb dX9_lost_4 rfl (lv_at hl 0 rfl) ?_
  refine va_get (D := D) (ci := 9) (v := .ref (q 14)) (C := RX9) (T := TX9) (N := 18) hx hb hts inX9 hown hK hP 0 rfl rfl 5 (by decide) lk39 (fun _ h9 => h9) rfl dX9_lost_5 ?_
  refine lv_aload_n hx hb dX9_lost_8 rfl (lv_at hl 0 rfl) ?_
  refine va_get (D := D) (ci := 9) (v := .ref (q 10)) (C := RX9) (T := TX9) (N := 18) hx hb hts inX9 hown hK hP 0 rfl rfl 3 (by decide) lk25 (fun _ h9 => h9) rfl dX9_lost_9 ?_
  refine lv_aload_n hx hb dX9_lost_12 rfl (lv_at hl 0 rfl) ?_
  refine va_get (D := D) (ci := 9) (v := .ref (q 33)) (C := RX9) (T := TX9) (N := 18) hx hb hts inX9 hown hK hP 0 rfl rfl 9 (by decide) lk66 (fun _ h9 => h9) rfl dX9_lost_13 ?_
  obtain ⟨r3, hc4, hf⟩ := zz_b1s hf
  refine zz_ji (va_runV (As := [.ref (q 10), .ref (q 33)]) (rest := []) hfx (zc_X7_howManyTake l D tb (q 14) (q 15) (q 16) (q 10) (q 11) (q 33) (q 34) (q 35) (k 15) (k 16) (k 11) (k 34) (k 35) F  (zz_gI S1 6) (zz_gA S1 7) (zz_gA S1 8) (zz_gI S1 3) (zz_gI S1 4) (zz_gL S1 0 0) (zz_gA S1 5) (zz_gA S1 17) (zz_gL S1 2) r3 hc4 H.size) (cwV 2 hts gX9_lost_X7_howManyTake rfl rfl rfl (by decide +kernel) ⟨Nat.le_of_ble_eq_true rfl, Nat.le_of_ble_eq_true rfl⟩) (zz_preV hK hP hD hS hA hE [14, 15, 16, 10, 11, 33, 34, 35] [8, 9, 6, 20, 21] rfl (by decide) rfl 14 rfl rfl rfl) rfl rfl hl.1 rfl (lv_room (Nat.le_of_ble_eq_true rfl)) dX9_lost_16 ⟨Nat.zero_le _, Nat.zero_le _⟩) hP hD hS hA [14, 15, 16, 10, 11, 33, 34, 35] rfl rfl (fun H locs hP hD hS => ?_)
  have hP : va_P D vwCl (zw_9 q k S1) H := hP
  have hD : va_D A (zw_9 q k S1) := hD
  obtain ⟨rfl, rfl⟩ := zz_e2 hf
  exact hret _ _ _ _ dX9_lost_19 hP hD hS
def rmX9_first : Room := { frames := 4, cells := 0, slots := 0, locals := 96 }
set_option maxHeartbeats 4000000 in
set_option maxRecDepth 100000 in
theorem zc_X9_first (l : Launch) (D : va_G) (tb : Nat → Nat) (q : Nat → Nat) (k : Nat → ClassId) (F : Nat)  (S : zz_M) (r : Int32) (o1 : zz_M) (hf : pX9_first F S = some (r, o1)) : zz_Mi l yX9_first wsX9_first rmX9_first D tb [((k 1), .object "CatBeat$Text"), ((k 3), .int), ((k 5), .int), ((k 7), .int), ((k 8), .int), ((k 9), .int), ((k 11), .int), ((k 13), .int), ((k 15), .int), ((k 16), .int), ((k 18), .int), ((k 19), .int), ((k 20), .object "CatBeat$Sheet"), ((k 22), .int), ((k 24), .int), ((k 26), .int), ((k 28), .int), ((k 30), .int), ((k 31), .long), ((k 32), .boolean), ((k 34), .int), ((k 35), .long), ((k 37), .int), ((k 39), .int), ((k 40), .long), ((k 41), .boolean), ((k 43), .int), ((k 44), .long), ((k 46), .long), ((k 47), .int)] [.ref (q 0)] (zw_9 q k S) (zw_9 q k o1) r := by
  refine zz_ofi (cc := cX9_first) (maxL := 5) (by decide) rfl (Nat.le_of_ble_eq_true rfl) ?_
  intro p e s m args below meth c A Q hfx hK hA hE hret H locs hP hD hS ls hl
  obtain ⟨hx, hb, hml, hown, hts⟩ := id hfx
  have inX9 : ∀ w ∈ u_ws RX9 TX9 18, w ∈ wsX9_first := by decide +kernel
  have inX7 : ∀ w ∈ u_ws RX7 TX7 3, w ∈ wsX9_first := by decide +kernel
  have lk39 := hts (.fieldLink RX9 39 "CatBeat" "thieves" "LCatBeat$Thieves;") (by decide +kernel)
  have lk190 := hts (.fieldLink RX9 190 "CatBeat$Thieves" "count" "I") (by decide +kernel)
  have lk25 := hts (.fieldLink RX9 25 "CatBeat" "ward" "LCatBeat$Ward;") (by decide +kernel)
  have lk66 := hts (.fieldLink RX9 66 "CatBeat" "night" "LCatBeat$Night;") (by decide +kernel)
  have hl : lv_has ls 5 [(0, .ref (q 0))] := hl
  unfold pX9_first at hf
  refine lv_aload_n hx hb dX9_first_0 rfl (lv_at hl 0 rfl) ?_
  obtain ⟨S1, hc2, hf⟩ := zz_b1s hf
  refine zz_jv0 (va_runV (As := []) (rest := []) hfx (zc_X9_settle l D tb q k F  S S1 hc2 H.size) (cwV 0 hts gX9_first_X9_settle rfl rfl rfl (by decide +kernel) ⟨Nat.le_of_ble_eq_true rfl, Nat.le_of_ble_eq_true rfl⟩) (zz_pre0V hK hP hD hS hA hE 0 rfl rfl rfl) rfl rfl hl.1 rfl (lv_room (Nat.le_of_ble_eq_true rfl)) dX9_first_1 ⟨Nat.zero_le _, Nat.zero_le _⟩) hD hS hA (fun H locs hP hD hS => ?_)
  refine lv_iconst (v := (-1 : Int32)) hx hb dX9_first_4 (by decide) ?_
  refine lv_istore_n (lv' := [(1, .int (-1 : Int32)), (0, .ref (q 0))]) hx hb dX9_first_5 rfl hl (by decide) rfl (fun ls hl => ?_)
  refine lv_bipush (v := (96 : Int32)) hx hb dX9_first_6 (by decide) ?_
  refine lv_istore_n (lv' := [(2, .int (96 : Int32)), (1, .int (-1 : Int32)), (0, .ref (q 0))]) hx hb dX9_first_8 rfl hl (by decide) rfl (fun ls hl => ?_)
  refine lv_iconst (v := (0 : Int32)) hx hb dX9_first_9 (by decide) ?_
  refine lv_istore_n (lv' := [(3, .int (0 : Int32)), (2, .int (96 : Int32)), (1, .int (-1 : Int32)), (0, .ref (q 0))]) hx hb dX9_first_10 rfl hl (by decide) rfl (fun ls hl => ?_)
  have hLkL11_5 : ∀ (n11_5 : Nat) (x3 : Int32) (x4 : Int32) (x5 : Int32) (H : Heap) (locs : List Loc), va_P D vwCl (zw_9 q k S1) H → va_D A (zw_9 q k S1) → va_S A s.heap H locs → ∀ ls : Array Slot, lv_has ls 5 [(0, .ref (q 0)), (1, .int x3), (2, .int x4), (3, .int x5)] → pX9_first_L11_5 F S1 n11_5 x3 x4 x5 = some (r, o1) → W p l e rmX9_first s m args below meth c H locs 0 0 Q (F0 m 11 ls []) := by
    intro n11_5
    induction n11_5 with
    | zero =>
      intro x3 x4 x5 H locs hP hD hS ls hl hf
      exact nomatch (show (none : Option _) = some _ from hf)
    | succ n11_5 ihkL11_5 =>
      intro x3 x4 x5 H locs hP hD hS ls hl hf
      rw [pX9_first_L11_5] at hf
      refine lv_iload_n hx hb dX9_first_11 rfl (lv_at hl 3 rfl) ?_
      refine lv_aload_n hx hb dX9_first_12 rfl (lv_at hl 0 rfl) ?_
      refine va_get (D := D) (ci := 9) (v := .ref (q 14)) (C := RX9) (T := TX9) (N := 18) hx hb hts inX9 hown hK hP 0 rfl rfl 5 (by decide) lk39 (fun _ h9 => h9) rfl dX9_first_13 ?_
      refine va_get (D := D) (ci := 7) (v := .int (zz_gI S1 6)) (C := RX7) (T := TX7) (N := 3) hx hb hts inX7 hown hK hP 14 rfl rfl 2 (by decide) lk190 (fun _ h9 => h9) rfl dX9_first_16 ?_
      refine lv_icmp_ge (tgt := 63) hx hb dX9_first_19 (by decide) (fun c19 => ?_) (fun c19 => ?_)
      · have hf := zz_ps hf c19
        refine lv_iload_n hx hb dX9_first_63 rfl (lv_at hl 1 rfl) ?_
        obtain ⟨rfl, rfl⟩ := zz_e2 hf
        exact hret _ _ _ _ dX9_first_64 hP hD hS
      · have hf := zz_ng hf c19
        refine lv_aload_n hx hb dX9_first_22 rfl (lv_at hl 0 rfl) ?_
        refine va_get (D := D) (ci := 9) (v := .ref (q 14)) (C := RX9) (T := TX9) (N := 18) hx hb hts inX9 hown hK hP 0 rfl rfl 5 (by decide) lk39 (fun _ h9 => h9) rfl dX9_first_23 ?_
        refine lv_iload_n hx hb dX9_first_26 rfl (lv_at hl 3 rfl) ?_
        refine lv_aload_n hx hb dX9_first_27 rfl (lv_at hl 0 rfl) ?_
        refine va_get (D := D) (ci := 9) (v := .ref (q 10)) (C := RX9) (T := TX9) (N := 18) hx hb hts inX9 hown hK hP 0 rfl rfl 3 (by decide) lk25 (fun _ h9 => h9) rfl dX9_first_28 ?_
        refine lv_aload_n hx hb dX9_first_31 rfl (lv_at hl 0 rfl) ?_
        refine va_get (D := D) (ci := 9) (v := .ref (q 33)) (C := RX9) (T := TX9) (N := 18) hx hb hts inX9 hown hK hP 0 rfl rfl 9 (by decide) lk66 (fun _ h9 => h9) rfl dX9_first_32 ?_
        obtain ⟨r7, hc8, hf⟩ := zz_b1s hf
        refine zz_ji (va_runV (As := [.int x5, .ref (q 10), .ref (q 33)]) (rest := []) hfx (zc_X7_takesBehind l D tb (q 14) (q 15) (q 16) (q 10) (q 11) (q 33) (q 34) (q 35) (k 15) (k 16) (k 11) (k 34) (k 35) F x5 (zz_gI S1 6) (zz_gA S1 7) (zz_gA S1 8) (zz_gI S1 3) (zz_gI S1 4) (zz_gL S1 0 0) (zz_gA S1 5) (zz_gA S1 17) (zz_gL S1 2) r7 hc8 H.size) (cwV 3 hts gX9_first_X7_takesBehind rfl rfl rfl (by decide +kernel) ⟨Nat.le_of_ble_eq_true rfl, Nat.le_of_ble_eq_true rfl⟩) (zz_preV hK hP hD hS hA hE [14, 15, 16, 10, 11, 33, 34, 35] [8, 9, 6, 20, 21] rfl (by decide) rfl 14 rfl rfl rfl) rfl rfl hl.1 rfl (lv_room (Nat.le_of_ble_eq_true rfl)) dX9_first_35 ⟨Nat.zero_le _, Nat.zero_le _⟩) hP hD hS hA [14, 15, 16, 10, 11, 33, 34, 35] rfl rfl (fun H locs hP hD hS => ?_)
        have hP : va_P D vwCl (zw_9 q k S1) H := hP
        have hD : va_D A (zw_9 q k S1) := hD
        refine lv_istore (lv' := [(4, .int r7), (0, .ref (q 0)), (1, .int x3), (2, .int x4), (3, .int x5)]) hx hb dX9_first_38 hl (by decide) rfl (fun ls hl => ?_)
        refine lv_iload hx hb dX9_first_40 (lv_at hl 0 rfl) ?_
        refine lv_iconst (v := (-1 : Int32)) hx hb dX9_first_42 (by decide) ?_
        obtain ⟨v9, hv9, hf⟩ := zz_lts hf
        obtain ⟨v10, hv10, hf⟩ := zz_lts hf
        have hK11 : ∀ ls : Array Slot, lv_has ls 5 [(0, .ref (q 0)), (1, .int v9), (2, .int v10), (3, .int x5)] → W p l e rmX9_first s m args below meth c H locs 0 0 Q (F0 m 57 ls []) := by
          intro ls hl
          obtain ⟨v12, hv12, hf⟩ := zz_lts hf
          refine lv_iinc (v := v12) (lv' := [(3, .int v12), (0, .ref (q 0)), (1, .int v9), (2, .int v10)]) hx hb dX9_first_57 hl (k := 3) rfl (by rw [hv12]; rfl) (by decide) rfl (fun ls hl => ?_)
          refine lv_goto (tgt := 11) hx hb dX9_first_60 (by decide) ?_
          exact ihkL11_5 v9 v10 v12 _ _ hP hD hS ls (lv_sub hl [1, 2, 3, 0] rfl) hf
        refine lv_icmp_eq (tgt := 57) hx hb dX9_first_43 (by decide) (fun c43 => ?_) (fun c43 => ?_)
        · exact hK11 ls (by have ev9 : v9 = x3 := (by rw [hv9, if_pos c43]); have ev10 : v10 = x4 := (by rw [hv10, if_pos c43]); rw [ev9, ev10]; exact lv_sub hl [1, 2, 3, 4] rfl)
        · refine lv_iload hx hb dX9_first_46 (lv_at hl 0 rfl) ?_
          refine lv_iload_n hx hb dX9_first_48 rfl (lv_at hl 3 rfl) ?_
          refine lv_icmp_ge (tgt := 57) hx hb dX9_first_49 (by decide) (fun c49 => ?_) (fun c49 => ?_)
          · exact hK11 ls (by have ev9 : v9 = x3 := (by rw [hv9, if_neg c43, if_pos c49]); have ev10 : v10 = x4 := (by rw [hv10, if_neg c43, if_pos c49]); rw [ev9, ev10]; exact lv_sub hl [1, 2, 3, 4] rfl)
          · refine lv_iload_n hx hb dX9_first_52 rfl (lv_at hl 4 rfl) ?_
            refine lv_istore_n (lv' := [(1, .int x5), (4, .int r7), (0, .ref (q 0)), (2, .int x4), (3, .int x5)]) hx hb dX9_first_53 rfl hl (by decide) rfl (fun ls hl => ?_)
            refine lv_iload hx hb dX9_first_54 (lv_at hl 1 rfl) ?_
            refine lv_istore_n (lv' := [(2, .int r7), (1, .int x5), (4, .int r7), (0, .ref (q 0)), (3, .int x5)]) hx hb dX9_first_56 rfl hl (by decide) rfl (fun ls hl => ?_)
            exact hK11 ls (by have ev9 : v9 = x5 := (by rw [hv9, if_neg c43, if_neg c49]); have ev10 : v10 = r7 := (by rw [hv10, if_neg c43, if_neg c49]); rw [ev9, ev10]; exact lv_sub hl [3, 1, 0, 4] rfl)
  exact hLkL11_5 F (-1 : Int32) (96 : Int32) (0 : Int32) _ _ hP hD hS ls (lv_sub hl [3, 2, 1, 0] rfl) hf
def rmX9_lostWithout : Room := { frames := 3, cells := 0, slots := 0, locals := 73 }
set_option maxHeartbeats 4000000 in
set_option maxRecDepth 100000 in
theorem zc_X9_lostWithout (l : Launch) (D : va_G) (tb : Nat → Nat) (q : Nat → Nat) (k : Nat → ClassId) (F : Nat) (u0 : Int32) (u1 : Int32) (S : zz_M) (r : Int32) (o1 : zz_M) (hf : pX9_lostWithout F u0 u1 S = some (r, o1)) : zz_Mi l yX9_lostWithout wsX9_lostWithout rmX9_lostWithout D tb [((k 1), .object "CatBeat$Text"), ((k 3), .int), ((k 5), .int), ((k 7), .int), ((k 8), .int), ((k 9), .int), ((k 11), .int), ((k 13), .int), ((k 15), .int), ((k 16), .int), ((k 18), .int), ((k 19), .int), ((k 20), .object "CatBeat$Sheet"), ((k 22), .int), ((k 24), .int), ((k 26), .int), ((k 28), .int), ((k 30), .int), ((k 31), .long), ((k 32), .boolean), ((k 34), .int), ((k 35), .long), ((k 37), .int), ((k 39), .int), ((k 40), .long), ((k 41), .boolean), ((k 43), .int), ((k 44), .long), ((k 46), .long), ((k 47), .int)] [.ref (q 0), .int u0, .int u1] (zw_9 q k S) (zw_9 q k o1) r := by
  refine zz_ofi (cc := cX9_lostWithout) (maxL := 3) (by decide) rfl (Nat.le_of_ble_eq_true rfl) ?_
  intro p e s m args below meth c A Q hfx hK hA hE hret H locs hP hD hS ls hl
  obtain ⟨hx, hb, hml, hown, hts⟩ := id hfx
  have inX9 : ∀ w ∈ u_ws RX9 TX9 18, w ∈ wsX9_lostWithout := by decide +kernel
  have lk70 := hts (.fieldLink RX9 70 "CatBeat" "otherRound" "LCatBeat$Round;") (by decide +kernel)
  have lk32 := hts (.fieldLink RX9 32 "CatBeat" "round" "LCatBeat$Round;") (by decide +kernel)
  have lk76 := hts (.fieldLink RX9 76 "CatBeat" "otherNight" "LCatBeat$Night;") (by decide +kernel)
  have lk59 := hts (.fieldLink RX9 59 "CatBeat" "ground" "LCatBeat$Ground;") (by decide +kernel)
  have lk19 := hts (.fieldLink RX9 19 "CatBeat" "settings" "[I") (by decide +kernel)
  have lk39 := hts (.fieldLink RX9 39 "CatBeat" "thieves" "LCatBeat$Thieves;") (by decide +kernel)
  have lk25 := hts (.fieldLink RX9 25 "CatBeat" "ward" "LCatBeat$Ward;") (by decide +kernel)
  have hl : lv_has ls 3 [(0, .ref (q 0)), (1, .int u0), (2, .int u1)] := hl
  unfold pX9_lostWithout at hf
  refine lv_aload_n hx hb dX9_lostWithout_0 rfl (lv_at hl 0 rfl) ?_
  refine va_get (D := D) (ci := 9) (v := .ref (q 36)) (C := RX9) (T := TX9) (N := 18) hx hb hts inX9 hown hK hP 0 rfl rfl 10 (by decide) lk70 (fun _ h9 => h9) rfl dX9_lostWithout_1 ?_
  refine lv_aload_n hx hb dX9_lostWithout_4 rfl (lv_at hl 0 rfl) ?_
  refine va_get (D := D) (ci := 9) (v := .ref (q 12)) (C := RX9) (T := TX9) (N := 18) hx hb hts inX9 hown hK hP 0 rfl rfl 4 (by decide) lk32 (fun _ h9 => h9) rfl dX9_lostWithout_5 ?_
  refine lv_iload_n hx hb dX9_lostWithout_8 rfl (lv_at hl 1 rfl) ?_
  refine lv_iload_n hx hb dX9_lostWithout_9 rfl (lv_at hl 2 rfl) ?_
  obtain ⟨f1, f2, hc3, hf⟩ := zz_b2s hf
  obtain ⟨S4, hS4, hf⟩ := zz_lts hf
  refine zz_jv (va_runV (As := [.ref (q 12), .int u0, .int u1]) (rest := []) hfx (zc_X4_takeAllBut l D tb (q 36) (q 37) (q 12) (q 13) (k 37) (k 13) F u0 u1 (zz_gI S 21) (zz_gA S 18) (zz_gI S 5) (zz_gA S 6) f1 f2 hc3 H.size) (cwV 3 hts gX9_lostWithout_X4_takeAllBut rfl rfl rfl (by decide +kernel) ⟨Nat.le_of_ble_eq_true rfl, Nat.le_of_ble_eq_true rfl⟩) (zz_preV hK hP hD hS hA hE [36, 37, 12, 13] [22, 7] rfl (by decide) rfl 36 rfl rfl rfl) rfl rfl hl.1 rfl (lv_room (Nat.le_of_ble_eq_true rfl)) dX9_lostWithout_10 ⟨Nat.zero_le _, Nat.zero_le _⟩) hP hD hS hA [36, 37, 12, 13] rfl rfl (fun H locs hP hD hS => ?_)
  have hP : va_P D vwCl (zw_9 q k S4) H := by rw [hS4]; exact hP
  have hD : va_D A (zw_9 q k S4) := by rw [hS4]; exact hD
  refine lv_aload_n hx hb dX9_lostWithout_13 rfl (lv_at hl 0 rfl) ?_
  refine va_get (D := D) (ci := 9) (v := .ref (q 42)) (C := RX9) (T := TX9) (N := 18) hx hb hts inX9 hown hK hP 0 rfl rfl 12 (by decide) lk76 (fun _ h9 => h9) rfl dX9_lostWithout_14 ?_
  refine lv_aload_n hx hb dX9_lostWithout_17 rfl (lv_at hl 0 rfl) ?_
  refine va_get (D := D) (ci := 9) (v := .ref (q 29)) (C := RX9) (T := TX9) (N := 18) hx hb hts inX9 hown hK hP 0 rfl rfl 8 (by decide) lk59 (fun _ h9 => h9) rfl dX9_lostWithout_18 ?_
  refine lv_aload_n hx hb dX9_lostWithout_21 rfl (lv_at hl 0 rfl) ?_
  refine va_get (D := D) (ci := 9) (v := .ref (q 9)) (C := RX9) (T := TX9) (N := 18) hx hb hts inX9 hown hK hP 0 rfl rfl 2 (by decide) lk19 (fun _ h9 => h9) rfl dX9_lostWithout_22 ?_
  refine lv_iconst (v := (0 : Int32)) hx hb dX9_lostWithout_25 (by decide) ?_
  refine va_iald hx hb hK hP 9 5 rfl rfl (show zz_in (0 : Int32) 4 by decide) dX9_lostWithout_26 ?_
  refine lv_aload_n hx hb dX9_lostWithout_27 rfl (lv_at hl 0 rfl) ?_
  refine va_get (D := D) (ci := 9) (v := .ref (q 36)) (C := RX9) (T := TX9) (N := 18) hx hb hts inX9 hown hK hP 0 rfl rfl 10 (by decide) lk70 (fun _ h9 => h9) rfl dX9_lostWithout_28 ?_
  obtain ⟨f5, f6, hc7, hf⟩ := zz_b2s hf
  obtain ⟨S8, hS8, hf⟩ := zz_lts hf
  refine zz_jv (va_runV (As := [.ref (q 29), .int ((zz_gA S4 4) (Int32.toNatClampNeg (0 : Int32))), .ref (q 36)]) (rest := []) hfx (zc_X2_walk l D tb (q 42) (q 43) (q 44) (q 29) (q 30) (q 31) (q 32) (q 36) (q 37) (k 43) (k 44) (k 30) (k 31) (k 32) (k 37) F ((zz_gA S4 4) (Int32.toNatClampNeg (0 : Int32))) (zz_gA S4 21) (zz_gL S4 4) (zz_gI S4 20) (zz_gA S4 15) (zz_gL S4 1) (zz_gA S4 16) (zz_gI S4 21) (zz_gA S4 18) f5 f6 hc7 H.size) (cwV 3 hts gX9_lostWithout_X2_walk rfl rfl rfl (by decide +kernel) ⟨Nat.le_of_ble_eq_true rfl, Nat.le_of_ble_eq_true rfl⟩) (zz_preV hK hP hD hS hA hE [42, 43, 44, 29, 30, 31, 32, 36, 37] [26, 27, 17, 18, 19, 22] rfl (by decide) rfl 42 rfl rfl rfl) rfl rfl hl.1 rfl (lv_room (Nat.le_of_ble_eq_true rfl)) dX9_lostWithout_31 ⟨Nat.zero_le _, Nat.zero_le _⟩) hP hD hS hA [42, 43, 44, 29, 30, 31, 32, 36, 37] rfl rfl (fun H locs hP hD hS => ?_)
  have hP : va_P D vwCl (zw_9 q k S8) H := by rw [hS8]; exact hP
  have hD : va_D A (zw_9 q k S8) := by rw [hS8]; exact hD
  refine lv_aload_n hx hb dX9_lostWithout_34 rfl (lv_at hl 0 rfl) ?_
  refine va_get (D := D) (ci := 9) (v := .ref (q 14)) (C := RX9) (T := TX9) (N := 18) hx hb hts inX9 hown hK hP 0 rfl rfl 5 (by decide) lk39 (fun _ h9 => h9) rfl dX9_lostWithout_35 ?_
  refine lv_aload_n hx hb dX9_lostWithout_38 rfl (lv_at hl 0 rfl) ?_
  refine va_get (D := D) (ci := 9) (v := .ref (q 10)) (C := RX9) (T := TX9) (N := 18) hx hb hts inX9 hown hK hP 0 rfl rfl 3 (by decide) lk25 (fun _ h9 => h9) rfl dX9_lostWithout_39 ?_
  refine lv_aload_n hx hb dX9_lostWithout_42 rfl (lv_at hl 0 rfl) ?_
  refine va_get (D := D) (ci := 9) (v := .ref (q 42)) (C := RX9) (T := TX9) (N := 18) hx hb hts inX9 hown hK hP 0 rfl rfl 12 (by decide) lk76 (fun _ h9 => h9) rfl dX9_lostWithout_43 ?_
  obtain ⟨r9, hc10, hf⟩ := zz_b1s hf
  refine zz_ji (va_runV (As := [.ref (q 10), .ref (q 42)]) (rest := []) hfx (zc_X7_howManyTake l D tb (q 14) (q 15) (q 16) (q 10) (q 11) (q 42) (q 43) (q 44) (k 15) (k 16) (k 11) (k 43) (k 44) F  (zz_gI S8 6) (zz_gA S8 7) (zz_gA S8 8) (zz_gI S8 3) (zz_gI S8 4) (zz_gL S8 0 0) (zz_gA S8 5) (zz_gA S8 21) (zz_gL S8 4) r9 hc10 H.size) (cwV 2 hts gX9_lostWithout_X7_howManyTake rfl rfl rfl (by decide +kernel) ⟨Nat.le_of_ble_eq_true rfl, Nat.le_of_ble_eq_true rfl⟩) (zz_preV hK hP hD hS hA hE [14, 15, 16, 10, 11, 42, 43, 44] [8, 9, 6, 26, 27] rfl (by decide) rfl 14 rfl rfl rfl) rfl rfl hl.1 rfl (lv_room (Nat.le_of_ble_eq_true rfl)) dX9_lostWithout_46 ⟨Nat.zero_le _, Nat.zero_le _⟩) hP hD hS hA [14, 15, 16, 10, 11, 42, 43, 44] rfl rfl (fun H locs hP hD hS => ?_)
  have hP : va_P D vwCl (zw_9 q k S8) H := hP
  have hD : va_D A (zw_9 q k S8) := hD
  obtain ⟨rfl, rfl⟩ := zz_e2 hf
  exact hret _ _ _ _ dX9_lostWithout_49 hP hD hS
def rmX9_spare : Room := { frames := 5, cells := 0, slots := 0, locals := 116 }
set_option maxHeartbeats 4000000 in
set_option maxRecDepth 100000 in
theorem zc_X9_spare (l : Launch) (D : va_G) (tb : Nat → Nat) (q : Nat → Nat) (k : Nat → ClassId) (F : Nat)  (S : zz_M) (r : Int32) (o1 : zz_M) (hf : pX9_spare F S = some (r, o1)) : zz_Mi l yX9_spare wsX9_spare rmX9_spare D tb [((k 1), .object "CatBeat$Text"), ((k 3), .int), ((k 5), .int), ((k 7), .int), ((k 8), .int), ((k 9), .int), ((k 11), .int), ((k 13), .int), ((k 15), .int), ((k 16), .int), ((k 18), .int), ((k 19), .int), ((k 20), .object "CatBeat$Sheet"), ((k 22), .int), ((k 24), .int), ((k 26), .int), ((k 28), .int), ((k 30), .int), ((k 31), .long), ((k 32), .boolean), ((k 34), .int), ((k 35), .long), ((k 37), .int), ((k 39), .int), ((k 40), .long), ((k 41), .boolean), ((k 43), .int), ((k 44), .long), ((k 46), .long), ((k 47), .int)] [.ref (q 0)] (zw_9 q k S) (zw_9 q k o1) r := by
  refine zz_ofi (cc := cX9_spare) (maxL := 4) (by decide) rfl (Nat.le_of_ble_eq_true rfl) ?_
  intro p e s m args below meth c A Q hfx hK hA hE hret H locs hP hD hS ls hl
  obtain ⟨hx, hb, hml, hown, hts⟩ := id hfx
  have inX9 : ∀ w ∈ u_ws RX9 TX9 18, w ∈ wsX9_spare := by decide +kernel
  have inX4 : ∀ w ∈ u_ws RX4 TX4 2, w ∈ wsX9_spare := by decide +kernel
  have lk32 := hts (.fieldLink RX9 32 "CatBeat" "round" "LCatBeat$Round;") (by decide +kernel)
  have lk126 := hts (.fieldLink RX9 126 "CatBeat$Round" "count" "I") (by decide +kernel)
  have hl : lv_has ls 4 [(0, .ref (q 0))] := hl
  unfold pX9_spare at hf
  refine lv_aload_n hx hb dX9_spare_0 rfl (lv_at hl 0 rfl) ?_
  obtain ⟨r1, S2, hc3, hf⟩ := zz_b2s hf
  refine zz_ji0 (va_runV (As := []) (rest := []) hfx (zc_X9_lost l D tb q k F  S r1 S2 hc3 H.size) (cwV 0 hts gX9_spare_X9_lost rfl rfl rfl (by decide +kernel) ⟨Nat.le_of_ble_eq_true rfl, Nat.le_of_ble_eq_true rfl⟩) (zz_pre0V hK hP hD hS hA hE 0 rfl rfl rfl) rfl rfl hl.1 rfl (lv_room (Nat.le_of_ble_eq_true rfl)) dX9_spare_1 ⟨Nat.zero_le _, Nat.zero_le _⟩) hD hS hA (fun H locs hP hD hS => ?_)
  refine lv_istore_n (lv' := [(1, .int r1), (0, .ref (q 0))]) hx hb dX9_spare_4 rfl hl (by decide) rfl (fun ls hl => ?_)
  refine lv_iconst (v := (0 : Int32)) hx hb dX9_spare_5 (by decide) ?_
  refine lv_istore_n (lv' := [(2, .int (0 : Int32)), (1, .int r1), (0, .ref (q 0))]) hx hb dX9_spare_6 rfl hl (by decide) rfl (fun ls hl => ?_)
  refine lv_iconst (v := (0 : Int32)) hx hb dX9_spare_7 (by decide) ?_
  refine lv_istore_n (lv' := [(3, .int (0 : Int32)), (2, .int (0 : Int32)), (1, .int r1), (0, .ref (q 0))]) hx hb dX9_spare_8 rfl hl (by decide) rfl (fun ls hl => ?_)
  have hLkL9_6 : ∀ (n9_6 : Nat) (x4 : Int32) (x5 : Int32) (z6 : zz_M) (H : Heap) (locs : List Loc), va_P D vwCl (zw_9 q k z6) H → va_D A (zw_9 q k z6) → va_S A s.heap H locs → ∀ ls : Array Slot, lv_has ls 4 [(1, .int r1), (0, .ref (q 0)), (2, .int x4), (3, .int x5)] → pX9_spare_L9_6 F r1 n9_6 x4 x5 z6 = some (r, o1) → W p l e rmX9_spare s m args below meth c H locs 0 0 Q (F0 m 9 ls []) := by
    intro n9_6
    induction n9_6 with
    | zero =>
      intro x4 x5 z6 H locs hP hD hS ls hl hf
      exact nomatch (show (none : Option _) = some _ from hf)
    | succ n9_6 ihkL9_6 =>
      intro x4 x5 z6 H locs hP hD hS ls hl hf
      rw [pX9_spare_L9_6] at hf
      refine lv_iload_n hx hb dX9_spare_9 rfl (lv_at hl 3 rfl) ?_
      refine lv_aload_n hx hb dX9_spare_10 rfl (lv_at hl 1 rfl) ?_
      refine va_get (D := D) (ci := 9) (v := .ref (q 12)) (C := RX9) (T := TX9) (N := 18) hx hb hts inX9 hown hK hP 0 rfl rfl 4 (by decide) lk32 (fun _ h9 => h9) rfl dX9_spare_11 ?_
      refine va_get (D := D) (ci := 4) (v := .int (zz_gI z6 5)) (C := RX4) (T := TX4) (N := 2) hx hb hts inX4 hown hK hP 12 rfl rfl 1 (by decide) lk126 (fun _ h9 => h9) rfl dX9_spare_14 ?_
      refine lv_icmp_ge (tgt := 42) hx hb dX9_spare_17 (by decide) (fun c17 => ?_) (fun c17 => ?_)
      · have hf := zz_ps hf c17
        refine lv_iload_n hx hb dX9_spare_42 rfl (lv_at hl 2 rfl) ?_
        obtain ⟨rfl, rfl⟩ := zz_e2 hf
        exact hret _ _ _ _ dX9_spare_43 hP hD hS
      · have hf := zz_ng hf c17
        refine lv_aload_n hx hb dX9_spare_20 rfl (lv_at hl 1 rfl) ?_
        refine lv_iload_n hx hb dX9_spare_21 rfl (lv_at hl 3 rfl) ?_
        refine lv_iconst (v := (-1 : Int32)) hx hb dX9_spare_22 (by decide) ?_
        obtain ⟨r8, S9, hc10, hf⟩ := zz_b2s hf
        refine zz_ji0 (va_runV (As := [.int x5, .int (-1 : Int32)]) (rest := []) hfx (zc_X9_lostWithout l D tb q k F x5 (-1 : Int32) z6 r8 S9 hc10 H.size) (cwV 2 hts gX9_spare_X9_lostWithout rfl rfl rfl (by decide +kernel) ⟨Nat.le_of_ble_eq_true rfl, Nat.le_of_ble_eq_true rfl⟩) (zz_pre0V hK hP hD hS hA hE 0 rfl rfl rfl) rfl rfl hl.1 rfl (lv_room (Nat.le_of_ble_eq_true rfl)) dX9_spare_23 ⟨Nat.zero_le _, Nat.zero_le _⟩) hD hS hA (fun H locs hP hD hS => ?_)
        refine lv_iload_n hx hb dX9_spare_26 rfl (lv_at hl 0 rfl) ?_
        obtain ⟨v11, hv11, hf⟩ := zz_lts hf
        have hK12 : ∀ ls : Array Slot, lv_has ls 4 [(1, .int r1), (0, .ref (q 0)), (2, .int v11), (3, .int x5)] → W p l e rmX9_spare s m args below meth c H locs 0 0 Q (F0 m 36 ls []) := by
          intro ls hl
          obtain ⟨v13, hv13, hf⟩ := zz_lts hf
          refine lv_iinc (v := v13) (lv' := [(3, .int v13), (1, .int r1), (0, .ref (q 0)), (2, .int v11)]) hx hb dX9_spare_36 hl (k := 3) rfl (by rw [hv13]; rfl) (by decide) rfl (fun ls hl => ?_)
          refine lv_goto (tgt := 9) hx hb dX9_spare_39 (by decide) ?_
          exact ihkL9_6 v11 v13 S9 _ _ hP hD hS ls (lv_sub hl [1, 2, 3, 0] rfl) hf
        refine lv_icmp_gt (tgt := 36) hx hb dX9_spare_27 (by decide) (fun c27 => ?_) (fun c27 => ?_)
        · exact hK12 ls (by have ev11 : v11 = x4 := (by rw [hv11, if_pos c27]); rw [ev11]; exact lv_sub hl [0, 1, 2, 3] rfl)
        · refine lv_iload_n hx hb dX9_spare_30 rfl (lv_at hl 2 rfl) ?_
          refine lv_iconst (v := (1 : Int32)) hx hb dX9_spare_31 (by decide) ?_
          refine lv_iload_n hx hb dX9_spare_32 rfl (lv_at hl 3 rfl) ?_
          refine lv_ishl hx hb dX9_spare_33 ?_
          refine lv_ior hx hb dX9_spare_34 ?_
          refine lv_istore_n (lv' := [(2, .int (x4 ||| ((1 : Int32) <<< (x5 &&& 31)))), (1, .int r1), (0, .ref (q 0)), (3, .int x5)]) hx hb dX9_spare_35 rfl hl (by decide) rfl (fun ls hl => ?_)
          exact hK12 ls (by have ev11 : v11 = (x4 ||| ((1 : Int32) <<< (x5 &&& 31))) := (by rw [hv11, if_neg c27]); rw [ev11]; exact lv_sub hl [1, 2, 0, 3] rfl)
  exact hLkL9_6 F (0 : Int32) (0 : Int32) S2 _ _ hP hD hS ls (lv_sub hl [2, 3, 1, 0] rfl) hf
def rmX9_fewestLeftOut : Room := { frames := 4, cells := 0, slots := 0, locals := 95 }
set_option maxHeartbeats 4000000 in
set_option maxRecDepth 100000 in
theorem zc_X9_fewestLeftOut (l : Launch) (D : va_G) (tb : Nat → Nat) (q : Nat → Nat) (k : Nat → ClassId) (F : Nat)  (S : zz_M) (r : Int32) (o1 : zz_M) (hf : pX9_fewestLeftOut F S = some (r, o1)) : zz_Mi l yX9_fewestLeftOut wsX9_fewestLeftOut rmX9_fewestLeftOut D tb [((k 1), .object "CatBeat$Text"), ((k 3), .int), ((k 5), .int), ((k 7), .int), ((k 8), .int), ((k 9), .int), ((k 11), .int), ((k 13), .int), ((k 15), .int), ((k 16), .int), ((k 18), .int), ((k 19), .int), ((k 20), .object "CatBeat$Sheet"), ((k 22), .int), ((k 24), .int), ((k 26), .int), ((k 28), .int), ((k 30), .int), ((k 31), .long), ((k 32), .boolean), ((k 34), .int), ((k 35), .long), ((k 37), .int), ((k 39), .int), ((k 40), .long), ((k 41), .boolean), ((k 43), .int), ((k 44), .long), ((k 46), .long), ((k 47), .int)] [.ref (q 0)] (zw_9 q k S) (zw_9 q k o1) r := by
  refine zz_ofi (cc := cX9_fewestLeftOut) (maxL := 4) (by decide) rfl (Nat.le_of_ble_eq_true rfl) ?_
  intro p e s m args below meth c A Q hfx hK hA hE hret H locs hP hD hS ls hl
  obtain ⟨hx, hb, hml, hown, hts⟩ := id hfx
  have inX9 : ∀ w ∈ u_ws RX9 TX9 18, w ∈ wsX9_fewestLeftOut := by decide +kernel
  have inX4 : ∀ w ∈ u_ws RX4 TX4 2, w ∈ wsX9_fewestLeftOut := by decide +kernel
  have lk39 := hts (.fieldLink RX9 39 "CatBeat" "thieves" "LCatBeat$Thieves;") (by decide +kernel)
  have lk25 := hts (.fieldLink RX9 25 "CatBeat" "ward" "LCatBeat$Ward;") (by decide +kernel)
  have lk66 := hts (.fieldLink RX9 66 "CatBeat" "night" "LCatBeat$Night;") (by decide +kernel)
  have lk32 := hts (.fieldLink RX9 32 "CatBeat" "round" "LCatBeat$Round;") (by decide +kernel)
  have lk126 := hts (.fieldLink RX9 126 "CatBeat$Round" "count" "I") (by decide +kernel)
  have hl : lv_has ls 4 [(0, .ref (q 0))] := hl
  unfold pX9_fewestLeftOut at hf
  refine lv_aload_n hx hb dX9_fewestLeftOut_0 rfl (lv_at hl 0 rfl) ?_
  refine va_get (D := D) (ci := 9) (v := .ref (q 14)) (C := RX9) (T := TX9) (N := 18) hx hb hts inX9 hown hK hP 0 rfl rfl 5 (by decide) lk39 (fun _ h9 => h9) rfl dX9_fewestLeftOut_1 ?_
  refine lv_aload_n hx hb dX9_fewestLeftOut_4 rfl (lv_at hl 0 rfl) ?_
  refine va_get (D := D) (ci := 9) (v := .ref (q 10)) (C := RX9) (T := TX9) (N := 18) hx hb hts inX9 hown hK hP 0 rfl rfl 3 (by decide) lk25 (fun _ h9 => h9) rfl dX9_fewestLeftOut_5 ?_
  refine lv_aload_n hx hb dX9_fewestLeftOut_8 rfl (lv_at hl 0 rfl) ?_
  refine va_get (D := D) (ci := 9) (v := .ref (q 33)) (C := RX9) (T := TX9) (N := 18) hx hb hts inX9 hown hK hP 0 rfl rfl 9 (by decide) lk66 (fun _ h9 => h9) rfl dX9_fewestLeftOut_9 ?_
  obtain ⟨r1, hc2, hf⟩ := zz_b1s hf
  refine zz_ji (va_runV (As := [.ref (q 10), .ref (q 33)]) (rest := []) hfx (zc_X7_howManyTake l D tb (q 14) (q 15) (q 16) (q 10) (q 11) (q 33) (q 34) (q 35) (k 15) (k 16) (k 11) (k 34) (k 35) F  (zz_gI S 6) (zz_gA S 7) (zz_gA S 8) (zz_gI S 3) (zz_gI S 4) (zz_gL S 0 0) (zz_gA S 5) (zz_gA S 17) (zz_gL S 2) r1 hc2 H.size) (cwV 2 hts gX9_fewestLeftOut_X7_howManyTake rfl rfl rfl (by decide +kernel) ⟨Nat.le_of_ble_eq_true rfl, Nat.le_of_ble_eq_true rfl⟩) (zz_preV hK hP hD hS hA hE [14, 15, 16, 10, 11, 33, 34, 35] [8, 9, 6, 20, 21] rfl (by decide) rfl 14 rfl rfl rfl) rfl rfl hl.1 rfl (lv_room (Nat.le_of_ble_eq_true rfl)) dX9_fewestLeftOut_12 ⟨Nat.zero_le _, Nat.zero_le _⟩) hP hD hS hA [14, 15, 16, 10, 11, 33, 34, 35] rfl rfl (fun H locs hP hD hS => ?_)
  have hP : va_P D vwCl (zw_9 q k S) H := hP
  have hD : va_D A (zw_9 q k S) := hD
  refine lv_istore_n (lv' := [(1, .int r1), (0, .ref (q 0))]) hx hb dX9_fewestLeftOut_15 rfl hl (by decide) rfl (fun ls hl => ?_)
  refine lv_iload_n hx hb dX9_fewestLeftOut_16 rfl (lv_at hl 0 rfl) ?_
  refine lv_if_ne (tgt := 22) hx hb dX9_fewestLeftOut_17 (by decide) (fun c17 => ?_) (fun c17 => ?_)
  · have hf := zz_ng hf c17
    refine lv_iconst (v := (0 : Int32)) hx hb dX9_fewestLeftOut_22 (by decide) ?_
    refine lv_istore_n (lv' := [(2, .int (0 : Int32)), (1, .int r1), (0, .ref (q 0))]) hx hb dX9_fewestLeftOut_23 rfl hl (by decide) rfl (fun ls hl => ?_)
    have hLkL24_4 : ∀ (n24_4 : Nat) (x3 : Int32) (z4 : zz_M) (H : Heap) (locs : List Loc), va_P D vwCl (zw_9 q k z4) H → va_D A (zw_9 q k z4) → va_S A s.heap H locs → ∀ ls : Array Slot, lv_has ls 4 [(1, .int r1), (0, .ref (q 0)), (2, .int x3)] → pX9_fewestLeftOut_L24_4 F r1 n24_4 x3 z4 = some (r, o1) → W p l e rmX9_fewestLeftOut s m args below meth c H locs 0 0 Q (F0 m 24 ls []) := by
      intro n24_4
      induction n24_4 with
      | zero =>
        intro x3 z4 H locs hP hD hS ls hl hf
        exact nomatch (show (none : Option _) = some _ from hf)
      | succ n24_4 ihkL24_4 =>
        intro x3 z4 H locs hP hD hS ls hl hf
        rw [pX9_fewestLeftOut_L24_4] at hf
        refine lv_iload_n hx hb dX9_fewestLeftOut_24 rfl (lv_at hl 2 rfl) ?_
        refine lv_aload_n hx hb dX9_fewestLeftOut_25 rfl (lv_at hl 1 rfl) ?_
        refine va_get (D := D) (ci := 9) (v := .ref (q 12)) (C := RX9) (T := TX9) (N := 18) hx hb hts inX9 hown hK hP 0 rfl rfl 4 (by decide) lk32 (fun _ h9 => h9) rfl dX9_fewestLeftOut_26 ?_
        refine va_get (D := D) (ci := 4) (v := .int (zz_gI z4 5)) (C := RX4) (T := TX4) (N := 2) hx hb hts inX4 hown hK hP 12 rfl rfl 1 (by decide) lk126 (fun _ h9 => h9) rfl dX9_fewestLeftOut_29 ?_
        refine lv_icmp_ge (tgt := 55) hx hb dX9_fewestLeftOut_32 (by decide) (fun c32 => ?_) (fun c32 => ?_)
        · have hf := zz_ps hf c32
          refine lv_iconst (v := (0 : Int32)) hx hb dX9_fewestLeftOut_55 (by decide) ?_
          refine lv_istore_n (lv' := [(2, .int (0 : Int32)), (1, .int r1), (0, .ref (q 0))]) hx hb dX9_fewestLeftOut_56 rfl hl (by decide) rfl (fun ls hl => ?_)
          have hLkL57_7 : ∀ (n57_7 : Nat) (x6 : Int32) (z7 : zz_M) (H : Heap) (locs : List Loc), va_P D vwCl (zw_9 q k z7) H → va_D A (zw_9 q k z7) → va_S A s.heap H locs → ∀ ls : Array Slot, lv_has ls 4 [(1, .int r1), (0, .ref (q 0)), (2, .int x6)] → pX9_fewestLeftOut_L57_7 F r1 n57_7 x6 z7 = some (r, o1) → W p l e rmX9_fewestLeftOut s m args below meth c H locs 0 0 Q (F0 m 57 ls []) := by
            intro n57_7
            induction n57_7 with
            | zero =>
              intro x6 z7 H locs hP hD hS ls hl hf
              exact nomatch (show (none : Option _) = some _ from hf)
            | succ n57_7 ihkL57_7 =>
              intro x6 z7 H locs hP hD hS ls hl hf
              rw [pX9_fewestLeftOut_L57_7] at hf
              refine lv_iload_n hx hb dX9_fewestLeftOut_57 rfl (lv_at hl 2 rfl) ?_
              refine lv_aload_n hx hb dX9_fewestLeftOut_58 rfl (lv_at hl 1 rfl) ?_
              refine va_get (D := D) (ci := 9) (v := .ref (q 12)) (C := RX9) (T := TX9) (N := 18) hx hb hts inX9 hown hK hP 0 rfl rfl 4 (by decide) lk32 (fun _ h9 => h9) rfl dX9_fewestLeftOut_59 ?_
              refine va_get (D := D) (ci := 4) (v := .int (zz_gI z7 5)) (C := RX4) (T := TX4) (N := 2) hx hb hts inX4 hown hK hP 12 rfl rfl 1 (by decide) lk126 (fun _ h9 => h9) rfl dX9_fewestLeftOut_62 ?_
              refine lv_icmp_ge (tgt := 113) hx hb dX9_fewestLeftOut_65 (by decide) (fun c65 => ?_) (fun c65 => ?_)
              · have hf := zz_ps hf c65
                refine lv_iconst (v := (0 : Int32)) hx hb dX9_fewestLeftOut_113 (by decide) ?_
                obtain ⟨rfl, rfl⟩ := zz_e2 hf
                exact hret _ _ _ _ dX9_fewestLeftOut_114 hP hD hS
              · have hf := zz_ng hf c65
                refine lv_iload_n hx hb dX9_fewestLeftOut_68 rfl (lv_at hl 2 rfl) ?_
                refine lv_iconst (v := (1 : Int32)) hx hb dX9_fewestLeftOut_69 (by decide) ?_
                refine lv_iadd hx hb dX9_fewestLeftOut_70 ?_
                obtain ⟨v9, hv9, hf⟩ := zz_lts hf
                refine zz_ti hv9 ?_
                refine lv_istore_n (lv' := [(3, .int v9), (1, .int r1), (0, .ref (q 0)), (2, .int x6)]) hx hb dX9_fewestLeftOut_71 rfl hl (by decide) rfl (fun ls hl => ?_)
                have hLkL72_11 : ∀ (n72_11 : Nat) (x10 : Int32) (z11 : zz_M) (H : Heap) (locs : List Loc), va_P D vwCl (zw_9 q k z11) H → va_D A (zw_9 q k z11) → va_S A s.heap H locs → ∀ ls : Array Slot, lv_has ls 4 [(1, .int r1), (0, .ref (q 0)), (2, .int x6), (3, .int x10)] → pX9_fewestLeftOut_L72_11 F r1 x6 (fun b0 b1 => pX9_fewestLeftOut_L57_7 F r1 n57_7 b0 b1) n72_11 x10 z11 = some (r, o1) → W p l e rmX9_fewestLeftOut s m args below meth c H locs 0 0 Q (F0 m 72 ls []) := by
                  intro n72_11
                  induction n72_11 with
                  | zero =>
                    intro x10 z11 H locs hP hD hS ls hl hf
                    exact nomatch (show (none : Option _) = some _ from hf)
                  | succ n72_11 ihkL72_11 =>
                    intro x10 z11 H locs hP hD hS ls hl hf
                    rw [pX9_fewestLeftOut_L72_11] at hf
                    refine lv_iload_n hx hb dX9_fewestLeftOut_72 rfl (lv_at hl 3 rfl) ?_
                    refine lv_aload_n hx hb dX9_fewestLeftOut_73 rfl (lv_at hl 1 rfl) ?_
                    refine va_get (D := D) (ci := 9) (v := .ref (q 12)) (C := RX9) (T := TX9) (N := 18) hx hb hts inX9 hown hK hP 0 rfl rfl 4 (by decide) lk32 (fun _ h9 => h9) rfl dX9_fewestLeftOut_74 ?_
                    refine va_get (D := D) (ci := 4) (v := .int (zz_gI z11 5)) (C := RX4) (T := TX4) (N := 2) hx hb hts inX4 hown hK hP 12 rfl rfl 1 (by decide) lk126 (fun _ h9 => h9) rfl dX9_fewestLeftOut_77 ?_
                    refine lv_icmp_ge (tgt := 107) hx hb dX9_fewestLeftOut_80 (by decide) (fun c80 => ?_) (fun c80 => ?_)
                    · have hf := zz_ps hf c80
                      obtain ⟨v13, hv13, hf⟩ := zz_lts hf
                      refine lv_iinc (v := v13) (lv' := [(2, .int v13), (1, .int r1), (0, .ref (q 0)), (3, .int x10)]) hx hb dX9_fewestLeftOut_107 hl (k := 2) rfl (by rw [hv13]; rfl) (by decide) rfl (fun ls hl => ?_)
                      refine lv_goto (tgt := 57) hx hb dX9_fewestLeftOut_110 (by decide) ?_
                      exact ihkL57_7 v13 z11 _ _ hP hD hS ls (lv_sub hl [1, 2, 0] rfl) hf
                    · have hf := zz_ng hf c80
                      refine lv_aload_n hx hb dX9_fewestLeftOut_83 rfl (lv_at hl 1 rfl) ?_
                      refine lv_iload_n hx hb dX9_fewestLeftOut_84 rfl (lv_at hl 2 rfl) ?_
                      refine lv_iload_n hx hb dX9_fewestLeftOut_85 rfl (lv_at hl 3 rfl) ?_
                      obtain ⟨r14, S15, hc16, hf⟩ := zz_b2s hf
                      refine zz_ji0 (va_runV (As := [.int x6, .int x10]) (rest := []) hfx (zc_X9_lostWithout l D tb q k F x6 x10 z11 r14 S15 hc16 H.size) (cwV 2 hts gX9_fewestLeftOut_X9_lostWithout rfl rfl rfl (by decide +kernel) ⟨Nat.le_of_ble_eq_true rfl, Nat.le_of_ble_eq_true rfl⟩) (zz_pre0V hK hP hD hS hA hE 0 rfl rfl rfl) rfl rfl hl.1 rfl (lv_room (Nat.le_of_ble_eq_true rfl)) dX9_fewestLeftOut_86 ⟨Nat.zero_le _, Nat.zero_le _⟩) hD hS hA (fun H locs hP hD hS => ?_)
                      refine lv_iload_n hx hb dX9_fewestLeftOut_89 rfl (lv_at hl 0 rfl) ?_
                      refine lv_icmp_ge (tgt := 101) hx hb dX9_fewestLeftOut_90 (by decide) (fun c90 => ?_) (fun c90 => ?_)
                      · have hf := zz_ps hf c90
                        obtain ⟨v17, hv17, hf⟩ := zz_lts hf
                        refine lv_iinc (v := v17) (lv' := [(3, .int v17), (1, .int r1), (0, .ref (q 0)), (2, .int x6)]) hx hb dX9_fewestLeftOut_101 hl (k := 3) rfl (by rw [hv17]; rfl) (by decide) rfl (fun ls hl => ?_)
                        refine lv_goto (tgt := 72) hx hb dX9_fewestLeftOut_104 (by decide) ?_
                        exact ihkL72_11 v17 S15 _ _ hP hD hS ls (lv_sub hl [1, 2, 3, 0] rfl) hf
                      · have hf := zz_ng hf c90
                        refine lv_iconst (v := (1 : Int32)) hx hb dX9_fewestLeftOut_93 (by decide) ?_
                        refine lv_iload_n hx hb dX9_fewestLeftOut_94 rfl (lv_at hl 2 rfl) ?_
                        refine lv_ishl hx hb dX9_fewestLeftOut_95 ?_
                        refine lv_iconst (v := (1 : Int32)) hx hb dX9_fewestLeftOut_96 (by decide) ?_
                        refine lv_iload_n hx hb dX9_fewestLeftOut_97 rfl (lv_at hl 3 rfl) ?_
                        refine lv_ishl hx hb dX9_fewestLeftOut_98 ?_
                        refine lv_ior hx hb dX9_fewestLeftOut_99 ?_
                        obtain ⟨rfl, rfl⟩ := zz_e2 hf
                        exact hret _ _ _ _ dX9_fewestLeftOut_100 hP hD hS
                exact hLkL72_11 F v9 z7 _ _ hP hD hS ls (lv_sub hl [1, 2, 3, 0] rfl) hf
          exact hLkL57_7 F (0 : Int32) z4 _ _ hP hD hS ls (lv_sub hl [1, 2, 0] rfl) hf
        · have hf := zz_ng hf c32
          refine lv_aload_n hx hb dX9_fewestLeftOut_35 rfl (lv_at hl 1 rfl) ?_
          refine lv_iload_n hx hb dX9_fewestLeftOut_36 rfl (lv_at hl 2 rfl) ?_
          refine lv_iconst (v := (-1 : Int32)) hx hb dX9_fewestLeftOut_37 (by decide) ?_
          obtain ⟨r18, S19, hc20, hf⟩ := zz_b2s hf
          refine zz_ji0 (va_runV (As := [.int x3, .int (-1 : Int32)]) (rest := []) hfx (zc_X9_lostWithout l D tb q k F x3 (-1 : Int32) z4 r18 S19 hc20 H.size) (cwV 2 hts gX9_fewestLeftOut_X9_lostWithout rfl rfl rfl (by decide +kernel) ⟨Nat.le_of_ble_eq_true rfl, Nat.le_of_ble_eq_true rfl⟩) (zz_pre0V hK hP hD hS hA hE 0 rfl rfl rfl) rfl rfl hl.1 rfl (lv_room (Nat.le_of_ble_eq_true rfl)) dX9_fewestLeftOut_38 ⟨Nat.zero_le _, Nat.zero_le _⟩) hD hS hA (fun H locs hP hD hS => ?_)
          refine lv_iload_n hx hb dX9_fewestLeftOut_41 rfl (lv_at hl 0 rfl) ?_
          refine lv_icmp_ge (tgt := 49) hx hb dX9_fewestLeftOut_42 (by decide) (fun c42 => ?_) (fun c42 => ?_)
          · have hf := zz_ps hf c42
            obtain ⟨v21, hv21, hf⟩ := zz_lts hf
            refine lv_iinc (v := v21) (lv' := [(2, .int v21), (1, .int r1), (0, .ref (q 0))]) hx hb dX9_fewestLeftOut_49 hl (k := 2) rfl (by rw [hv21]; rfl) (by decide) rfl (fun ls hl => ?_)
            refine lv_goto (tgt := 24) hx hb dX9_fewestLeftOut_52 (by decide) ?_
            exact ihkL24_4 v21 S19 _ _ hP hD hS ls (lv_sub hl [1, 2, 0] rfl) hf
          · have hf := zz_ng hf c42
            refine lv_iconst (v := (1 : Int32)) hx hb dX9_fewestLeftOut_45 (by decide) ?_
            refine lv_iload_n hx hb dX9_fewestLeftOut_46 rfl (lv_at hl 2 rfl) ?_
            refine lv_ishl hx hb dX9_fewestLeftOut_47 ?_
            obtain ⟨rfl, rfl⟩ := zz_e2 hf
            exact hret _ _ _ _ dX9_fewestLeftOut_48 hP hD hS
    exact hLkL24_4 F (0 : Int32) S _ _ hP hD hS ls (lv_sub hl [1, 2, 0] rfl) hf
  · have hf := zz_ps hf c17
    refine lv_iconst (v := (0 : Int32)) hx hb dX9_fewestLeftOut_20 (by decide) ?_
    obtain ⟨rfl, rfl⟩ := zz_e2 hf
    exact hret _ _ _ _ dX9_fewestLeftOut_21 hP hD hS
def rmX9_placeOfBit : Room := { frames := 0, cells := 0, slots := 0, locals := 0 }
set_option maxHeartbeats 4000000 in
set_option maxRecDepth 100000 in
theorem zc_X9_placeOfBit (l : Launch) (D : va_G) (tb : Nat → Nat)  (F : Nat) (u0 : Int64) (u1 : Int32)  (r : Int32) (hf : pX9_placeOfBit F u0 u1 = some r) : zz_Mi l yX9_placeOfBit wsX9_placeOfBit rmX9_placeOfBit D tb [] [.long u0, .int u1] zw_none zw_none r := by
  refine zz_ofi (cc := cX9_placeOfBit) (maxL := 5) (by decide) rfl (Nat.le_of_ble_eq_true rfl) ?_
  intro p e s m args below meth c A Q hfx hK hA hE hret H locs hP hD hS ls hl
  obtain ⟨hx, hb, hml, hown, hts⟩ := id hfx
  have hl : lv_has ls 5 [(0, .long u0), (2, .int u1)] := hl
  unfold pX9_placeOfBit at hf
  refine lv_iload_n hx hb dX9_placeOfBit_0 rfl (lv_at hl 1 rfl) ?_
  refine lv_istore_n (lv' := [(3, .int u1), (0, .long u0), (2, .int u1)]) hx hb dX9_placeOfBit_1 rfl hl (by decide) rfl (fun ls hl => ?_)
  refine lv_iconst (v := (0 : Int32)) hx hb dX9_placeOfBit_2 (by decide) ?_
  refine lv_istore (lv' := [(4, .int (0 : Int32)), (3, .int u1), (0, .long u0), (2, .int u1)]) hx hb dX9_placeOfBit_3 hl (by decide) rfl (fun ls hl => ?_)
  have hLkL5_2 : ∀ (n5_2 : Nat) (x1 : Int32) (x2 : Int32) (H : Heap) (locs : List Loc), va_P D vwCl zw_none H → va_D A zw_none → va_S A s.heap H locs → ∀ ls : Array Slot, lv_has ls 5 [(0, .long u0), (3, .int x1), (4, .int x2)] → pX9_placeOfBit_L5_2 u0 n5_2 x1 x2 = some r → W p l e rmX9_placeOfBit s m args below meth c H locs 0 0 Q (F0 m 5 ls []) := by
    intro n5_2
    induction n5_2 with
    | zero =>
      intro x1 x2 H locs hP hD hS ls hl hf
      exact nomatch (show (none : Option _) = some _ from hf)
    | succ n5_2 ihkL5_2 =>
      intro x1 x2 H locs hP hD hS ls hl hf
      rw [pX9_placeOfBit_L5_2] at hf
      refine lv_iload hx hb dX9_placeOfBit_5 (lv_at hl 2 rfl) ?_
      refine lv_bipush (v := (36 : Int32)) hx hb dX9_placeOfBit_7 (by decide) ?_
      refine lv_icmp_ge (tgt := 39) hx hb dX9_placeOfBit_9 (by decide) (fun c9 => ?_) (fun c9 => ?_)
      · have hf := zz_ps hf c9
        refine lv_iconst (v := (-1 : Int32)) hx hb dX9_placeOfBit_39 (by decide) ?_
        obtain rfl := zz_e1 hf
        exact hret _ _ _ _ dX9_placeOfBit_40 hP hD hS
      · have hf := zz_ng hf c9
        refine lv_lload_n hx hb dX9_placeOfBit_12 rfl (lv_at hl 0 rfl) ?_
        refine lv_iload hx hb dX9_placeOfBit_13 (lv_at hl 2 rfl) ?_
        refine lv_lushr (v := (zz_lushr u0 x2)) hx hb dX9_placeOfBit_15 rfl ?_
        refine lv_lconst (v := (1 : Int64)) hx hb dX9_placeOfBit_16 (by decide) ?_
        refine lv_land hx hb dX9_placeOfBit_17 ?_
        refine lv_lconst (v := (0 : Int64)) hx hb dX9_placeOfBit_18 (by decide) ?_
        refine W.lcmp hx hb dX9_placeOfBit_19 ?_
        obtain ⟨j33_5, hj33_5, hf⟩ := zz_lts hf
        have Kj33_5 : ∀ (x4 : Int32) (H : Heap) (locs : List Loc), va_P D vwCl zw_none H → va_D A zw_none → va_S A s.heap H locs → ∀ ls : Array Slot, lv_has ls 5 [(0, .long u0), (4, .int x2), (3, .int x4)] → j33_5 x4 = some r → W p l e rmX9_placeOfBit s m args below meth c H locs 0 0 Q (F0 m 33 ls []) := by
          intro x4 H locs hP hD hS ls hl hf
          rw [hj33_5] at hf
          obtain ⟨v6, hv6, hf⟩ := zz_lts hf
          refine lv_iinc (v := v6) (lv' := [(4, .int v6), (0, .long u0), (3, .int x4)]) hx hb dX9_placeOfBit_33 hl (k := 1) rfl (by rw [hv6]; rfl) (by decide) rfl (fun ls hl => ?_)
          refine lv_goto (tgt := 5) hx hb dX9_placeOfBit_36 (by decide) ?_
          exact ihkL5_2 x4 v6 _ _ hP hD hS ls (lv_sub hl [1, 2, 0] rfl) hf
        refine lv_if_eq (tgt := 33) hx hb dX9_placeOfBit_20 (by decide) (fun c20 => ?_) (fun c20 => ?_)
        · have hf := zz_ps hf c20
          exact Kj33_5 x1 _ _ hP hD hS ls (lv_sub hl [0, 2, 1] rfl) hf
        · have hf := zz_ng hf c20
          refine lv_iload_n hx hb dX9_placeOfBit_23 rfl (lv_at hl 1 rfl) ?_
          refine lv_if_ne (tgt := 30) hx hb dX9_placeOfBit_24 (by decide) (fun c24 => ?_) (fun c24 => ?_)
          · have hf := zz_ng hf c24
            obtain ⟨v7, hv7, hf⟩ := zz_lts hf
            refine lv_iinc (v := v7) (lv' := [(3, .int v7), (0, .long u0), (4, .int x2)]) hx hb dX9_placeOfBit_30 hl (k := 1) rfl (by rw [hv7]; rfl) (by decide) rfl (fun ls hl => ?_)
            exact Kj33_5 v7 _ _ hP hD hS ls (lv_sub hl [1, 2, 0] rfl) hf
          · have hf := zz_ps hf c24
            refine lv_iload hx hb dX9_placeOfBit_27 (lv_at hl 2 rfl) ?_
            obtain rfl := zz_e1 hf
            exact hret _ _ _ _ dX9_placeOfBit_29 hP hD hS
  exact hLkL5_2 F u1 (0 : Int32) _ _ hP hD hS ls (lv_sub hl [2, 1, 0] rfl) hf
def rmX9_trim : Room := { frames := 5, cells := 0, slots := 0, locals := 118 }
set_option maxHeartbeats 4000000 in
set_option maxRecDepth 100000 in
theorem zc_X9_trim (l : Launch) (D : va_G) (tb : Nat → Nat) (q : Nat → Nat) (k : Nat → ClassId) (F : Nat) (u0 : Int32) (S : zz_M) (r : Int32) (o1 : zz_M) (hf : pX9_trim F u0 S = some (r, o1)) : zz_Mi l yX9_trim wsX9_trim rmX9_trim D tb [((k 1), .object "CatBeat$Text"), ((k 3), .int), ((k 5), .int), ((k 7), .int), ((k 8), .int), ((k 9), .int), ((k 11), .int), ((k 13), .int), ((k 15), .int), ((k 16), .int), ((k 18), .int), ((k 19), .int), ((k 20), .object "CatBeat$Sheet"), ((k 22), .int), ((k 24), .int), ((k 26), .int), ((k 28), .int), ((k 30), .int), ((k 31), .long), ((k 32), .boolean), ((k 34), .int), ((k 35), .long), ((k 37), .int), ((k 39), .int), ((k 40), .long), ((k 41), .boolean), ((k 43), .int), ((k 44), .long), ((k 46), .long), ((k 47), .int)] [.ref (q 0), .int u0] (zw_9 q k S) (zw_9 q k o1) r := by
  refine zz_ofi (cc := cX9_trim) (maxL := 2) (by decide) rfl (Nat.le_of_ble_eq_true rfl) ?_
  intro p e s m args below meth c A Q hfx hK hA hE hret H locs hP hD hS ls hl
  obtain ⟨hx, hb, hml, hown, hts⟩ := id hfx
  have inX9 : ∀ w ∈ u_ws RX9 TX9 18, w ∈ wsX9_trim := by decide +kernel
  have lk97 := hts (.fieldLink RX9 97 "CatBeat" "trimmed" "I") (by decide +kernel)
  have hl : lv_has ls 2 [(0, .ref (q 0)), (1, .int u0)] := hl
  unfold pX9_trim at hf
  refine lv_iload_n hx hb dX9_trim_0 rfl (lv_at hl 1 rfl) ?_
  refine lv_iconst (v := (-1 : Int32)) hx hb dX9_trim_1 (by decide) ?_
  obtain ⟨j10_1, hj10_1, hf⟩ := zz_lts hf
  have Kj10_1 : ∀  (H : Heap) (locs : List Loc), va_P D vwCl (zw_9 q k S) H → va_D A (zw_9 q k S) → va_S A s.heap H locs → ∀ ls : Array Slot, lv_has ls 2 [] → j10_1 () = some (r, o1) → W p l e rmX9_trim s m args below meth c H locs 0 0 Q (F0 m 10 ls []) := by
    intro  H locs hP hD hS ls hl hf
    rw [hj10_1] at hf
    refine lv_bipush (v := (-2 : Int32)) hx hb dX9_trim_10 (by decide) ?_
    obtain ⟨rfl, rfl⟩ := zz_e2 hf
    exact hret _ _ _ _ dX9_trim_12 hP hD hS
  refine lv_icmp_lt (tgt := 10) hx hb dX9_trim_2 (by decide) (fun c2 => ?_) (fun c2 => ?_)
  · have hf := zz_ps hf c2
    exact Kj10_1  _ _ hP hD hS ls (lv_sub hl [] rfl) hf
  · have hf := zz_ng hf c2
    refine lv_iload_n hx hb dX9_trim_5 rfl (lv_at hl 1 rfl) ?_
    refine lv_iconst (v := (1 : Int32)) hx hb dX9_trim_6 (by decide) ?_
    refine lv_icmp_le (tgt := 13) hx hb dX9_trim_7 (by decide) (fun c7 => ?_) (fun c7 => ?_)
    · have hf := zz_ps hf c7
      refine lv_aload_n hx hb dX9_trim_13 rfl (lv_at hl 0 rfl) ?_
      obtain ⟨S2, hc3, hf⟩ := zz_b1s hf
      refine zz_jv0 (va_runV (As := []) (rest := []) hfx (zc_X9_settle l D tb q k F  S S2 hc3 H.size) (cwV 0 hts gX9_trim_X9_settle rfl rfl rfl (by decide +kernel) ⟨Nat.le_of_ble_eq_true rfl, Nat.le_of_ble_eq_true rfl⟩) (zz_pre0V hK hP hD hS hA hE 0 rfl rfl rfl) rfl rfl hl.1 rfl (lv_room (Nat.le_of_ble_eq_true rfl)) dX9_trim_14 ⟨Nat.zero_le _, Nat.zero_le _⟩) hD hS hA (fun H locs hP hD hS => ?_)
      refine lv_aload_n hx hb dX9_trim_17 rfl (lv_at hl 0 rfl) ?_
      refine va_get (D := D) (ci := 9) (v := .int (zz_gI S2 26)) (C := RX9) (T := TX9) (N := 18) hx hb hts inX9 hown hK hP 0 rfl rfl 17 (by decide) lk97 (fun _ h9 => h9) rfl dX9_trim_18 ?_
      refine lv_iconst (v := (-1 : Int32)) hx hb dX9_trim_21 (by decide) ?_
      obtain ⟨j33_5, hj33_5, hf⟩ := zz_lts hf
      have Kj33_5 : ∀ (z4 : zz_M) (H : Heap) (locs : List Loc), va_P D vwCl (zw_9 q k z4) H → va_D A (zw_9 q k z4) → va_S A s.heap H locs → ∀ ls : Array Slot, lv_has ls 2 [(0, .ref (q 0)), (1, .int u0)] → j33_5 z4 = some (r, o1) → W p l e rmX9_trim s m args below meth c H locs 0 0 Q (F0 m 33 ls []) := by
        intro z4 H locs hP hD hS ls hl hf
        rw [hj33_5] at hf
        refine lv_iload_n hx hb dX9_trim_33 rfl (lv_at hl 1 rfl) ?_
        refine lv_iconst (v := (-1 : Int32)) hx hb dX9_trim_34 (by decide) ?_
        refine lv_icmp_ne (tgt := 57) hx hb dX9_trim_35 (by decide) (fun c35 => ?_) (fun c35 => ?_)
        · have hf := zz_ng hf c35
          refine lv_aload_n hx hb dX9_trim_57 rfl (lv_at hl 0 rfl) ?_
          refine va_get (D := D) (ci := 9) (v := .int (zz_gI z4 26)) (C := RX9) (T := TX9) (N := 18) hx hb hts inX9 hown hK hP 0 rfl rfl 17 (by decide) lk97 (fun _ h9 => h9) rfl dX9_trim_58 ?_
          refine lv_i2l (v := (Int32.toInt64 (zz_gI z4 26))) hx hb dX9_trim_61 rfl ?_
          refine lv_iload_n hx hb dX9_trim_62 rfl (lv_at hl 1 rfl) ?_
          obtain ⟨r6, hc7, hf⟩ := zz_b1s hf
          refine zz_ji (va_runS (As := [.long (Int32.toInt64 (zz_gI z4 26)), .int u0]) (rest := []) hfx (zc_X9_placeOfBit l D tb  F (Int32.toInt64 (zz_gI z4 26)) u0  r6 hc7 H.size) (va_cwS 2 hts gX9_trim_X9_placeOfBit rfl rfl rfl (by decide +kernel) ⟨Nat.le_of_ble_eq_true rfl, Nat.le_of_ble_eq_true rfl⟩) (zz_preS hK hP hD hS hA hE [] [] rfl (by decide) rfl) rfl rfl hl.1 rfl (lv_room (Nat.le_of_ble_eq_true rfl)) dX9_trim_63 ⟨Nat.zero_le _, Nat.zero_le _⟩) hP hD hS hA [] rfl rfl (fun H locs hP hD hS => ?_)
          have hP : va_P D vwCl (zw_9 q k z4) H := hP
          have hD : va_D A (zw_9 q k z4) := hD
          obtain ⟨rfl, rfl⟩ := zz_e2 hf
          exact hret _ _ _ _ dX9_trim_66 hP hD hS
        · have hf := zz_ps hf c35
          refine lv_aload_n hx hb dX9_trim_38 rfl (lv_at hl 0 rfl) ?_
          refine va_get (D := D) (ci := 9) (v := .int (zz_gI z4 26)) (C := RX9) (T := TX9) (N := 18) hx hb hts inX9 hown hK hP 0 rfl rfl 17 (by decide) lk97 (fun _ h9 => h9) rfl dX9_trim_39 ?_
          obtain ⟨j56_9, hj56_9, hf⟩ := zz_lts hf
          have Kj56_9 : ∀ (y8 : Int32) (H : Heap) (locs : List Loc), va_P D vwCl (zw_9 q k z4) H → va_D A (zw_9 q k z4) → va_S A s.heap H locs → ∀ ls : Array Slot, lv_has ls 2 [] → j56_9 y8 = some (r, o1) → W p l e rmX9_trim s m args below meth c H locs 0 0 Q (F0 m 56 ls [.int y8]) := by
            intro y8 H locs hP hD hS ls hl hf
            rw [hj56_9] at hf
            obtain ⟨rfl, rfl⟩ := zz_e2 hf
            exact hret _ _ _ _ dX9_trim_56 hP hD hS
          refine lv_if_ne (tgt := 49) hx hb dX9_trim_42 (by decide) (fun c42 => ?_) (fun c42 => ?_)
          · have hf := zz_ng hf c42
            refine lv_aload_n hx hb dX9_trim_49 rfl (lv_at hl 0 rfl) ?_
            refine va_get (D := D) (ci := 9) (v := .int (zz_gI z4 26)) (C := RX9) (T := TX9) (N := 18) hx hb hts inX9 hown hK hP 0 rfl rfl 17 (by decide) lk97 (fun _ h9 => h9) rfl dX9_trim_50 ?_
            obtain ⟨r10, hc11, hf⟩ := zz_b1s hf
            refine zz_ji (va_runS (As := [.int (zz_gI z4 26)]) (rest := []) hfx (zc_J6_bitCount_0f7a4 l D tb  F (zz_gI z4 26)  r10 hc11 H.size) (va_cwS 1 hts gX9_trim_J6_bitCount_0f7a4 rfl rfl rfl (by decide +kernel) ⟨Nat.le_of_ble_eq_true rfl, Nat.le_of_ble_eq_true rfl⟩) (zz_preS hK hP hD hS hA hE [] [] rfl (by decide) rfl) rfl rfl hl.1 rfl (lv_room (Nat.le_of_ble_eq_true rfl)) dX9_trim_53 ⟨Nat.zero_le _, Nat.zero_le _⟩) hP hD hS hA [] rfl rfl (fun H locs hP hD hS => ?_)
            have hP : va_P D vwCl (zw_9 q k z4) H := hP
            have hD : va_D A (zw_9 q k z4) := hD
            exact Kj56_9 r10 _ _ hP hD hS ls (lv_sub hl [] rfl) hf
          · have hf := zz_ps hf c42
            refine lv_iconst (v := (-1 : Int32)) hx hb dX9_trim_45 (by decide) ?_
            refine lv_goto (tgt := 56) hx hb dX9_trim_46 (by decide) ?_
            exact Kj56_9 (-1 : Int32) _ _ hP hD hS ls (lv_sub hl [] rfl) hf
      refine lv_icmp_ne (tgt := 33) hx hb dX9_trim_22 (by decide) (fun c22 => ?_) (fun c22 => ?_)
      · have hf := zz_ng hf c22
        exact Kj33_5 S2 _ _ hP hD hS ls (lv_sub hl [0, 1] rfl) hf
      · have hf := zz_ps hf c22
        refine lv_aload_n hx hb dX9_trim_25 rfl (lv_at hl 0 rfl) ?_
        refine lv_aload_n hx hb dX9_trim_26 rfl (lv_at hl 0 rfl) ?_
        obtain ⟨r12, S13, hc14, hf⟩ := zz_b2s hf
        refine zz_ji0 (va_runV (As := []) (rest := [.ref (q 0)]) hfx (zc_X9_fewestLeftOut l D tb q k F  S2 r12 S13 hc14 H.size) (cwV 0 hts gX9_trim_X9_fewestLeftOut rfl rfl rfl (by decide +kernel) ⟨Nat.le_of_ble_eq_true rfl, Nat.le_of_ble_eq_true rfl⟩) (zz_pre0V hK hP hD hS hA hE 0 rfl rfl rfl) rfl rfl hl.1 rfl (lv_room (Nat.le_of_ble_eq_true rfl)) dX9_trim_27 ⟨Nat.zero_le _, Nat.zero_le _⟩) hD hS hA (fun H locs hP hD hS => ?_)
        obtain ⟨S15, hS15, hf⟩ := zz_lts hf
        refine va_put (D := D) (ci := 9) (v := .int r12) (ty := .int) (C := RX9) (T := TX9) (N := 18) hx hb hts inX9 tyX9 tyX9_ok nmX9 hown hK hP hD hS 0 rfl rfl 17 (by decide) lk97 (fun _ h9 => h9) rfl (by decide +kernel) rfl rfl (Nat.le_of_ble_eq_true rfl) dX9_trim_30 (fun H locs hP hD hS => ?_)
        have hP : va_P D vwCl (zw_9 q k S15) H := by rw [hS15]; exact hP
        have hD : va_D A (zw_9 q k S15) := by rw [hS15]; exact hD
        exact Kj33_5 S15 _ _ hP hD hS ls (lv_sub hl [0, 1] rfl) hf
    · have hf := zz_ng hf c7
      exact Kj10_1  _ _ hP hD hS ls (lv_sub hl [] rfl) hf
def rmX9_begin : Room := { frames := 4, cells := 0, slots := 0, locals := 96 }
set_option maxHeartbeats 4000000 in
set_option maxRecDepth 100000 in
theorem zc_X9_begin (l : Launch) (D : va_G) (tb : Nat → Nat) (q : Nat → Nat) (k : Nat → ClassId) (F : Nat) (u0 : Int32) (S : zz_M) (r : Int32) (o1 : zz_M) (hf : pX9_begin F u0 S = some (r, o1)) : zz_Mi l yX9_begin wsX9_begin rmX9_begin D tb [((k 1), .object "CatBeat$Text"), ((k 3), .int), ((k 5), .int), ((k 7), .int), ((k 8), .int), ((k 9), .int), ((k 11), .int), ((k 13), .int), ((k 15), .int), ((k 16), .int), ((k 18), .int), ((k 19), .int), ((k 20), .object "CatBeat$Sheet"), ((k 22), .int), ((k 24), .int), ((k 26), .int), ((k 28), .int), ((k 30), .int), ((k 31), .long), ((k 32), .boolean), ((k 34), .int), ((k 35), .long), ((k 37), .int), ((k 39), .int), ((k 40), .long), ((k 41), .boolean), ((k 43), .int), ((k 44), .long), ((k 46), .long), ((k 47), .int)] [.ref (q 0), .int u0] (zw_9 q k S) (zw_9 q k o1) r := by
  refine zz_ofi (cc := cX9_begin) (maxL := 6) (by decide) rfl (Nat.le_of_ble_eq_true rfl) ?_
  intro p e s m args below meth c A Q hfx hK hA hE hret H locs hP hD hS ls hl
  obtain ⟨hx, hb, hml, hown, hts⟩ := id hfx
  have inX9 : ∀ w ∈ u_ws RX9 TX9 18, w ∈ wsX9_begin := by decide +kernel
  have inX8 : ∀ w ∈ u_ws RX8 TX8 4, w ∈ wsX9_begin := by decide +kernel
  have lk25 := hts (.fieldLink RX9 25 "CatBeat" "ward" "LCatBeat$Ward;") (by decide +kernel)
  have lk120 := hts (.fieldLink RX9 120 "CatBeat$Ward" "count" "I") (by decide +kernel)
  have lk59 := hts (.fieldLink RX9 59 "CatBeat" "ground" "LCatBeat$Ground;") (by decide +kernel)
  have lk76 := hts (.fieldLink RX9 76 "CatBeat" "otherNight" "LCatBeat$Night;") (by decide +kernel)
  have lk32 := hts (.fieldLink RX9 32 "CatBeat" "round" "LCatBeat$Round;") (by decide +kernel)
  have lk39 := hts (.fieldLink RX9 39 "CatBeat" "thieves" "LCatBeat$Thieves;") (by decide +kernel)
  have hl : lv_has ls 6 [(0, .ref (q 0)), (1, .int u0)] := hl
  unfold pX9_begin at hf
  refine lv_iload_n hx hb dX9_begin_0 rfl (lv_at hl 1 rfl) ?_
  obtain ⟨r1, hc2, hf⟩ := zz_b1s hf
  refine zz_ji (va_runS (As := [.int u0]) (rest := []) hfx (zc_X9_isEither l D tb  F u0  r1 hc2 H.size) (va_cwS 1 hts gX9_begin_X9_isEither rfl rfl rfl (by decide +kernel) ⟨Nat.le_of_ble_eq_true rfl, Nat.le_of_ble_eq_true rfl⟩) (zz_preS hK hP hD hS hA hE [] [] rfl (by decide) rfl) rfl rfl hl.1 rfl (lv_room (Nat.le_of_ble_eq_true rfl)) dX9_begin_1 ⟨Nat.zero_le _, Nat.zero_le _⟩) hP hD hS hA [] rfl rfl (fun H locs hP hD hS => ?_)
  have hP : va_P D vwCl (zw_9 q k S) H := hP
  have hD : va_D A (zw_9 q k S) := hD
  refine lv_if_ne (tgt := 10) hx hb dX9_begin_4 (by decide) (fun c4 => ?_) (fun c4 => ?_)
  · have hf := zz_ng hf c4
    refine lv_aload_n hx hb dX9_begin_10 rfl (lv_at hl 0 rfl) ?_
    obtain ⟨S3, hc4, hf⟩ := zz_b1s hf
    refine zz_jv0 (va_runV (As := []) (rest := []) hfx (zc_X9_settle l D tb q k F  S S3 hc4 H.size) (cwV 0 hts gX9_begin_X9_settle rfl rfl rfl (by decide +kernel) ⟨Nat.le_of_ble_eq_true rfl, Nat.le_of_ble_eq_true rfl⟩) (zz_pre0V hK hP hD hS hA hE 0 rfl rfl rfl) rfl rfl hl.1 rfl (lv_room (Nat.le_of_ble_eq_true rfl)) dX9_begin_11 ⟨Nat.zero_le _, Nat.zero_le _⟩) hD hS hA (fun H locs hP hD hS => ?_)
    refine lv_iconst (v := (-1 : Int32)) hx hb dX9_begin_14 (by decide) ?_
    refine lv_istore_n (lv' := [(2, .int (-1 : Int32)), (0, .ref (q 0)), (1, .int u0)]) hx hb dX9_begin_15 rfl hl (by decide) rfl (fun ls hl => ?_)
    refine lv_iconst (v := (-1 : Int32)) hx hb dX9_begin_16 (by decide) ?_
    refine lv_istore_n (lv' := [(3, .int (-1 : Int32)), (2, .int (-1 : Int32)), (0, .ref (q 0)), (1, .int u0)]) hx hb dX9_begin_17 rfl hl (by decide) rfl (fun ls hl => ?_)
    refine lv_iconst (v := (0 : Int32)) hx hb dX9_begin_18 (by decide) ?_
    refine lv_istore (lv' := [(4, .int (0 : Int32)), (3, .int (-1 : Int32)), (2, .int (-1 : Int32)), (0, .ref (q 0)), (1, .int u0)]) hx hb dX9_begin_19 hl (by decide) rfl (fun ls hl => ?_)
    have hLkL21_8 : ∀ (n21_8 : Nat) (x5 : Int32) (x6 : Int32) (x7 : Int32) (z8 : zz_M) (H : Heap) (locs : List Loc), va_P D vwCl (zw_9 q k z8) H → va_D A (zw_9 q k z8) → va_S A s.heap H locs → ∀ ls : Array Slot, lv_has ls 6 [(0, .ref (q 0)), (1, .int u0), (2, .int x5), (3, .int x6), (4, .int x7)] → pX9_begin_L21_8 u0 F n21_8 x5 x6 x7 z8 = some (r, o1) → W p l e rmX9_begin s m args below meth c H locs 0 0 Q (F0 m 21 ls []) := by
      intro n21_8
      induction n21_8 with
      | zero =>
        intro x5 x6 x7 z8 H locs hP hD hS ls hl hf
        exact nomatch (show (none : Option _) = some _ from hf)
      | succ n21_8 ihkL21_8 =>
        intro x5 x6 x7 z8 H locs hP hD hS ls hl hf
        rw [pX9_begin_L21_8] at hf
        refine lv_iload hx hb dX9_begin_21 (lv_at hl 4 rfl) ?_
        refine lv_aload_n hx hb dX9_begin_23 rfl (lv_at hl 0 rfl) ?_
        refine va_get (D := D) (ci := 9) (v := .ref (q 10)) (C := RX9) (T := TX9) (N := 18) hx hb hts inX9 hown hK hP 0 rfl rfl 3 (by decide) lk25 (fun _ h9 => h9) rfl dX9_begin_24 ?_
        refine va_get (D := D) (ci := 8) (v := .int (zz_gI z8 3)) (C := RX8) (T := TX8) (N := 4) hx hb hts inX8 hown hK hP 10 rfl rfl 1 (by decide) lk120 (fun _ h9 => h9) rfl dX9_begin_27 ?_
        refine lv_icmp_ge (tgt := 102) hx hb dX9_begin_30 (by decide) (fun c30 => ?_) (fun c30 => ?_)
        · have hf := zz_ps hf c30
          refine lv_iload_n hx hb dX9_begin_102 rfl (lv_at hl 1 rfl) ?_
          obtain ⟨v10, hv10, hf⟩ := zz_lts hf
          have hK11 : ∀ ls : Array Slot, lv_has ls 6 [] → W p l e rmX9_begin s m args below meth c H locs 0 0 Q (F0 m 111 ls [.int v10]) := by
            intro ls hl
            obtain ⟨rfl, rfl⟩ := zz_e2 hf
            exact hret _ _ _ _ dX9_begin_111 hP hD hS
          refine lv_if_ne (tgt := 110) hx hb dX9_begin_103 (by decide) (fun c103 => ?_) (fun c103 => ?_)
          · refine lv_iload_n hx hb dX9_begin_110 rfl (lv_at hl 3 rfl) ?_
            refine zz_ti (show v10 = x6 by rw [hv10, if_neg c103]) ?_
            exact hK11 ls (lv_sub hl [] rfl)
          · refine lv_iload_n hx hb dX9_begin_106 rfl (lv_at hl 2 rfl) ?_
            refine lv_goto (tgt := 111) hx hb dX9_begin_107 (by decide) ?_
            refine zz_ti (show v10 = x5 by rw [hv10, if_pos c103]) ?_
            exact hK11 ls (lv_sub hl [] rfl)
        · have hf := zz_ng hf c30
          refine lv_aload_n hx hb dX9_begin_33 rfl (lv_at hl 0 rfl) ?_
          refine va_get (D := D) (ci := 9) (v := .ref (q 29)) (C := RX9) (T := TX9) (N := 18) hx hb hts inX9 hown hK hP 0 rfl rfl 8 (by decide) lk59 (fun _ h9 => h9) rfl dX9_begin_34 ?_
          refine lv_iload hx hb dX9_begin_37 (lv_at hl 4 rfl) ?_
          obtain ⟨r12, hc13, hf⟩ := zz_b1s hf
          refine zz_ji (va_runV (As := [.int x7]) (rest := []) hfx (zc_X0_holds l D tb (q 29) (q 30) (q 31) (q 32) (k 30) (k 31) (k 32) F x7 (zz_gI z8 20) (zz_gA z8 15) (zz_gL z8 1) (zz_gA z8 16) r12 hc13 H.size) (cwV 1 hts gX9_begin_X0_holds rfl rfl rfl (by decide +kernel) ⟨Nat.le_of_ble_eq_true rfl, Nat.le_of_ble_eq_true rfl⟩) (zz_preV hK hP hD hS hA hE [29, 30, 31, 32] [17, 18, 19] rfl (by decide) rfl 29 rfl rfl rfl) rfl rfl hl.1 rfl (lv_room (Nat.le_of_ble_eq_true rfl)) dX9_begin_39 ⟨Nat.zero_le _, Nat.zero_le _⟩) hP hD hS hA [29, 30, 31, 32] rfl rfl (fun H locs hP hD hS => ?_)
          have hP : va_P D vwCl (zw_9 q k z8) H := hP
          have hD : va_D A (zw_9 q k z8) := hD
          obtain ⟨j96_17, hj96_17, hf⟩ := zz_lts hf
          have Kj96_17 : ∀ (x14 : Int32) (x15 : Int32) (z16 : zz_M) (H : Heap) (locs : List Loc), va_P D vwCl (zw_9 q k z16) H → va_D A (zw_9 q k z16) → va_S A s.heap H locs → ∀ ls : Array Slot, lv_has ls 6 [(0, .ref (q 0)), (1, .int u0), (4, .int x7), (2, .int x14), (3, .int x15)] → j96_17 x14 x15 z16 = some (r, o1) → W p l e rmX9_begin s m args below meth c H locs 0 0 Q (F0 m 96 ls []) := by
            intro x14 x15 z16 H locs hP hD hS ls hl hf
            rw [hj96_17] at hf
            obtain ⟨v18, hv18, hf⟩ := zz_lts hf
            refine lv_iinc (v := v18) (lv' := [(4, .int v18), (0, .ref (q 0)), (1, .int u0), (2, .int x14), (3, .int x15)]) hx hb dX9_begin_96 hl (k := 2) rfl (by rw [hv18]; rfl) (by decide) rfl (fun ls hl => ?_)
            refine lv_goto (tgt := 21) hx hb dX9_begin_99 (by decide) ?_
            exact ihkL21_8 x14 x15 v18 z16 _ _ hP hD hS ls (lv_sub hl [1, 2, 3, 4, 0] rfl) hf
          refine lv_if_eq (tgt := 96) hx hb dX9_begin_42 (by decide) (fun c42 => ?_) (fun c42 => ?_)
          · have hf := zz_ps hf c42
            exact Kj96_17 x5 x6 z8 _ _ hP hD hS ls (lv_sub hl [0, 1, 4, 2, 3] rfl) hf
          · have hf := zz_ng hf c42
            refine lv_aload_n hx hb dX9_begin_45 rfl (lv_at hl 0 rfl) ?_
            refine va_get (D := D) (ci := 9) (v := .ref (q 42)) (C := RX9) (T := TX9) (N := 18) hx hb hts inX9 hown hK hP 0 rfl rfl 12 (by decide) lk76 (fun _ h9 => h9) rfl dX9_begin_46 ?_
            refine lv_aload_n hx hb dX9_begin_49 rfl (lv_at hl 0 rfl) ?_
            refine va_get (D := D) (ci := 9) (v := .ref (q 29)) (C := RX9) (T := TX9) (N := 18) hx hb hts inX9 hown hK hP 0 rfl rfl 8 (by decide) lk59 (fun _ h9 => h9) rfl dX9_begin_50 ?_
            refine lv_iload hx hb dX9_begin_53 (lv_at hl 4 rfl) ?_
            refine lv_aload_n hx hb dX9_begin_55 rfl (lv_at hl 0 rfl) ?_
            refine va_get (D := D) (ci := 9) (v := .ref (q 12)) (C := RX9) (T := TX9) (N := 18) hx hb hts inX9 hown hK hP 0 rfl rfl 4 (by decide) lk32 (fun _ h9 => h9) rfl dX9_begin_56 ?_
            obtain ⟨f19, f20, hc21, hf⟩ := zz_b2s hf
            obtain ⟨S22, hS22, hf⟩ := zz_lts hf
            refine zz_jv (va_runV (As := [.ref (q 29), .int x7, .ref (q 12)]) (rest := []) hfx (zc_X2_walk l D tb (q 42) (q 43) (q 44) (q 29) (q 30) (q 31) (q 32) (q 12) (q 13) (k 43) (k 44) (k 30) (k 31) (k 32) (k 13) F x7 (zz_gA z8 21) (zz_gL z8 4) (zz_gI z8 20) (zz_gA z8 15) (zz_gL z8 1) (zz_gA z8 16) (zz_gI z8 5) (zz_gA z8 6) f19 f20 hc21 H.size) (cwV 3 hts gX9_begin_X2_walk rfl rfl rfl (by decide +kernel) ⟨Nat.le_of_ble_eq_true rfl, Nat.le_of_ble_eq_true rfl⟩) (zz_preV hK hP hD hS hA hE [42, 43, 44, 29, 30, 31, 32, 12, 13] [26, 27, 17, 18, 19, 7] rfl (by decide) rfl 42 rfl rfl rfl) rfl rfl hl.1 rfl (lv_room (Nat.le_of_ble_eq_true rfl)) dX9_begin_59 ⟨Nat.zero_le _, Nat.zero_le _⟩) hP hD hS hA [42, 43, 44, 29, 30, 31, 32, 12, 13] rfl rfl (fun H locs hP hD hS => ?_)
            have hP : va_P D vwCl (zw_9 q k S22) H := by rw [hS22]; exact hP
            have hD : va_D A (zw_9 q k S22) := by rw [hS22]; exact hD
            refine lv_aload_n hx hb dX9_begin_62 rfl (lv_at hl 0 rfl) ?_
            refine va_get (D := D) (ci := 9) (v := .ref (q 14)) (C := RX9) (T := TX9) (N := 18) hx hb hts inX9 hown hK hP 0 rfl rfl 5 (by decide) lk39 (fun _ h9 => h9) rfl dX9_begin_63 ?_
            refine lv_aload_n hx hb dX9_begin_66 rfl (lv_at hl 0 rfl) ?_
            refine va_get (D := D) (ci := 9) (v := .ref (q 10)) (C := RX9) (T := TX9) (N := 18) hx hb hts inX9 hown hK hP 0 rfl rfl 3 (by decide) lk25 (fun _ h9 => h9) rfl dX9_begin_67 ?_
            refine lv_aload_n hx hb dX9_begin_70 rfl (lv_at hl 0 rfl) ?_
            refine va_get (D := D) (ci := 9) (v := .ref (q 42)) (C := RX9) (T := TX9) (N := 18) hx hb hts inX9 hown hK hP 0 rfl rfl 12 (by decide) lk76 (fun _ h9 => h9) rfl dX9_begin_71 ?_
            obtain ⟨r23, hc24, hf⟩ := zz_b1s hf
            refine zz_ji (va_runV (As := [.ref (q 10), .ref (q 42)]) (rest := []) hfx (zc_X7_howManyTake l D tb (q 14) (q 15) (q 16) (q 10) (q 11) (q 42) (q 43) (q 44) (k 15) (k 16) (k 11) (k 43) (k 44) F  (zz_gI S22 6) (zz_gA S22 7) (zz_gA S22 8) (zz_gI S22 3) (zz_gI S22 4) (zz_gL S22 0 0) (zz_gA S22 5) (zz_gA S22 21) (zz_gL S22 4) r23 hc24 H.size) (cwV 2 hts gX9_begin_X7_howManyTake rfl rfl rfl (by decide +kernel) ⟨Nat.le_of_ble_eq_true rfl, Nat.le_of_ble_eq_true rfl⟩) (zz_preV hK hP hD hS hA hE [14, 15, 16, 10, 11, 42, 43, 44] [8, 9, 6, 26, 27] rfl (by decide) rfl 14 rfl rfl rfl) rfl rfl hl.1 rfl (lv_room (Nat.le_of_ble_eq_true rfl)) dX9_begin_74 ⟨Nat.zero_le _, Nat.zero_le _⟩) hP hD hS hA [14, 15, 16, 10, 11, 42, 43, 44] rfl rfl (fun H locs hP hD hS => ?_)
            have hP : va_P D vwCl (zw_9 q k S22) H := hP
            have hD : va_D A (zw_9 q k S22) := hD
            refine lv_istore (lv' := [(5, .int r23), (0, .ref (q 0)), (1, .int u0), (2, .int x5), (3, .int x6), (4, .int x7)]) hx hb dX9_begin_77 hl (by decide) rfl (fun ls hl => ?_)
            refine lv_iload_n hx hb dX9_begin_79 rfl (lv_at hl 3 rfl) ?_
            refine lv_iconst (v := (-1 : Int32)) hx hb dX9_begin_80 (by decide) ?_
            obtain ⟨j90_25, hj90_25, hf⟩ := zz_lts hf
            have Kj90_25 : ∀  (H : Heap) (locs : List Loc), va_P D vwCl (zw_9 q k S22) H → va_D A (zw_9 q k S22) → va_S A s.heap H locs → ∀ ls : Array Slot, lv_has ls 6 [(5, .int r23), (0, .ref (q 0)), (1, .int u0), (4, .int x7)] → j90_25 () = some (r, o1) → W p l e rmX9_begin s m args below meth c H locs 0 0 Q (F0 m 90 ls []) := by
              intro  H locs hP hD hS ls hl hf
              rw [hj90_25] at hf
              refine lv_iload hx hb dX9_begin_90 (lv_at hl 3 rfl) ?_
              refine lv_istore_n (lv' := [(2, .int x7), (5, .int r23), (0, .ref (q 0)), (1, .int u0), (4, .int x7)]) hx hb dX9_begin_92 rfl hl (by decide) rfl (fun ls hl => ?_)
              refine lv_iload hx hb dX9_begin_93 (lv_at hl 1 rfl) ?_
              refine lv_istore_n (lv' := [(3, .int r23), (2, .int x7), (5, .int r23), (0, .ref (q 0)), (1, .int u0), (4, .int x7)]) hx hb dX9_begin_95 rfl hl (by decide) rfl (fun ls hl => ?_)
              exact Kj96_17 x7 r23 S22 _ _ hP hD hS ls (lv_sub hl [3, 4, 5, 1, 0] rfl) hf
            refine lv_icmp_eq (tgt := 90) hx hb dX9_begin_81 (by decide) (fun c81 => ?_) (fun c81 => ?_)
            · have hf := zz_ps hf c81
              exact Kj90_25  _ _ hP hD hS ls (lv_sub hl [0, 1, 2, 5] rfl) hf
            · have hf := zz_ng hf c81
              refine lv_iload hx hb dX9_begin_84 (lv_at hl 0 rfl) ?_
              refine lv_iload_n hx hb dX9_begin_86 rfl (lv_at hl 4 rfl) ?_
              refine lv_icmp_ge (tgt := 96) hx hb dX9_begin_87 (by decide) (fun c87 => ?_) (fun c87 => ?_)
              · have hf := zz_ps hf c87
                exact Kj96_17 x5 x6 S22 _ _ hP hD hS ls (lv_sub hl [1, 2, 5, 3, 4] rfl) hf
              · have hf := zz_ng hf c87
                exact Kj90_25  _ _ hP hD hS ls (lv_sub hl [0, 1, 2, 5] rfl) hf
    exact hLkL21_8 F (-1 : Int32) (-1 : Int32) (0 : Int32) S3 _ _ hP hD hS ls (lv_sub hl [3, 4, 2, 1, 0] rfl) hf
  · have hf := zz_ps hf c4
    refine lv_bipush (v := (-2 : Int32)) hx hb dX9_begin_7 (by decide) ?_
    obtain ⟨rfl, rfl⟩ := zz_e2 hf
    exact hret _ _ _ _ dX9_begin_9 hP hD hS
def rmX9_recruit : Room := { frames := 3, cells := 0, slots := 0, locals := 76 }
set_option maxHeartbeats 4000000 in
set_option maxRecDepth 100000 in
theorem zc_X9_recruit (l : Launch) (D : va_G) (tb : Nat → Nat) (q : Nat → Nat) (k : Nat → ClassId) (F : Nat) (u0 : Int32) (S : zz_M) (r : Int32) (o1 : zz_M) (hf : pX9_recruit F u0 S = some (r, o1)) : zz_Mi l yX9_recruit wsX9_recruit rmX9_recruit D tb [((k 1), .object "CatBeat$Text"), ((k 3), .int), ((k 5), .int), ((k 7), .int), ((k 8), .int), ((k 9), .int), ((k 11), .int), ((k 13), .int), ((k 15), .int), ((k 16), .int), ((k 18), .int), ((k 19), .int), ((k 20), .object "CatBeat$Sheet"), ((k 22), .int), ((k 24), .int), ((k 26), .int), ((k 28), .int), ((k 30), .int), ((k 31), .long), ((k 32), .boolean), ((k 34), .int), ((k 35), .long), ((k 37), .int), ((k 39), .int), ((k 40), .long), ((k 41), .boolean), ((k 43), .int), ((k 44), .long), ((k 46), .long), ((k 47), .int)] [.ref (q 0), .int u0] (zw_9 q k S) (zw_9 q k o1) r := by
  refine zz_ofi (cc := cX9_recruit) (maxL := 6) (by decide) rfl (Nat.le_of_ble_eq_true rfl) ?_
  intro p e s m args below meth c A Q hfx hK hA hE hret H locs hP hD hS ls hl
  obtain ⟨hx, hb, hml, hown, hts⟩ := id hfx
  have inX9 : ∀ w ∈ u_ws RX9 TX9 18, w ∈ wsX9_recruit := by decide +kernel
  have lk73 := hts (.fieldLink RX9 73 "CatBeat" "otherGround" "LCatBeat$Ground;") (by decide +kernel)
  have lk25 := hts (.fieldLink RX9 25 "CatBeat" "ward" "LCatBeat$Ward;") (by decide +kernel)
  have lk76 := hts (.fieldLink RX9 76 "CatBeat" "otherNight" "LCatBeat$Night;") (by decide +kernel)
  have lk19 := hts (.fieldLink RX9 19 "CatBeat" "settings" "[I") (by decide +kernel)
  have lk32 := hts (.fieldLink RX9 32 "CatBeat" "round" "LCatBeat$Round;") (by decide +kernel)
  have lk39 := hts (.fieldLink RX9 39 "CatBeat" "thieves" "LCatBeat$Thieves;") (by decide +kernel)
  have hl : lv_has ls 6 [(0, .ref (q 0)), (1, .int u0)] := hl
  unfold pX9_recruit at hf
  refine lv_iload_n hx hb dX9_recruit_0 rfl (lv_at hl 1 rfl) ?_
  obtain ⟨r1, hc2, hf⟩ := zz_b1s hf
  refine zz_ji (va_runS (As := [.int u0]) (rest := []) hfx (zc_X9_isEither l D tb  F u0  r1 hc2 H.size) (va_cwS 1 hts gX9_recruit_X9_isEither rfl rfl rfl (by decide +kernel) ⟨Nat.le_of_ble_eq_true rfl, Nat.le_of_ble_eq_true rfl⟩) (zz_preS hK hP hD hS hA hE [] [] rfl (by decide) rfl) rfl rfl hl.1 rfl (lv_room (Nat.le_of_ble_eq_true rfl)) dX9_recruit_1 ⟨Nat.zero_le _, Nat.zero_le _⟩) hP hD hS hA [] rfl rfl (fun H locs hP hD hS => ?_)
  have hP : va_P D vwCl (zw_9 q k S) H := hP
  have hD : va_D A (zw_9 q k S) := hD
  refine lv_if_ne (tgt := 10) hx hb dX9_recruit_4 (by decide) (fun c4 => ?_) (fun c4 => ?_)
  · have hf := zz_ng hf c4
    refine lv_iconst (v := (-1 : Int32)) hx hb dX9_recruit_10 (by decide) ?_
    refine lv_istore_n (lv' := [(2, .int (-1 : Int32)), (0, .ref (q 0)), (1, .int u0)]) hx hb dX9_recruit_11 rfl hl (by decide) rfl (fun ls hl => ?_)
    refine lv_iconst (v := (-1 : Int32)) hx hb dX9_recruit_12 (by decide) ?_
    refine lv_istore_n (lv' := [(3, .int (-1 : Int32)), (2, .int (-1 : Int32)), (0, .ref (q 0)), (1, .int u0)]) hx hb dX9_recruit_13 rfl hl (by decide) rfl (fun ls hl => ?_)
    refine lv_iconst (v := (0 : Int32)) hx hb dX9_recruit_14 (by decide) ?_
    refine lv_istore (lv' := [(4, .int (0 : Int32)), (3, .int (-1 : Int32)), (2, .int (-1 : Int32)), (0, .ref (q 0)), (1, .int u0)]) hx hb dX9_recruit_15 hl (by decide) rfl (fun ls hl => ?_)
    have hLkL17_6 : ∀ (n17_6 : Nat) (x3 : Int32) (x4 : Int32) (x5 : Int32) (z6 : zz_M) (H : Heap) (locs : List Loc), va_P D vwCl (zw_9 q k z6) H → va_D A (zw_9 q k z6) → va_S A s.heap H locs → ∀ ls : Array Slot, lv_has ls 6 [(0, .ref (q 0)), (1, .int u0), (2, .int x3), (3, .int x4), (4, .int x5)] → pX9_recruit_L17_6 u0 F n17_6 x3 x4 x5 z6 = some (r, o1) → W p l e rmX9_recruit s m args below meth c H locs 0 0 Q (F0 m 17 ls []) := by
      intro n17_6
      induction n17_6 with
      | zero =>
        intro x3 x4 x5 z6 H locs hP hD hS ls hl hf
        exact nomatch (show (none : Option _) = some _ from hf)
      | succ n17_6 ihkL17_6 =>
        intro x3 x4 x5 z6 H locs hP hD hS ls hl hf
        rw [pX9_recruit_L17_6] at hf
        refine lv_iload hx hb dX9_recruit_17 (lv_at hl 4 rfl) ?_
        refine lv_bipush (v := (9 : Int32)) hx hb dX9_recruit_19 (by decide) ?_
        refine lv_icmp_gt (tgt := 102) hx hb dX9_recruit_21 (by decide) (fun c21 => ?_) (fun c21 => ?_)
        · have hf := zz_ps hf c21
          refine lv_iload_n hx hb dX9_recruit_102 rfl (lv_at hl 1 rfl) ?_
          obtain ⟨v8, hv8, hf⟩ := zz_lts hf
          have hK9 : ∀ ls : Array Slot, lv_has ls 6 [] → W p l e rmX9_recruit s m args below meth c H locs 0 0 Q (F0 m 111 ls [.int v8]) := by
            intro ls hl
            obtain ⟨rfl, rfl⟩ := zz_e2 hf
            exact hret _ _ _ _ dX9_recruit_111 hP hD hS
          refine lv_if_ne (tgt := 110) hx hb dX9_recruit_103 (by decide) (fun c103 => ?_) (fun c103 => ?_)
          · refine lv_iload_n hx hb dX9_recruit_110 rfl (lv_at hl 3 rfl) ?_
            refine zz_ti (show v8 = x4 by rw [hv8, if_neg c103]) ?_
            exact hK9 ls (lv_sub hl [] rfl)
          · refine lv_iload_n hx hb dX9_recruit_106 rfl (lv_at hl 2 rfl) ?_
            refine lv_goto (tgt := 111) hx hb dX9_recruit_107 (by decide) ?_
            refine zz_ti (show v8 = x3 by rw [hv8, if_pos c103]) ?_
            exact hK9 ls (lv_sub hl [] rfl)
        · have hf := zz_ng hf c21
          refine lv_aload_n hx hb dX9_recruit_24 rfl (lv_at hl 0 rfl) ?_
          refine va_get (D := D) (ci := 9) (v := .ref (q 38)) (C := RX9) (T := TX9) (N := 18) hx hb hts inX9 hown hK hP 0 rfl rfl 11 (by decide) lk73 (fun _ h9 => h9) rfl dX9_recruit_25 ?_
          refine lv_aload_n hx hb dX9_recruit_28 rfl (lv_at hl 0 rfl) ?_
          refine va_get (D := D) (ci := 9) (v := .ref (q 10)) (C := RX9) (T := TX9) (N := 18) hx hb hts inX9 hown hK hP 0 rfl rfl 3 (by decide) lk25 (fun _ h9 => h9) rfl dX9_recruit_29 ?_
          refine lv_iload hx hb dX9_recruit_32 (lv_at hl 4 rfl) ?_
          refine lv_aload_n hx hb dX9_recruit_34 rfl (lv_at hl 0 rfl) ?_
          obtain ⟨r10, hc11, hf⟩ := zz_b1s hf
          refine zz_ji0 (va_runV (As := []) (rest := [.int x5, .ref (q 10), .ref (q 38)]) hfx (zc_X9_presentSight l D tb q k F  z6 r10 hc11 H.size) (cwV 0 hts gX9_recruit_X9_presentSight rfl rfl rfl (by decide +kernel) ⟨Nat.le_of_ble_eq_true rfl, Nat.le_of_ble_eq_true rfl⟩) (zz_pre0V hK hP hD hS hA hE 0 rfl rfl rfl) rfl rfl hl.1 rfl (lv_room (Nat.le_of_ble_eq_true rfl)) dX9_recruit_35 ⟨Nat.zero_le _, Nat.zero_le _⟩) hD hS hA (fun H locs hP hD hS => ?_)
          obtain ⟨f12, f13, f14, f15, hc16, hf⟩ := zz_b4s hf
          obtain ⟨S17, hS17, hf⟩ := zz_lts hf
          refine zz_jv (va_runV (As := [.ref (q 10), .int x5, .int r10]) (rest := []) hfx (zc_X0_lay l D tb (q 38) (q 39) (q 40) (q 41) (q 10) (q 11) (k 39) (k 40) (k 41) (k 11) F x5 r10 (zz_gI z6 22) (zz_gA z6 19) (zz_gL z6 3) (zz_gA z6 20) (zz_gI z6 3) (zz_gI z6 4) (zz_gL z6 0 0) (zz_gA z6 5) f12 f13 f14 f15 hc16 H.size) (cwV 3 hts gX9_recruit_X0_lay rfl rfl rfl (by decide +kernel) ⟨Nat.le_of_ble_eq_true rfl, Nat.le_of_ble_eq_true rfl⟩) (zz_preV hK hP hD hS hA hE [38, 39, 40, 41, 10, 11] [23, 24, 25, 6] rfl (by decide) rfl 38 rfl rfl rfl) rfl rfl hl.1 rfl (lv_room (Nat.le_of_ble_eq_true rfl)) dX9_recruit_38 ⟨Nat.zero_le _, Nat.zero_le _⟩) hP hD hS hA [38, 39, 40, 41, 10, 11] rfl rfl (fun H locs hP hD hS => ?_)
          have hP : va_P D vwCl (zw_9 q k S17) H := by rw [hS17]; exact hP
          have hD : va_D A (zw_9 q k S17) := by rw [hS17]; exact hD
          refine lv_aload_n hx hb dX9_recruit_41 rfl (lv_at hl 0 rfl) ?_
          refine va_get (D := D) (ci := 9) (v := .ref (q 42)) (C := RX9) (T := TX9) (N := 18) hx hb hts inX9 hown hK hP 0 rfl rfl 12 (by decide) lk76 (fun _ h9 => h9) rfl dX9_recruit_42 ?_
          refine lv_aload_n hx hb dX9_recruit_45 rfl (lv_at hl 0 rfl) ?_
          refine va_get (D := D) (ci := 9) (v := .ref (q 38)) (C := RX9) (T := TX9) (N := 18) hx hb hts inX9 hown hK hP 0 rfl rfl 11 (by decide) lk73 (fun _ h9 => h9) rfl dX9_recruit_46 ?_
          refine lv_aload_n hx hb dX9_recruit_49 rfl (lv_at hl 0 rfl) ?_
          refine va_get (D := D) (ci := 9) (v := .ref (q 9)) (C := RX9) (T := TX9) (N := 18) hx hb hts inX9 hown hK hP 0 rfl rfl 2 (by decide) lk19 (fun _ h9 => h9) rfl dX9_recruit_50 ?_
          refine lv_iconst (v := (0 : Int32)) hx hb dX9_recruit_53 (by decide) ?_
          refine va_iald hx hb hK hP 9 5 rfl rfl (show zz_in (0 : Int32) 4 by decide) dX9_recruit_54 ?_
          refine lv_aload_n hx hb dX9_recruit_55 rfl (lv_at hl 0 rfl) ?_
          refine va_get (D := D) (ci := 9) (v := .ref (q 12)) (C := RX9) (T := TX9) (N := 18) hx hb hts inX9 hown hK hP 0 rfl rfl 4 (by decide) lk32 (fun _ h9 => h9) rfl dX9_recruit_56 ?_
          obtain ⟨f18, f19, hc20, hf⟩ := zz_b2s hf
          obtain ⟨S21, hS21, hf⟩ := zz_lts hf
          refine zz_jv (va_runV (As := [.ref (q 38), .int ((zz_gA S17 4) (Int32.toNatClampNeg (0 : Int32))), .ref (q 12)]) (rest := []) hfx (zc_X2_walk l D tb (q 42) (q 43) (q 44) (q 38) (q 39) (q 40) (q 41) (q 12) (q 13) (k 43) (k 44) (k 39) (k 40) (k 41) (k 13) F ((zz_gA S17 4) (Int32.toNatClampNeg (0 : Int32))) (zz_gA S17 21) (zz_gL S17 4) (zz_gI S17 22) (zz_gA S17 19) (zz_gL S17 3) (zz_gA S17 20) (zz_gI S17 5) (zz_gA S17 6) f18 f19 hc20 H.size) (cwV 3 hts gX9_recruit_X2_walk rfl rfl rfl (by decide +kernel) ⟨Nat.le_of_ble_eq_true rfl, Nat.le_of_ble_eq_true rfl⟩) (zz_preV hK hP hD hS hA hE [42, 43, 44, 38, 39, 40, 41, 12, 13] [26, 27, 23, 24, 25, 7] rfl (by decide) rfl 42 rfl rfl rfl) rfl rfl hl.1 rfl (lv_room (Nat.le_of_ble_eq_true rfl)) dX9_recruit_59 ⟨Nat.zero_le _, Nat.zero_le _⟩) hP hD hS hA [42, 43, 44, 38, 39, 40, 41, 12, 13] rfl rfl (fun H locs hP hD hS => ?_)
          have hP : va_P D vwCl (zw_9 q k S21) H := by rw [hS21]; exact hP
          have hD : va_D A (zw_9 q k S21) := by rw [hS21]; exact hD
          refine lv_aload_n hx hb dX9_recruit_62 rfl (lv_at hl 0 rfl) ?_
          refine va_get (D := D) (ci := 9) (v := .ref (q 14)) (C := RX9) (T := TX9) (N := 18) hx hb hts inX9 hown hK hP 0 rfl rfl 5 (by decide) lk39 (fun _ h9 => h9) rfl dX9_recruit_63 ?_
          refine lv_aload_n hx hb dX9_recruit_66 rfl (lv_at hl 0 rfl) ?_
          refine va_get (D := D) (ci := 9) (v := .ref (q 10)) (C := RX9) (T := TX9) (N := 18) hx hb hts inX9 hown hK hP 0 rfl rfl 3 (by decide) lk25 (fun _ h9 => h9) rfl dX9_recruit_67 ?_
          refine lv_aload_n hx hb dX9_recruit_70 rfl (lv_at hl 0 rfl) ?_
          refine va_get (D := D) (ci := 9) (v := .ref (q 42)) (C := RX9) (T := TX9) (N := 18) hx hb hts inX9 hown hK hP 0 rfl rfl 12 (by decide) lk76 (fun _ h9 => h9) rfl dX9_recruit_71 ?_
          obtain ⟨r22, hc23, hf⟩ := zz_b1s hf
          refine zz_ji (va_runV (As := [.ref (q 10), .ref (q 42)]) (rest := []) hfx (zc_X7_howManyTake l D tb (q 14) (q 15) (q 16) (q 10) (q 11) (q 42) (q 43) (q 44) (k 15) (k 16) (k 11) (k 43) (k 44) F  (zz_gI S21 6) (zz_gA S21 7) (zz_gA S21 8) (zz_gI S21 3) (zz_gI S21 4) (zz_gL S21 0 0) (zz_gA S21 5) (zz_gA S21 21) (zz_gL S21 4) r22 hc23 H.size) (cwV 2 hts gX9_recruit_X7_howManyTake rfl rfl rfl (by decide +kernel) ⟨Nat.le_of_ble_eq_true rfl, Nat.le_of_ble_eq_true rfl⟩) (zz_preV hK hP hD hS hA hE [14, 15, 16, 10, 11, 42, 43, 44] [8, 9, 6, 26, 27] rfl (by decide) rfl 14 rfl rfl rfl) rfl rfl hl.1 rfl (lv_room (Nat.le_of_ble_eq_true rfl)) dX9_recruit_74 ⟨Nat.zero_le _, Nat.zero_le _⟩) hP hD hS hA [14, 15, 16, 10, 11, 42, 43, 44] rfl rfl (fun H locs hP hD hS => ?_)
          have hP : va_P D vwCl (zw_9 q k S21) H := hP
          have hD : va_D A (zw_9 q k S21) := hD
          refine lv_istore (lv' := [(5, .int r22), (0, .ref (q 0)), (1, .int u0), (2, .int x3), (3, .int x4), (4, .int x5)]) hx hb dX9_recruit_77 hl (by decide) rfl (fun ls hl => ?_)
          refine lv_iload_n hx hb dX9_recruit_79 rfl (lv_at hl 3 rfl) ?_
          refine lv_iconst (v := (-1 : Int32)) hx hb dX9_recruit_80 (by decide) ?_
          obtain ⟨v24, hv24, hf⟩ := zz_lts hf
          obtain ⟨v25, hv25, hf⟩ := zz_lts hf
          have hK26 : ∀ ls : Array Slot, lv_has ls 6 [(3, .int v24), (2, .int v25), (0, .ref (q 0)), (1, .int u0), (4, .int x5)] → W p l e rmX9_recruit s m args below meth c H locs 0 0 Q (F0 m 96 ls []) := by
            intro ls hl
            obtain ⟨v27, hv27, hf⟩ := zz_lts hf
            refine lv_iinc (v := v27) (lv' := [(4, .int v27), (3, .int v24), (2, .int v25), (0, .ref (q 0)), (1, .int u0)]) hx hb dX9_recruit_96 hl (k := 4) rfl (by rw [hv27]; rfl) (by decide) rfl (fun ls hl => ?_)
            refine lv_goto (tgt := 17) hx hb dX9_recruit_99 (by decide) ?_
            exact ihkL17_6 v25 v24 v27 S21 _ _ hP hD hS ls (lv_sub hl [3, 4, 2, 1, 0] rfl) hf
          refine lv_icmp_eq (tgt := 90) hx hb dX9_recruit_81 (by decide) (fun c81 => ?_) (fun c81 => ?_)
          · refine lv_iload hx hb dX9_recruit_90 (lv_at hl 5 rfl) ?_
            refine lv_istore_n (lv' := [(2, .int x5), (5, .int r22), (0, .ref (q 0)), (1, .int u0), (3, .int x4), (4, .int x5)]) hx hb dX9_recruit_92 rfl hl (by decide) rfl (fun ls hl => ?_)
            refine lv_iload hx hb dX9_recruit_93 (lv_at hl 1 rfl) ?_
            refine lv_istore_n (lv' := [(3, .int r22), (2, .int x5), (5, .int r22), (0, .ref (q 0)), (1, .int u0), (4, .int x5)]) hx hb dX9_recruit_95 rfl hl (by decide) rfl (fun ls hl => ?_)
            exact hK26 ls (by have ev24 : v24 = r22 := (by rw [hv24, if_pos c81]); have ev25 : v25 = x5 := (by rw [hv25, if_pos c81]); rw [ev24, ev25]; exact lv_sub hl [0, 1, 3, 4, 5] rfl)
          · refine lv_iload hx hb dX9_recruit_84 (lv_at hl 0 rfl) ?_
            refine lv_iload_n hx hb dX9_recruit_86 rfl (lv_at hl 4 rfl) ?_
            refine lv_icmp_ge (tgt := 96) hx hb dX9_recruit_87 (by decide) (fun c87 => ?_) (fun c87 => ?_)
            · exact hK26 ls (by have ev24 : v24 = x4 := (by rw [hv24, if_neg c81, if_pos c87]); have ev25 : v25 = x3 := (by rw [hv25, if_neg c81, if_pos c87]); rw [ev24, ev25]; exact lv_sub hl [4, 3, 1, 2, 5] rfl)
            · refine lv_iload hx hb dX9_recruit_90 (lv_at hl 5 rfl) ?_
              refine lv_istore_n (lv' := [(2, .int x5), (5, .int r22), (0, .ref (q 0)), (1, .int u0), (3, .int x4), (4, .int x5)]) hx hb dX9_recruit_92 rfl hl (by decide) rfl (fun ls hl => ?_)
              refine lv_iload hx hb dX9_recruit_93 (lv_at hl 1 rfl) ?_
              refine lv_istore_n (lv' := [(3, .int r22), (2, .int x5), (5, .int r22), (0, .ref (q 0)), (1, .int u0), (4, .int x5)]) hx hb dX9_recruit_95 rfl hl (by decide) rfl (fun ls hl => ?_)
              exact hK26 ls (by have ev24 : v24 = r22 := (by rw [hv24, if_neg c81, if_neg c87]); have ev25 : v25 = x5 := (by rw [hv25, if_neg c81, if_neg c87]); rw [ev24, ev25]; exact lv_sub hl [0, 1, 3, 4, 5] rfl)
    exact hLkL17_6 F (-1 : Int32) (-1 : Int32) (0 : Int32) S _ _ hP hD hS ls (lv_sub hl [3, 4, 2, 1, 0] rfl) hf
  · have hf := zz_ps hf c4
    refine lv_bipush (v := (-2 : Int32)) hx hb dX9_recruit_7 (by decide) ?_
    obtain ⟨rfl, rfl⟩ := zz_e2 hf
    exact hret _ _ _ _ dX9_recruit_9 hP hD hS
