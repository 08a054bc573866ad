def rmX9_copy : Room := { frames := 1, cells := 0, slots := 0, locals := 64 }
set_option maxHeartbeats 4000000 in
set_option maxRecDepth 100000 in
theorem zc_X9_copy (l : Launch) (D : va_G) (tb : Nat → Nat) (q : Nat → Nat) (k : Nat → ClassId) (F : Nat) (u0 : Int32) (u1 : Int32) (u2 : Int32) (u3 : Int32) (u4 : Int32) (S : zz_M) (r : Int32) (o1 : zz_M) (hf : pX9_copy F u0 u1 u2 u3 u4 S = some (r, o1)) : zz_Mi l yX9_copy wsX9_copy rmX9_copy D tb [((k 1), .object "CatBeat$Text"), ((k 3), .int), ((k 5), .int), ((k 7), .int), ((k 8), .int), ((k 9), .int), ((k 11), .int), ((k 13), .int), ((k 15), .int), ((k 16), .int), ((k 18), .int), ((k 19), .int), ((k 20), .object "CatBeat$Sheet"), ((k 22), .int), ((k 24), .int), ((k 26), .int), ((k 28), .int), ((k 30), .int), ((k 31), .long), ((k 32), .boolean), ((k 34), .int), ((k 35), .long), ((k 37), .int), ((k 39), .int), ((k 40), .long), ((k 41), .boolean), ((k 43), .int), ((k 44), .long), ((k 46), .long), ((k 47), .int)] [.ref (q 0), .int u0, .int u1, .int u2, .int u3, .int u4] (zw_9 q k S) (zw_9 q k o1) r := by
  refine zz_ofi (cc := cX9_copy) (maxL := 8) (by decide) rfl (Nat.le_of_ble_eq_true rfl) ?_
  intro p e s m args below meth c A Q hfx hK hA hE hret H locs hP hD hS ls hl
  obtain ⟨hx, hb, hml, hown, hts⟩ := id hfx
  have inX9 : ∀ w ∈ u_ws RX9 TX9 18, w ∈ wsX9_copy := by decide +kernel
  have inX5 : ∀ w ∈ u_ws RX5 TX5 4, w ∈ wsX9_copy := by decide +kernel
  have lk52 := hts (.fieldLink RX9 52 "CatBeat" "sheets" "[LCatBeat$Sheet;") (by decide +kernel)
  have lk235 := hts (.fieldLink RX9 235 "CatBeat$Sheet" "lost" "Z") (by decide +kernel)
  have lk304 := hts (.fieldLink RX9 304 "CatBeat$Sheet" "form" "I") (by decide +kernel)
  have lk301 := hts (.fieldLink RX9 301 "CatBeat$Sheet" "items" "[I") (by decide +kernel)
  have lkm310 := hts (.methodLink RX9 310 arraycopyName) (by decide +kernel)
  have hl : lv_has ls 8 [(0, .ref (q 0)), (1, .int u0), (2, .int u1), (3, .int u2), (4, .int u3), (5, .int u4)] := hl
  unfold pX9_copy at hf
  refine lv_aload_n hx hb dX9_copy_0 rfl (lv_at hl 0 rfl) ?_
  refine lv_iload_n hx hb dX9_copy_1 rfl (lv_at hl 1 rfl) ?_
  obtain ⟨r1, hc2, hf⟩ := zz_b1s hf
  refine zz_ji0 (va_runV (As := [.int u0]) (rest := []) hfx (zc_X9_isSheet l D tb q k F u0 S r1 hc2 H.size) (cwV 1 hts gX9_copy_X9_isSheet rfl rfl rfl (by decide +kernel) ⟨Nat.le_of_ble_eq_true rfl, Nat.le_of_ble_eq_true rfl⟩) (zz_pre0V hK hP hD hS hA hE 0 rfl rfl rfl) rfl rfl hl.1 rfl (lv_room (Nat.le_of_ble_eq_true rfl)) dX9_copy_2 ⟨Nat.zero_le _, Nat.zero_le _⟩) hD hS hA (fun H locs hP hD hS => ?_)
  obtain ⟨j16_3, hj16_3, hf⟩ := zz_lts hf
  have Kj16_3 : ∀  (H : Heap) (locs : List Loc), va_P D vwCl (zw_9 q k S) H → va_D A (zw_9 q k S) → va_S A s.heap H locs → ∀ ls : Array Slot, lv_has ls 8 [] → j16_3 () = some (r, o1) → W p l e rmX9_copy s m args below meth c H locs 0 0 Q (F0 m 16 ls []) := by
    intro  H locs hP hD hS ls hl hf
    rw [hj16_3] at hf
    refine lv_bipush (v := (-2 : Int32)) hx hb dX9_copy_16 (by decide) ?_
    obtain ⟨rfl, rfl⟩ := zz_e2 hf
    exact hret _ _ _ _ dX9_copy_18 hP hD hS
  refine lv_if_eq (tgt := 16) hx hb dX9_copy_5 (by decide) (fun c5 => ?_) (fun c5 => ?_)
  · have hf := zz_ps hf c5
    exact Kj16_3  _ _ hP hD hS ls (lv_sub hl [] rfl) hf
  · have hf := zz_ng hf c5
    refine lv_aload_n hx hb dX9_copy_8 rfl (lv_at hl 0 rfl) ?_
    refine lv_iload_n hx hb dX9_copy_9 rfl (lv_at hl 3 rfl) ?_
    obtain ⟨r4, hc5, hf⟩ := zz_b1s hf
    refine zz_ji0 (va_runV (As := [.int u2]) (rest := []) hfx (zc_X9_isSheet l D tb q k F u2 S r4 hc5 H.size) (cwV 1 hts gX9_copy_X9_isSheet rfl rfl rfl (by decide +kernel) ⟨Nat.le_of_ble_eq_true rfl, Nat.le_of_ble_eq_true rfl⟩) (zz_pre0V hK hP hD hS hA hE 0 rfl rfl rfl) rfl rfl hl.1 rfl (lv_room (Nat.le_of_ble_eq_true rfl)) dX9_copy_10 ⟨Nat.zero_le _, Nat.zero_le _⟩) hD hS hA (fun H locs hP hD hS => ?_)
    refine lv_if_ne (tgt := 19) hx hb dX9_copy_13 (by decide) (fun c13 => ?_) (fun c13 => ?_)
    · have hf := zz_ng hf c13
      refine lv_aload_n hx hb dX9_copy_19 rfl (lv_at hl 0 rfl) ?_
      refine va_get (D := D) (ci := 9) (v := .ref (q 20)) (C := RX9) (T := TX9) (N := 18) hx hb hts inX9 hown hK hP 0 rfl rfl 7 (by decide) lk52 (fun _ h9 => h9) rfl dX9_copy_20 ?_
      refine lv_iload_n hx hb dX9_copy_23 rfl (lv_at hl 1 rfl) ?_
      by_cases ci24_0 : u0 = (0 : Int32)
      · have hf := zz_ps hf ci24_0
        have hl : lv_has ls 8 [(0, .ref (q 0)), (1, .int (0 : Int32)), (2, .int u1), (3, .int u2), (4, .int u3), (5, .int u4)] := ci24_0 ▸ hl
        refine zz_ti (y := (0 : Int32)) ci24_0.symm ?_
        refine va_aldq hx hb hK hP 20 12 rfl rfl (show zz_in (0 : Int32) 4 by decide) dX9_copy_24 ?_
        refine W.eq (g2 := F0 m 25 ls [.ref (q 21)]) rfl ?_
        refine lv_astore (lv' := [(6, .ref (q 21)), (0, .ref (q 0)), (1, .int (0 : Int32)), (2, .int u1), (3, .int u2), (4, .int u3), (5, .int u4)]) hx hb dX9_copy_25 hl (by decide) rfl (fun ls hl => ?_)
        refine lv_aload_n hx hb dX9_copy_27 rfl (lv_at hl 1 rfl) ?_
        refine va_get (D := D) (ci := 9) (v := .ref (q 20)) (C := RX9) (T := TX9) (N := 18) hx hb hts inX9 hown hK hP 0 rfl rfl 7 (by decide) lk52 (fun _ h9 => h9) rfl dX9_copy_28 ?_
        refine lv_iload_n hx hb dX9_copy_31 rfl (lv_at hl 4 rfl) ?_
        by_cases ci32_0 : u2 = (0 : Int32)
        · have hf := zz_ps hf ci32_0
          have hl : lv_has ls 8 [(6, .ref (q 21)), (0, .ref (q 0)), (1, .int (0 : Int32)), (2, .int u1), (3, .int (0 : Int32)), (4, .int u3), (5, .int u4)] := ci32_0 ▸ hl
          refine zz_ti (y := (0 : Int32)) ci32_0.symm ?_
          refine va_aldq hx hb hK hP 20 12 rfl rfl (show zz_in (0 : Int32) 4 by decide) dX9_copy_32 ?_
          refine W.eq (g2 := F0 m 33 ls [.ref (q 21)]) rfl ?_
          refine lv_astore (lv' := [(7, .ref (q 21)), (6, .ref (q 21)), (0, .ref (q 0)), (1, .int (0 : Int32)), (2, .int u1), (3, .int (0 : Int32)), (4, .int u3), (5, .int u4)]) hx hb dX9_copy_33 hl (by decide) rfl (fun ls hl => ?_)
          refine lv_aload hx hb dX9_copy_35 (lv_at hl 1 rfl) ?_
          refine va_get (D := D) (ci := 5) (v := .int (zz_gI S 8)) (C := RX5) (T := TX5) (N := 4) hx hb hts inX5 hown hK hP 21 rfl rfl 1 (by decide) lk235 (fun _ h9 => h9) rfl dX9_copy_37 ?_
          obtain ⟨j51_6, hj51_6, hf⟩ := zz_lts hf
          have Kj51_6 : ∀  (H : Heap) (locs : List Loc), va_P D vwCl (zw_9 q k S) H → va_D A (zw_9 q k S) → va_S A s.heap H locs → ∀ ls : Array Slot, lv_has ls 8 [(0, .ref (q 0))] → j51_6 () = some (r, o1) → W p l e rmX9_copy s m args below meth c H locs 0 0 Q (F0 m 51 ls []) := by
            intro  H locs hP hD hS ls hl hf
            rw [hj51_6] at hf
            refine lv_aload_n hx hb dX9_copy_51 rfl (lv_at hl 0 rfl) ?_
            refine lv_iconst (v := (1 : Int32)) hx hb dX9_copy_52 (by decide) ?_
            obtain ⟨r7, S8, hc9, hf⟩ := zz_b2s hf
            refine zz_ji0 (va_runV (As := [.int (1 : Int32)]) (rest := []) hfx (zc_X9_found l D tb q k F (1 : Int32) S r7 S8 hc9 H.size) (cwV 1 hts gX9_copy_X9_found rfl rfl rfl (by decide +kernel) ⟨Nat.le_of_ble_eq_true rfl, Nat.le_of_ble_eq_true rfl⟩) (zz_pre0V hK hP hD hS hA hE 0 rfl rfl rfl) rfl rfl hl.1 rfl (lv_room (Nat.le_of_ble_eq_true rfl)) dX9_copy_53 ⟨Nat.zero_le _, Nat.zero_le _⟩) hD hS hA (fun H locs hP hD hS => ?_)
            obtain ⟨rfl, rfl⟩ := zz_e2 hf
            exact hret _ _ _ _ dX9_copy_56 hP hD hS
          refine lv_if_ne (tgt := 51) hx hb dX9_copy_40 (by decide) (fun c40 => ?_) (fun c40 => ?_)
          · have hf := zz_ng hf c40
            exact Kj51_6  _ _ hP hD hS ls (lv_sub hl [2] rfl) hf
          · have hf := zz_ps hf c40
            refine lv_aload hx hb dX9_copy_43 (lv_at hl 0 rfl) ?_
            refine va_get (D := D) (ci := 5) (v := .int (zz_gI S 8)) (C := RX5) (T := TX5) (N := 4) hx hb hts inX5 hown hK hP 21 rfl rfl 1 (by decide) lk235 (fun _ h9 => h9) rfl dX9_copy_45 ?_
            refine lv_if_eq (tgt := 57) hx hb dX9_copy_48 (by decide) (fun c48 => ?_) (fun c48 => ?_)
            · have hf := zz_ps hf c48
              refine lv_aload hx hb dX9_copy_57 (lv_at hl 1 rfl) ?_
              refine va_get (D := D) (ci := 5) (v := .int (zz_gI S 9)) (C := RX5) (T := TX5) (N := 4) hx hb hts inX5 hown hK hP 21 rfl rfl 2 (by decide) lk304 (fun _ h9 => h9) rfl dX9_copy_59 ?_
              refine lv_aload hx hb dX9_copy_62 (lv_at hl 0 rfl) ?_
              refine va_get (D := D) (ci := 5) (v := .int (zz_gI S 9)) (C := RX5) (T := TX5) (N := 4) hx hb hts inX5 hown hK hP 21 rfl rfl 2 (by decide) lk304 (fun _ h9 => h9) rfl dX9_copy_64 ?_
              refine lv_icmp_eq (tgt := 76) hx hb dX9_copy_67 (by decide) (fun c67 => ?_) (fun c67 => ?_)
              · have hf := zz_ps hf c67
                refine lv_aload hx hb dX9_copy_76 (lv_at hl 1 rfl) ?_
                refine lv_iload_n hx hb dX9_copy_78 rfl (lv_at hl 4 rfl) ?_
                refine lv_iload hx hb dX9_copy_79 (lv_at hl 7 rfl) ?_
                obtain ⟨r10, hc11, hf⟩ := zz_b1s hf
                refine zz_ji (va_runV (As := [.int u1, .int u4]) (rest := []) hfx (zc_X5_hasItems l D tb (q 21) (q 22) (k 22) F u1 u4 (zz_gI S 8) (zz_gI S 9) (zz_gI S 10) (zz_gA S 11) r10 hc11 H.size) (cwV 2 hts gX9_copy_X5_hasItems rfl rfl rfl (by decide +kernel) ⟨Nat.le_of_ble_eq_true rfl, Nat.le_of_ble_eq_true rfl⟩) (zz_preV hK hP hD hS hA hE [21, 22] [13] rfl (by decide) rfl 21 rfl rfl rfl) rfl rfl hl.1 rfl (lv_room (Nat.le_of_ble_eq_true rfl)) dX9_copy_81 ⟨Nat.zero_le _, Nat.zero_le _⟩) hP hD hS hA [21, 22] rfl rfl (fun H locs hP hD hS => ?_)
                have hP : va_P D vwCl (zw_9 q k S) H := hP
                have hD : va_D A (zw_9 q k S) := hD
                obtain ⟨j99_12, hj99_12, hf⟩ := zz_lts hf
                have Kj99_12 : ∀  (H : Heap) (locs : List Loc), va_P D vwCl (zw_9 q k S) H → va_D A (zw_9 q k S) → va_S A s.heap H locs → ∀ ls : Array Slot, lv_has ls 8 [(0, .ref (q 0))] → j99_12 () = some (r, o1) → W p l e rmX9_copy s m args below meth c H locs 0 0 Q (F0 m 99 ls []) := by
                  intro  H locs hP hD hS ls hl hf
                  rw [hj99_12] at hf
                  refine lv_aload_n hx hb dX9_copy_99 rfl (lv_at hl 0 rfl) ?_
                  refine lv_iconst (v := (2 : Int32)) hx hb dX9_copy_100 (by decide) ?_
                  obtain ⟨r13, S14, hc15, hf⟩ := zz_b2s hf
                  refine zz_ji0 (va_runV (As := [.int (2 : Int32)]) (rest := []) hfx (zc_X9_found l D tb q k F (2 : Int32) S r13 S14 hc15 H.size) (cwV 1 hts gX9_copy_X9_found rfl rfl rfl (by decide +kernel) ⟨Nat.le_of_ble_eq_true rfl, Nat.le_of_ble_eq_true rfl⟩) (zz_pre0V hK hP hD hS hA hE 0 rfl rfl rfl) rfl rfl hl.1 rfl (lv_room (Nat.le_of_ble_eq_true rfl)) dX9_copy_101 ⟨Nat.zero_le _, Nat.zero_le _⟩) hD hS hA (fun H locs hP hD hS => ?_)
                  obtain ⟨rfl, rfl⟩ := zz_e2 hf
                  exact hret _ _ _ _ dX9_copy_104 hP hD hS
                refine lv_if_eq (tgt := 99) hx hb dX9_copy_84 (by decide) (fun c84 => ?_) (fun c84 => ?_)
                · have hf := zz_ps hf c84
                  exact Kj99_12  _ _ hP hD hS ls (lv_sub hl [2] rfl) hf
                · have hf := zz_ng hf c84
                  refine lv_aload hx hb dX9_copy_87 (lv_at hl 0 rfl) ?_
                  refine lv_iload hx hb dX9_copy_89 (lv_at hl 6 rfl) ?_
                  refine lv_iload hx hb dX9_copy_91 (lv_at hl 7 rfl) ?_
                  obtain ⟨r16, hc17, hf⟩ := zz_b1s hf
                  refine zz_ji (va_runV (As := [.int u3, .int u4]) (rest := []) hfx (zc_X5_hasItems l D tb (q 21) (q 22) (k 22) F u3 u4 (zz_gI S 8) (zz_gI S 9) (zz_gI S 10) (zz_gA S 11) r16 hc17 H.size) (cwV 2 hts gX9_copy_X5_hasItems rfl rfl rfl (by decide +kernel) ⟨Nat.le_of_ble_eq_true rfl, Nat.le_of_ble_eq_true rfl⟩) (zz_preV hK hP hD hS hA hE [21, 22] [13] rfl (by decide) rfl 21 rfl rfl rfl) rfl rfl hl.1 rfl (lv_room (Nat.le_of_ble_eq_true rfl)) dX9_copy_93 ⟨Nat.zero_le _, Nat.zero_le _⟩) hP hD hS hA [21, 22] rfl rfl (fun H locs hP hD hS => ?_)
                  have hP : va_P D vwCl (zw_9 q k S) H := hP
                  have hD : va_D A (zw_9 q k S) := hD
                  refine lv_if_ne (tgt := 105) hx hb dX9_copy_96 (by decide) (fun c96 => ?_) (fun c96 => ?_)
                  · have hf := zz_ng hf c96
                    refine lv_aload hx hb dX9_copy_105 (lv_at hl 1 rfl) ?_
                    refine va_get (D := D) (ci := 5) (v := .ref (q 22)) (C := RX5) (T := TX5) (N := 4) hx hb hts inX5 hown hK hP 21 rfl rfl 0 (by decide) lk301 (fun _ h9 => h9) rfl dX9_copy_107 ?_
                    refine lv_iload_n hx hb dX9_copy_110 rfl (lv_at hl 4 rfl) ?_
                    refine lv_aload hx hb dX9_copy_111 (lv_at hl 0 rfl) ?_
                    refine va_get (D := D) (ci := 5) (v := .ref (q 22)) (C := RX5) (T := TX5) (N := 4) hx hb hts inX5 hown hK hP 21 rfl rfl 0 (by decide) lk301 (fun _ h9 => h9) rfl dX9_copy_113 ?_
                    refine lv_iload hx hb dX9_copy_116 (lv_at hl 6 rfl) ?_
                    refine lv_iload hx hb dX9_copy_118 (lv_at hl 7 rfl) ?_
                    obtain ⟨hg18, hf⟩ := zz_gd hf
                    obtain ⟨hg19, hf⟩ := zz_gd hf
                    obtain ⟨hg20, hf⟩ := zz_gd hf
                    obtain ⟨hg21, hf⟩ := zz_gd hf
                    obtain ⟨hg22, hf⟩ := zz_gd hf
                    obtain ⟨S23, hS23, hf⟩ := zz_lts hf
                    refine va_copyi hx hb (hml.trans hl.1.symm) hown lkm310 (hts (.native arraycopyName) (by decide +kernel)) (hts (.static arraycopyName) (by decide +kernel)) (hts (.initialized "java/lang/System") (by decide +kernel)) hK hP hD hS 22 22 13 13 rfl rfl rfl rfl rfl hg18 hg19 hg20 hg21 hg22 (fun _ _ => rfl) (Nat.le_of_ble_eq_true rfl) (Nat.le_of_ble_eq_true rfl) dX9_copy_120 (fun H locs hP hD hS => ?_)
                    have hP : va_P D vwCl (zw_9 q k S23) H := by rw [hS23]; exact hP
                    have hD : va_D A (zw_9 q k S23) := by rw [hS23]; exact hD
                    refine lv_iconst (v := (1 : Int32)) hx hb dX9_copy_123 (by decide) ?_
                    obtain ⟨rfl, rfl⟩ := zz_e2 hf
                    exact hret _ _ _ _ dX9_copy_124 hP hD hS
                  · have hf := zz_ps hf c96
                    exact Kj99_12  _ _ hP hD hS ls (lv_sub hl [2] rfl) hf
              · have hf := zz_ng hf c67
                refine lv_aload_n hx hb dX9_copy_70 rfl (lv_at hl 2 rfl) ?_
                refine lv_iconst (v := (4 : Int32)) hx hb dX9_copy_71 (by decide) ?_
                obtain ⟨r24, S25, hc26, hf⟩ := zz_b2s hf
                refine zz_ji0 (va_runV (As := [.int (4 : Int32)]) (rest := []) hfx (zc_X9_found l D tb q k F (4 : Int32) S r24 S25 hc26 H.size) (cwV 1 hts gX9_copy_X9_found rfl rfl rfl (by decide +kernel) ⟨Nat.le_of_ble_eq_true rfl, Nat.le_of_ble_eq_true rfl⟩) (zz_pre0V hK hP hD hS hA hE 0 rfl rfl rfl) rfl rfl hl.1 rfl (lv_room (Nat.le_of_ble_eq_true rfl)) dX9_copy_72 ⟨Nat.zero_le _, Nat.zero_le _⟩) hD hS hA (fun H locs hP hD hS => ?_)
                obtain ⟨rfl, rfl⟩ := zz_e2 hf
                exact hret _ _ _ _ dX9_copy_75 hP hD hS
            · have hf := zz_ng hf c48
              exact Kj51_6  _ _ hP hD hS ls (lv_sub hl [2] rfl) hf
        have hf := zz_ng hf ci32_0
        by_cases ci32_1 : u2 = (1 : Int32)
        · have hf := zz_ps hf ci32_1
          have hl : lv_has ls 8 [(6, .ref (q 21)), (0, .ref (q 0)), (1, .int (0 : Int32)), (2, .int u1), (3, .int (1 : Int32)), (4, .int u3), (5, .int u4)] := ci32_1 ▸ hl
          refine zz_ti (y := (1 : Int32)) ci32_1.symm ?_
          refine va_aldq hx hb hK hP 20 12 rfl rfl (show zz_in (1 : Int32) 4 by decide) dX9_copy_32 ?_
          refine W.eq (g2 := F0 m 33 ls [.ref (q 23)]) rfl ?_
          refine lv_astore (lv' := [(7, .ref (q 23)), (6, .ref (q 21)), (0, .ref (q 0)), (1, .int (0 : Int32)), (2, .int u1), (3, .int (1 : Int32)), (4, .int u3), (5, .int u4)]) hx hb dX9_copy_33 hl (by decide) rfl (fun ls hl => ?_)
          refine lv_aload hx hb dX9_copy_35 (lv_at hl 1 rfl) ?_
          refine va_get (D := D) (ci := 5) (v := .int (zz_gI S 8)) (C := RX5) (T := TX5) (N := 4) hx hb hts inX5 hown hK hP 21 rfl rfl 1 (by decide) lk235 (fun _ h9 => h9) rfl dX9_copy_37 ?_
          obtain ⟨j51_27, hj51_27, hf⟩ := zz_lts hf
          have Kj51_27 : ∀  (H : Heap) (locs : List Loc), va_P D vwCl (zw_9 q k S) H → va_D A (zw_9 q k S) → va_S A s.heap H locs → ∀ ls : Array Slot, lv_has ls 8 [(0, .ref (q 0))] → j51_27 () = some (r, o1) → W p l e rmX9_copy s m args below meth c H locs 0 0 Q (F0 m 51 ls []) := by
            intro  H locs hP hD hS ls hl hf
            rw [hj51_27] at hf
            refine lv_aload_n hx hb dX9_copy_51 rfl (lv_at hl 0 rfl) ?_
            refine lv_iconst (v := (1 : Int32)) hx hb dX9_copy_52 (by decide) ?_
            obtain ⟨r28, S29, hc30, hf⟩ := zz_b2s hf
            refine zz_ji0 (va_runV (As := [.int (1 : Int32)]) (rest := []) hfx (zc_X9_found l D tb q k F (1 : Int32) S r28 S29 hc30 H.size) (cwV 1 hts gX9_copy_X9_found rfl rfl rfl (by decide +kernel) ⟨Nat.le_of_ble_eq_true rfl, Nat.le_of_ble_eq_true rfl⟩) (zz_pre0V hK hP hD hS hA hE 0 rfl rfl rfl) rfl rfl hl.1 rfl (lv_room (Nat.le_of_ble_eq_true rfl)) dX9_copy_53 ⟨Nat.zero_le _, Nat.zero_le _⟩) hD hS hA (fun H locs hP hD hS => ?_)
            obtain ⟨rfl, rfl⟩ := zz_e2 hf
            exact hret _ _ _ _ dX9_copy_56 hP hD hS
          refine lv_if_ne (tgt := 51) hx hb dX9_copy_40 (by decide) (fun c40 => ?_) (fun c40 => ?_)
          · have hf := zz_ng hf c40
            exact Kj51_27  _ _ hP hD hS ls (lv_sub hl [2] rfl) hf
          · have hf := zz_ps hf c40
            refine lv_aload hx hb dX9_copy_43 (lv_at hl 0 rfl) ?_
            refine va_get (D := D) (ci := 5) (v := .int (zz_gI S 11)) (C := RX5) (T := TX5) (N := 4) hx hb hts inX5 hown hK hP 23 rfl rfl 1 (by decide) lk235 (fun _ h9 => h9) rfl dX9_copy_45 ?_
            refine lv_if_eq (tgt := 57) hx hb dX9_copy_48 (by decide) (fun c48 => ?_) (fun c48 => ?_)
            · have hf := zz_ps hf c48
              refine lv_aload hx hb dX9_copy_57 (lv_at hl 1 rfl) ?_
              refine va_get (D := D) (ci := 5) (v := .int (zz_gI S 9)) (C := RX5) (T := TX5) (N := 4) hx hb hts inX5 hown hK hP 21 rfl rfl 2 (by decide) lk304 (fun _ h9 => h9) rfl dX9_copy_59 ?_
              refine lv_aload hx hb dX9_copy_62 (lv_at hl 0 rfl) ?_
              refine va_get (D := D) (ci := 5) (v := .int (zz_gI S 12)) (C := RX5) (T := TX5) (N := 4) hx hb hts inX5 hown hK hP 23 rfl rfl 2 (by decide) lk304 (fun _ h9 => h9) rfl dX9_copy_64 ?_
              refine lv_icmp_eq (tgt := 76) hx hb dX9_copy_67 (by decide) (fun c67 => ?_) (fun c67 => ?_)
              · have hf := zz_ps hf c67
                refine lv_aload hx hb dX9_copy_76 (lv_at hl 1 rfl) ?_
                refine lv_iload_n hx hb dX9_copy_78 rfl (lv_at hl 4 rfl) ?_
                refine lv_iload hx hb dX9_copy_79 (lv_at hl 7 rfl) ?_
                obtain ⟨r31, hc32, hf⟩ := zz_b1s hf
                refine zz_ji (va_runV (As := [.int u1, .int u4]) (rest := []) hfx (zc_X5_hasItems l D tb (q 21) (q 22) (k 22) F u1 u4 (zz_gI S 8) (zz_gI S 9) (zz_gI S 10) (zz_gA S 11) r31 hc32 H.size) (cwV 2 hts gX9_copy_X5_hasItems rfl rfl rfl (by decide +kernel) ⟨Nat.le_of_ble_eq_true rfl, Nat.le_of_ble_eq_true rfl⟩) (zz_preV hK hP hD hS hA hE [21, 22] [13] rfl (by decide) rfl 21 rfl rfl rfl) rfl rfl hl.1 rfl (lv_room (Nat.le_of_ble_eq_true rfl)) dX9_copy_81 ⟨Nat.zero_le _, Nat.zero_le _⟩) hP hD hS hA [21, 22] rfl rfl (fun H locs hP hD hS => ?_)
                have hP : va_P D vwCl (zw_9 q k S) H := hP
                have hD : va_D A (zw_9 q k S) := hD
                obtain ⟨j99_33, hj99_33, hf⟩ := zz_lts hf
                have Kj99_33 : ∀  (H : Heap) (locs : List Loc), va_P D vwCl (zw_9 q k S) H → va_D A (zw_9 q k S) → va_S A s.heap H locs → ∀ ls : Array Slot, lv_has ls 8 [(0, .ref (q 0))] → j99_33 () = some (r, o1) → W p l e rmX9_copy s m args below meth c H locs 0 0 Q (F0 m 99 ls []) := by
                  intro  H locs hP hD hS ls hl hf
                  rw [hj99_33] at hf
                  refine lv_aload_n hx hb dX9_copy_99 rfl (lv_at hl 0 rfl) ?_
                  refine lv_iconst (v := (2 : Int32)) hx hb dX9_copy_100 (by decide) ?_
                  obtain ⟨r34, S35, hc36, hf⟩ := zz_b2s hf
                  refine zz_ji0 (va_runV (As := [.int (2 : Int32)]) (rest := []) hfx (zc_X9_found l D tb q k F (2 : Int32) S r34 S35 hc36 H.size) (cwV 1 hts gX9_copy_X9_found rfl rfl rfl (by decide +kernel) ⟨Nat.le_of_ble_eq_true rfl, Nat.le_of_ble_eq_true rfl⟩) (zz_pre0V hK hP hD hS hA hE 0 rfl rfl rfl) rfl rfl hl.1 rfl (lv_room (Nat.le_of_ble_eq_true rfl)) dX9_copy_101 ⟨Nat.zero_le _, Nat.zero_le _⟩) hD hS hA (fun H locs hP hD hS => ?_)
                  obtain ⟨rfl, rfl⟩ := zz_e2 hf
                  exact hret _ _ _ _ dX9_copy_104 hP hD hS
                refine lv_if_eq (tgt := 99) hx hb dX9_copy_84 (by decide) (fun c84 => ?_) (fun c84 => ?_)
                · have hf := zz_ps hf c84
                  exact Kj99_33  _ _ hP hD hS ls (lv_sub hl [2] rfl) hf
                · have hf := zz_ng hf c84
                  refine lv_aload hx hb dX9_copy_87 (lv_at hl 0 rfl) ?_
                  refine lv_iload hx hb dX9_copy_89 (lv_at hl 6 rfl) ?_
                  refine lv_iload hx hb dX9_copy_91 (lv_at hl 7 rfl) ?_
                  obtain ⟨r37, hc38, hf⟩ := zz_b1s hf
                  refine zz_ji (va_runV (As := [.int u3, .int u4]) (rest := []) hfx (zc_X5_hasItems l D tb (q 23) (q 24) (k 24) F u3 u4 (zz_gI S 11) (zz_gI S 12) (zz_gI S 13) (zz_gA S 12) r37 hc38 H.size) (cwV 2 hts gX9_copy_X5_hasItems rfl rfl rfl (by decide +kernel) ⟨Nat.le_of_ble_eq_true rfl, Nat.le_of_ble_eq_true rfl⟩) (zz_preV hK hP hD hS hA hE [23, 24] [14] rfl (by decide) rfl 23 rfl rfl rfl) rfl rfl hl.1 rfl (lv_room (Nat.le_of_ble_eq_true rfl)) dX9_copy_93 ⟨Nat.zero_le _, Nat.zero_le _⟩) hP hD hS hA [23, 24] rfl rfl (fun H locs hP hD hS => ?_)
                  have hP : va_P D vwCl (zw_9 q k S) H := hP
                  have hD : va_D A (zw_9 q k S) := hD
                  refine lv_if_ne (tgt := 105) hx hb dX9_copy_96 (by decide) (fun c96 => ?_) (fun c96 => ?_)
                  · have hf := zz_ng hf c96
                    refine lv_aload hx hb dX9_copy_105 (lv_at hl 1 rfl) ?_
                    refine va_get (D := D) (ci := 5) (v := .ref (q 22)) (C := RX5) (T := TX5) (N := 4) hx hb hts inX5 hown hK hP 21 rfl rfl 0 (by decide) lk301 (fun _ h9 => h9) rfl dX9_copy_107 ?_
                    refine lv_iload_n hx hb dX9_copy_110 rfl (lv_at hl 4 rfl) ?_
                    refine lv_aload hx hb dX9_copy_111 (lv_at hl 0 rfl) ?_
                    refine va_get (D := D) (ci := 5) (v := .ref (q 24)) (C := RX5) (T := TX5) (N := 4) hx hb hts inX5 hown hK hP 23 rfl rfl 0 (by decide) lk301 (fun _ h9 => h9) rfl dX9_copy_113 ?_
                    refine lv_iload hx hb dX9_copy_116 (lv_at hl 6 rfl) ?_
                    refine lv_iload hx hb dX9_copy_118 (lv_at hl 7 rfl) ?_
                    obtain ⟨hg39, hf⟩ := zz_gd hf
                    obtain ⟨hg40, hf⟩ := zz_gd hf
                    obtain ⟨hg41, hf⟩ := zz_gd hf
                    obtain ⟨hg42, hf⟩ := zz_gd hf
                    obtain ⟨hg43, hf⟩ := zz_gd hf
                    obtain ⟨S44, hS44, hf⟩ := zz_lts hf
                    refine va_copyi hx hb (hml.trans hl.1.symm) hown lkm310 (hts (.native arraycopyName) (by decide +kernel)) (hts (.static arraycopyName) (by decide +kernel)) (hts (.initialized "java/lang/System") (by decide +kernel)) hK hP hD hS 22 24 13 14 rfl rfl rfl rfl rfl hg39 hg40 hg41 hg42 hg43 (fun _ _ => rfl) (Nat.le_of_ble_eq_true rfl) (Nat.le_of_ble_eq_true rfl) dX9_copy_120 (fun H locs hP hD hS => ?_)
                    have hP : va_P D vwCl (zw_9 q k S44) H := by rw [hS44]; exact hP
                    have hD : va_D A (zw_9 q k S44) := by rw [hS44]; exact hD
                    refine lv_iconst (v := (1 : Int32)) hx hb dX9_copy_123 (by decide) ?_
                    obtain ⟨rfl, rfl⟩ := zz_e2 hf
                    exact hret _ _ _ _ dX9_copy_124 hP hD hS
                  · have hf := zz_ps hf c96
                    exact Kj99_33  _ _ hP hD hS ls (lv_sub hl [2] rfl) hf
              · have hf := zz_ng hf c67
                refine lv_aload_n hx hb dX9_copy_70 rfl (lv_at hl 2 rfl) ?_
                refine lv_iconst (v := (4 : Int32)) hx hb dX9_copy_71 (by decide) ?_
                obtain ⟨r45, S46, hc47, hf⟩ := zz_b2s hf
                refine zz_ji0 (va_runV (As := [.int (4 : Int32)]) (rest := []) hfx (zc_X9_found l D tb q k F (4 : Int32) S r45 S46 hc47 H.size) (cwV 1 hts gX9_copy_X9_found rfl rfl rfl (by decide +kernel) ⟨Nat.le_of_ble_eq_true rfl, Nat.le_of_ble_eq_true rfl⟩) (zz_pre0V hK hP hD hS hA hE 0 rfl rfl rfl) rfl rfl hl.1 rfl (lv_room (Nat.le_of_ble_eq_true rfl)) dX9_copy_72 ⟨Nat.zero_le _, Nat.zero_le _⟩) hD hS hA (fun H locs hP hD hS => ?_)
                obtain ⟨rfl, rfl⟩ := zz_e2 hf
                exact hret _ _ _ _ dX9_copy_75 hP hD hS
            · have hf := zz_ng hf c48
              exact Kj51_27  _ _ hP hD hS ls (lv_sub hl [2] rfl) hf
        have hf := zz_ng hf ci32_1
        by_cases ci32_2 : u2 = (2 : Int32)
        · have hf := zz_ps hf ci32_2
          have hl : lv_has ls 8 [(6, .ref (q 21)), (0, .ref (q 0)), (1, .int (0 : Int32)), (2, .int u1), (3, .int (2 : Int32)), (4, .int u3), (5, .int u4)] := ci32_2 ▸ hl
          refine zz_ti (y := (2 : Int32)) ci32_2.symm ?_
          refine va_aldq hx hb hK hP 20 12 rfl rfl (show zz_in (2 : Int32) 4 by decide) dX9_copy_32 ?_
          refine W.eq (g2 := F0 m 33 ls [.ref (q 25)]) rfl ?_
          refine lv_astore (lv' := [(7, .ref (q 25)), (6, .ref (q 21)), (0, .ref (q 0)), (1, .int (0 : Int32)), (2, .int u1), (3, .int (2 : Int32)), (4, .int u3), (5, .int u4)]) hx hb dX9_copy_33 hl (by decide) rfl (fun ls hl => ?_)
          refine lv_aload hx hb dX9_copy_35 (lv_at hl 1 rfl) ?_
          refine va_get (D := D) (ci := 5) (v := .int (zz_gI S 8)) (C := RX5) (T := TX5) (N := 4) hx hb hts inX5 hown hK hP 21 rfl rfl 1 (by decide) lk235 (fun _ h9 => h9) rfl dX9_copy_37 ?_
          obtain ⟨j51_48, hj51_48, hf⟩ := zz_lts hf
          have Kj51_48 : ∀  (H : Heap) (locs : List Loc), va_P D vwCl (zw_9 q k S) H → va_D A (zw_9 q k S) → va_S A s.heap H locs → ∀ ls : Array Slot, lv_has ls 8 [(0, .ref (q 0))] → j51_48 () = some (r, o1) → W p l e rmX9_copy s m args below meth c H locs 0 0 Q (F0 m 51 ls []) := by
            intro  H locs hP hD hS ls hl hf
            rw [hj51_48] at hf
            refine lv_aload_n hx hb dX9_copy_51 rfl (lv_at hl 0 rfl) ?_
            refine lv_iconst (v := (1 : Int32)) hx hb dX9_copy_52 (by decide) ?_
            obtain ⟨r49, S50, hc51, hf⟩ := zz_b2s hf
            refine zz_ji0 (va_runV (As := [.int (1 : Int32)]) (rest := []) hfx (zc_X9_found l D tb q k F (1 : Int32) S r49 S50 hc51 H.size) (cwV 1 hts gX9_copy_X9_found rfl rfl rfl (by decide +kernel) ⟨Nat.le_of_ble_eq_true rfl, Nat.le_of_ble_eq_true rfl⟩) (zz_pre0V hK hP hD hS hA hE 0 rfl rfl rfl) rfl rfl hl.1 rfl (lv_room (Nat.le_of_ble_eq_true rfl)) dX9_copy_53 ⟨Nat.zero_le _, Nat.zero_le _⟩) hD hS hA (fun H locs hP hD hS => ?_)
            obtain ⟨rfl, rfl⟩ := zz_e2 hf
            exact hret _ _ _ _ dX9_copy_56 hP hD hS
          refine lv_if_ne (tgt := 51) hx hb dX9_copy_40 (by decide) (fun c40 => ?_) (fun c40 => ?_)
          · have hf := zz_ng hf c40
            exact Kj51_48  _ _ hP hD hS ls (lv_sub hl [2] rfl) hf
          · have hf := zz_ps hf c40
            refine lv_aload hx hb dX9_copy_43 (lv_at hl 0 rfl) ?_
            refine va_get (D := D) (ci := 5) (v := .int (zz_gI S 14)) (C := RX5) (T := TX5) (N := 4) hx hb hts inX5 hown hK hP 25 rfl rfl 1 (by decide) lk235 (fun _ h9 => h9) rfl dX9_copy_45 ?_
            refine lv_if_eq (tgt := 57) hx hb dX9_copy_48 (by decide) (fun c48 => ?_) (fun c48 => ?_)
            · have hf := zz_ps hf c48
              refine lv_aload hx hb dX9_copy_57 (lv_at hl 1 rfl) ?_
              refine va_get (D := D) (ci := 5) (v := .int (zz_gI S 9)) (C := RX5) (T := TX5) (N := 4) hx hb hts inX5 hown hK hP 21 rfl rfl 2 (by decide) lk304 (fun _ h9 => h9) rfl dX9_copy_59 ?_
              refine lv_aload hx hb dX9_copy_62 (lv_at hl 0 rfl) ?_
              refine va_get (D := D) (ci := 5) (v := .int (zz_gI S 15)) (C := RX5) (T := TX5) (N := 4) hx hb hts inX5 hown hK hP 25 rfl rfl 2 (by decide) lk304 (fun _ h9 => h9) rfl dX9_copy_64 ?_
              refine lv_icmp_eq (tgt := 76) hx hb dX9_copy_67 (by decide) (fun c67 => ?_) (fun c67 => ?_)
              · have hf := zz_ps hf c67
                refine lv_aload hx hb dX9_copy_76 (lv_at hl 1 rfl) ?_
                refine lv_iload_n hx hb dX9_copy_78 rfl (lv_at hl 4 rfl) ?_
                refine lv_iload hx hb dX9_copy_79 (lv_at hl 7 rfl) ?_
                obtain ⟨r52, hc53, hf⟩ := zz_b1s hf
                refine zz_ji (va_runV (As := [.int u1, .int u4]) (rest := []) hfx (zc_X5_hasItems l D tb (q 21) (q 22) (k 22) F u1 u4 (zz_gI S 8) (zz_gI S 9) (zz_gI S 10) (zz_gA S 11) r52 hc53 H.size) (cwV 2 hts gX9_copy_X5_hasItems rfl rfl rfl (by decide +kernel) ⟨Nat.le_of_ble_eq_true rfl, Nat.le_of_ble_eq_true rfl⟩) (zz_preV hK hP hD hS hA hE [21, 22] [13] rfl (by decide) rfl 21 rfl rfl rfl) rfl rfl hl.1 rfl (lv_room (Nat.le_of_ble_eq_true rfl)) dX9_copy_81 ⟨Nat.zero_le _, Nat.zero_le _⟩) hP hD hS hA [21, 22] rfl rfl (fun H locs hP hD hS => ?_)
                have hP : va_P D vwCl (zw_9 q k S) H := hP
                have hD : va_D A (zw_9 q k S) := hD
                obtain ⟨j99_54, hj99_54, hf⟩ := zz_lts hf
                have Kj99_54 : ∀  (H : Heap) (locs : List Loc), va_P D vwCl (zw_9 q k S) H → va_D A (zw_9 q k S) → va_S A s.heap H locs → ∀ ls : Array Slot, lv_has ls 8 [(0, .ref (q 0))] → j99_54 () = some (r, o1) → W p l e rmX9_copy s m args below meth c H locs 0 0 Q (F0 m 99 ls []) := by
                  intro  H locs hP hD hS ls hl hf
                  rw [hj99_54] at hf
                  refine lv_aload_n hx hb dX9_copy_99 rfl (lv_at hl 0 rfl) ?_
                  refine lv_iconst (v := (2 : Int32)) hx hb dX9_copy_100 (by decide) ?_
                  obtain ⟨r55, S56, hc57, hf⟩ := zz_b2s hf
                  refine zz_ji0 (va_runV (As := [.int (2 : Int32)]) (rest := []) hfx (zc_X9_found l D tb q k F (2 : Int32) S r55 S56 hc57 H.size) (cwV 1 hts gX9_copy_X9_found rfl rfl rfl (by decide +kernel) ⟨Nat.le_of_ble_eq_true rfl, Nat.le_of_ble_eq_true rfl⟩) (zz_pre0V hK hP hD hS hA hE 0 rfl rfl rfl) rfl rfl hl.1 rfl (lv_room (Nat.le_of_ble_eq_true rfl)) dX9_copy_101 ⟨Nat.zero_le _, Nat.zero_le _⟩) hD hS hA (fun H locs hP hD hS => ?_)
                  obtain ⟨rfl, rfl⟩ := zz_e2 hf
                  exact hret _ _ _ _ dX9_copy_104 hP hD hS
                refine lv_if_eq (tgt := 99) hx hb dX9_copy_84 (by decide) (fun c84 => ?_) (fun c84 => ?_)
                · have hf := zz_ps hf c84
                  exact Kj99_54  _ _ hP hD hS ls (lv_sub hl [2] rfl) hf
                · have hf := zz_ng hf c84
                  refine lv_aload hx hb dX9_copy_87 (lv_at hl 0 rfl) ?_
                  refine lv_iload hx hb dX9_copy_89 (lv_at hl 6 rfl) ?_
                  refine lv_iload hx hb dX9_copy_91 (lv_at hl 7 rfl) ?_
                  obtain ⟨r58, hc59, hf⟩ := zz_b1s hf
                  refine zz_ji (va_runV (As := [.int u3, .int u4]) (rest := []) hfx (zc_X5_hasItems l D tb (q 25) (q 26) (k 26) F u3 u4 (zz_gI S 14) (zz_gI S 15) (zz_gI S 16) (zz_gA S 13) r58 hc59 H.size) (cwV 2 hts gX9_copy_X5_hasItems rfl rfl rfl (by decide +kernel) ⟨Nat.le_of_ble_eq_true rfl, Nat.le_of_ble_eq_true rfl⟩) (zz_preV hK hP hD hS hA hE [25, 26] [15] rfl (by decide) rfl 25 rfl rfl rfl) rfl rfl hl.1 rfl (lv_room (Nat.le_of_ble_eq_true rfl)) dX9_copy_93 ⟨Nat.zero_le _, Nat.zero_le _⟩) hP hD hS hA [25, 26] rfl rfl (fun H locs hP hD hS => ?_)
                  have hP : va_P D vwCl (zw_9 q k S) H := hP
                  have hD : va_D A (zw_9 q k S) := hD
                  refine lv_if_ne (tgt := 105) hx hb dX9_copy_96 (by decide) (fun c96 => ?_) (fun c96 => ?_)
                  · have hf := zz_ng hf c96
                    refine lv_aload hx hb dX9_copy_105 (lv_at hl 1 rfl) ?_
                    refine va_get (D := D) (ci := 5) (v := .ref (q 22)) (C := RX5) (T := TX5) (N := 4) hx hb hts inX5 hown hK hP 21 rfl rfl 0 (by decide) lk301 (fun _ h9 => h9) rfl dX9_copy_107 ?_
                    refine lv_iload_n hx hb dX9_copy_110 rfl (lv_at hl 4 rfl) ?_
                    refine lv_aload hx hb dX9_copy_111 (lv_at hl 0 rfl) ?_
                    refine va_get (D := D) (ci := 5) (v := .ref (q 26)) (C := RX5) (T := TX5) (N := 4) hx hb hts inX5 hown hK hP 25 rfl rfl 0 (by decide) lk301 (fun _ h9 => h9) rfl dX9_copy_113 ?_
                    refine lv_iload hx hb dX9_copy_116 (lv_at hl 6 rfl) ?_
                    refine lv_iload hx hb dX9_copy_118 (lv_at hl 7 rfl) ?_
                    obtain ⟨hg60, hf⟩ := zz_gd hf
                    obtain ⟨hg61, hf⟩ := zz_gd hf
                    obtain ⟨hg62, hf⟩ := zz_gd hf
                    obtain ⟨hg63, hf⟩ := zz_gd hf
                    obtain ⟨hg64, hf⟩ := zz_gd hf
                    obtain ⟨S65, hS65, hf⟩ := zz_lts hf
                    refine va_copyi hx hb (hml.trans hl.1.symm) hown lkm310 (hts (.native arraycopyName) (by decide +kernel)) (hts (.static arraycopyName) (by decide +kernel)) (hts (.initialized "java/lang/System") (by decide +kernel)) hK hP hD hS 22 26 13 15 rfl rfl rfl rfl rfl hg60 hg61 hg62 hg63 hg64 (fun _ _ => rfl) (Nat.le_of_ble_eq_true rfl) (Nat.le_of_ble_eq_true rfl) dX9_copy_120 (fun H locs hP hD hS => ?_)
                    have hP : va_P D vwCl (zw_9 q k S65) H := by rw [hS65]; exact hP
                    have hD : va_D A (zw_9 q k S65) := by rw [hS65]; exact hD
                    refine lv_iconst (v := (1 : Int32)) hx hb dX9_copy_123 (by decide) ?_
                    obtain ⟨rfl, rfl⟩ := zz_e2 hf
                    exact hret _ _ _ _ dX9_copy_124 hP hD hS
                  · have hf := zz_ps hf c96
                    exact Kj99_54  _ _ hP hD hS ls (lv_sub hl [2] rfl) hf
              · have hf := zz_ng hf c67
                refine lv_aload_n hx hb dX9_copy_70 rfl (lv_at hl 2 rfl) ?_
                refine lv_iconst (v := (4 : Int32)) hx hb dX9_copy_71 (by decide) ?_
                obtain ⟨r66, S67, hc68, hf⟩ := zz_b2s hf
                refine zz_ji0 (va_runV (As := [.int (4 : Int32)]) (rest := []) hfx (zc_X9_found l D tb q k F (4 : Int32) S r66 S67 hc68 H.size) (cwV 1 hts gX9_copy_X9_found rfl rfl rfl (by decide +kernel) ⟨Nat.le_of_ble_eq_true rfl, Nat.le_of_ble_eq_true rfl⟩) (zz_pre0V hK hP hD hS hA hE 0 rfl rfl rfl) rfl rfl hl.1 rfl (lv_room (Nat.le_of_ble_eq_true rfl)) dX9_copy_72 ⟨Nat.zero_le _, Nat.zero_le _⟩) hD hS hA (fun H locs hP hD hS => ?_)
                obtain ⟨rfl, rfl⟩ := zz_e2 hf
                exact hret _ _ _ _ dX9_copy_75 hP hD hS
            · have hf := zz_ng hf c48
              exact Kj51_48  _ _ hP hD hS ls (lv_sub hl [2] rfl) hf
        have hf := zz_ng hf ci32_2
        by_cases ci32_3 : u2 = (3 : Int32)
        · have hf := zz_ps hf ci32_3
          have hl : lv_has ls 8 [(6, .ref (q 21)), (0, .ref (q 0)), (1, .int (0 : Int32)), (2, .int u1), (3, .int (3 : Int32)), (4, .int u3), (5, .int u4)] := ci32_3 ▸ hl
          refine zz_ti (y := (3 : Int32)) ci32_3.symm ?_
          refine va_aldq hx hb hK hP 20 12 rfl rfl (show zz_in (3 : Int32) 4 by decide) dX9_copy_32 ?_
          refine W.eq (g2 := F0 m 33 ls [.ref (q 27)]) rfl ?_
          refine lv_astore (lv' := [(7, .ref (q 27)), (6, .ref (q 21)), (0, .ref (q 0)), (1, .int (0 : Int32)), (2, .int u1), (3, .int (3 : Int32)), (4, .int u3), (5, .int u4)]) hx hb dX9_copy_33 hl (by decide) rfl (fun ls hl => ?_)
          refine lv_aload hx hb dX9_copy_35 (lv_at hl 1 rfl) ?_
          refine va_get (D := D) (ci := 5) (v := .int (zz_gI S 8)) (C := RX5) (T := TX5) (N := 4) hx hb hts inX5 hown hK hP 21 rfl rfl 1 (by decide) lk235 (fun _ h9 => h9) rfl dX9_copy_37 ?_
          obtain ⟨j51_69, hj51_69, hf⟩ := zz_lts hf
          have Kj51_69 : ∀  (H : Heap) (locs : List Loc), va_P D vwCl (zw_9 q k S) H → va_D A (zw_9 q k S) → va_S A s.heap H locs → ∀ ls : Array Slot, lv_has ls 8 [(0, .ref (q 0))] → j51_69 () = some (r, o1) → W p l e rmX9_copy s m args below meth c H locs 0 0 Q (F0 m 51 ls []) := by
            intro  H locs hP hD hS ls hl hf
            rw [hj51_69] at hf
            refine lv_aload_n hx hb dX9_copy_51 rfl (lv_at hl 0 rfl) ?_
            refine lv_iconst (v := (1 : Int32)) hx hb dX9_copy_52 (by decide) ?_
            obtain ⟨r70, S71, hc72, hf⟩ := zz_b2s hf
            refine zz_ji0 (va_runV (As := [.int (1 : Int32)]) (rest := []) hfx (zc_X9_found l D tb q k F (1 : Int32) S r70 S71 hc72 H.size) (cwV 1 hts gX9_copy_X9_found rfl rfl rfl (by decide +kernel) ⟨Nat.le_of_ble_eq_true rfl, Nat.le_of_ble_eq_true rfl⟩) (zz_pre0V hK hP hD hS hA hE 0 rfl rfl rfl) rfl rfl hl.1 rfl (lv_room (Nat.le_of_ble_eq_true rfl)) dX9_copy_53 ⟨Nat.zero_le _, Nat.zero_le _⟩) hD hS hA (fun H locs hP hD hS => ?_)
            obtain ⟨rfl, rfl⟩ := zz_e2 hf
            exact hret _ _ _ _ dX9_copy_56 hP hD hS
          refine lv_if_ne (tgt := 51) hx hb dX9_copy_40 (by decide) (fun c40 => ?_) (fun c40 => ?_)
          · have hf := zz_ng hf c40
            exact Kj51_69  _ _ hP hD hS ls (lv_sub hl [2] rfl) hf
          · have hf := zz_ps hf c40
            refine lv_aload hx hb dX9_copy_43 (lv_at hl 0 rfl) ?_
            refine va_get (D := D) (ci := 5) (v := .int (zz_gI S 17)) (C := RX5) (T := TX5) (N := 4) hx hb hts inX5 hown hK hP 27 rfl rfl 1 (by decide) lk235 (fun _ h9 => h9) rfl dX9_copy_45 ?_
            refine lv_if_eq (tgt := 57) hx hb dX9_copy_48 (by decide) (fun c48 => ?_) (fun c48 => ?_)
            · have hf := zz_ps hf c48
              refine lv_aload hx hb dX9_copy_57 (lv_at hl 1 rfl) ?_
              refine va_get (D := D) (ci := 5) (v := .int (zz_gI S 9)) (C := RX5) (T := TX5) (N := 4) hx hb hts inX5 hown hK hP 21 rfl rfl 2 (by decide) lk304 (fun _ h9 => h9) rfl dX9_copy_59 ?_
              refine lv_aload hx hb dX9_copy_62 (lv_at hl 0 rfl) ?_
              refine va_get (D := D) (ci := 5) (v := .int (zz_gI S 18)) (C := RX5) (T := TX5) (N := 4) hx hb hts inX5 hown hK hP 27 rfl rfl 2 (by decide) lk304 (fun _ h9 => h9) rfl dX9_copy_64 ?_
              refine lv_icmp_eq (tgt := 76) hx hb dX9_copy_67 (by decide) (fun c67 => ?_) (fun c67 => ?_)
              · have hf := zz_ps hf c67
                refine lv_aload hx hb dX9_copy_76 (lv_at hl 1 rfl) ?_
                refine lv_iload_n hx hb dX9_copy_78 rfl (lv_at hl 4 rfl) ?_
                refine lv_iload hx hb dX9_copy_79 (lv_at hl 7 rfl) ?_
                obtain ⟨r73, hc74, hf⟩ := zz_b1s hf
                refine zz_ji (va_runV (As := [.int u1, .int u4]) (rest := []) hfx (zc_X5_hasItems l D tb (q 21) (q 22) (k 22) F u1 u4 (zz_gI S 8) (zz_gI S 9) (zz_gI S 10) (zz_gA S 11) r73 hc74 H.size) (cwV 2 hts gX9_copy_X5_hasItems rfl rfl rfl (by decide +kernel) ⟨Nat.le_of_ble_eq_true rfl, Nat.le_of_ble_eq_true rfl⟩) (zz_preV hK hP hD hS hA hE [21, 22] [13] rfl (by decide) rfl 21 rfl rfl rfl) rfl rfl hl.1 rfl (lv_room (Nat.le_of_ble_eq_true rfl)) dX9_copy_81 ⟨Nat.zero_le _, Nat.zero_le _⟩) hP hD hS hA [21, 22] rfl rfl (fun H locs hP hD hS => ?_)
                have hP : va_P D vwCl (zw_9 q k S) H := hP
                have hD : va_D A (zw_9 q k S) := hD
                obtain ⟨j99_75, hj99_75, hf⟩ := zz_lts hf
                have Kj99_75 : ∀  (H : Heap) (locs : List Loc), va_P D vwCl (zw_9 q k S) H → va_D A (zw_9 q k S) → va_S A s.heap H locs → ∀ ls : Array Slot, lv_has ls 8 [(0, .ref (q 0))] → j99_75 () = some (r, o1) → W p l e rmX9_copy s m args below meth c H locs 0 0 Q (F0 m 99 ls []) := by
                  intro  H locs hP hD hS ls hl hf
                  rw [hj99_75] at hf
                  refine lv_aload_n hx hb dX9_copy_99 rfl (lv_at hl 0 rfl) ?_
                  refine lv_iconst (v := (2 : Int32)) hx hb dX9_copy_100 (by decide) ?_
                  obtain ⟨r76, S77, hc78, hf⟩ := zz_b2s hf
                  refine zz_ji0 (va_runV (As := [.int (2 : Int32)]) (rest := []) hfx (zc_X9_found l D tb q k F (2 : Int32) S r76 S77 hc78 H.size) (cwV 1 hts gX9_copy_X9_found rfl rfl rfl (by decide +kernel) ⟨Nat.le_of_ble_eq_true rfl, Nat.le_of_ble_eq_true rfl⟩) (zz_pre0V hK hP hD hS hA hE 0 rfl rfl rfl) rfl rfl hl.1 rfl (lv_room (Nat.le_of_ble_eq_true rfl)) dX9_copy_101 ⟨Nat.zero_le _, Nat.zero_le _⟩) hD hS hA (fun H locs hP hD hS => ?_)
                  obtain ⟨rfl, rfl⟩ := zz_e2 hf
                  exact hret _ _ _ _ dX9_copy_104 hP hD hS
                refine lv_if_eq (tgt := 99) hx hb dX9_copy_84 (by decide) (fun c84 => ?_) (fun c84 => ?_)
                · have hf := zz_ps hf c84
                  exact Kj99_75  _ _ hP hD hS ls (lv_sub hl [2] rfl) hf
                · have hf := zz_ng hf c84
                  refine lv_aload hx hb dX9_copy_87 (lv_at hl 0 rfl) ?_
                  refine lv_iload hx hb dX9_copy_89 (lv_at hl 6 rfl) ?_
                  refine lv_iload hx hb dX9_copy_91 (lv_at hl 7 rfl) ?_
                  obtain ⟨r79, hc80, hf⟩ := zz_b1s hf
                  refine zz_ji (va_runV (As := [.int u3, .int u4]) (rest := []) hfx (zc_X5_hasItems l D tb (q 27) (q 28) (k 28) F u3 u4 (zz_gI S 17) (zz_gI S 18) (zz_gI S 19) (zz_gA S 14) r79 hc80 H.size) (cwV 2 hts gX9_copy_X5_hasItems rfl rfl rfl (by decide +kernel) ⟨Nat.le_of_ble_eq_true rfl, Nat.le_of_ble_eq_true rfl⟩) (zz_preV hK hP hD hS hA hE [27, 28] [16] rfl (by decide) rfl 27 rfl rfl rfl) rfl rfl hl.1 rfl (lv_room (Nat.le_of_ble_eq_true rfl)) dX9_copy_93 ⟨Nat.zero_le _, Nat.zero_le _⟩) hP hD hS hA [27, 28] rfl rfl (fun H locs hP hD hS => ?_)
                  have hP : va_P D vwCl (zw_9 q k S) H := hP
                  have hD : va_D A (zw_9 q k S) := hD
                  refine lv_if_ne (tgt := 105) hx hb dX9_copy_96 (by decide) (fun c96 => ?_) (fun c96 => ?_)
                  · have hf := zz_ng hf c96
                    refine lv_aload hx hb dX9_copy_105 (lv_at hl 1 rfl) ?_
                    refine va_get (D := D) (ci := 5) (v := .ref (q 22)) (C := RX5) (T := TX5) (N := 4) hx hb hts inX5 hown hK hP 21 rfl rfl 0 (by decide) lk301 (fun _ h9 => h9) rfl dX9_copy_107 ?_
                    refine lv_iload_n hx hb dX9_copy_110 rfl (lv_at hl 4 rfl) ?_
                    refine lv_aload hx hb dX9_copy_111 (lv_at hl 0 rfl) ?_
                    refine va_get (D := D) (ci := 5) (v := .ref (q 28)) (C := RX5) (T := TX5) (N := 4) hx hb hts inX5 hown hK hP 27 rfl rfl 0 (by decide) lk301 (fun _ h9 => h9) rfl dX9_copy_113 ?_
                    refine lv_iload hx hb dX9_copy_116 (lv_at hl 6 rfl) ?_
                    refine lv_iload hx hb dX9_copy_118 (lv_at hl 7 rfl) ?_
                    obtain ⟨hg81, hf⟩ := zz_gd hf
                    obtain ⟨hg82, hf⟩ := zz_gd hf
                    obtain ⟨hg83, hf⟩ := zz_gd hf
                    obtain ⟨hg84, hf⟩ := zz_gd hf
                    obtain ⟨hg85, hf⟩ := zz_gd hf
                    obtain ⟨S86, hS86, hf⟩ := zz_lts hf
                    refine va_copyi hx hb (hml.trans hl.1.symm) hown lkm310 (hts (.native arraycopyName) (by decide +kernel)) (hts (.static arraycopyName) (by decide +kernel)) (hts (.initialized "java/lang/System") (by decide +kernel)) hK hP hD hS 22 28 13 16 rfl rfl rfl rfl rfl hg81 hg82 hg83 hg84 hg85 (fun _ _ => rfl) (Nat.le_of_ble_eq_true rfl) (Nat.le_of_ble_eq_true rfl) dX9_copy_120 (fun H locs hP hD hS => ?_)
                    have hP : va_P D vwCl (zw_9 q k S86) H := by rw [hS86]; exact hP
                    have hD : va_D A (zw_9 q k S86) := by rw [hS86]; exact hD
                    refine lv_iconst (v := (1 : Int32)) hx hb dX9_copy_123 (by decide) ?_
                    obtain ⟨rfl, rfl⟩ := zz_e2 hf
                    exact hret _ _ _ _ dX9_copy_124 hP hD hS
                  · have hf := zz_ps hf c96
                    exact Kj99_75  _ _ hP hD hS ls (lv_sub hl [2] rfl) hf
              · have hf := zz_ng hf c67
                refine lv_aload_n hx hb dX9_copy_70 rfl (lv_at hl 2 rfl) ?_
                refine lv_iconst (v := (4 : Int32)) hx hb dX9_copy_71 (by decide) ?_
                obtain ⟨r87, S88, hc89, hf⟩ := zz_b2s hf
                refine zz_ji0 (va_runV (As := [.int (4 : Int32)]) (rest := []) hfx (zc_X9_found l D tb q k F (4 : Int32) S r87 S88 hc89 H.size) (cwV 1 hts gX9_copy_X9_found rfl rfl rfl (by decide +kernel) ⟨Nat.le_of_ble_eq_true rfl, Nat.le_of_ble_eq_true rfl⟩) (zz_pre0V hK hP hD hS hA hE 0 rfl rfl rfl) rfl rfl hl.1 rfl (lv_room (Nat.le_of_ble_eq_true rfl)) dX9_copy_72 ⟨Nat.zero_le _, Nat.zero_le _⟩) hD hS hA (fun H locs hP hD hS => ?_)
                obtain ⟨rfl, rfl⟩ := zz_e2 hf
                exact hret _ _ _ _ dX9_copy_75 hP hD hS
            · have hf := zz_ng hf c48
              exact Kj51_69  _ _ hP hD hS ls (lv_sub hl [2] rfl) hf
        have hf := zz_ng hf ci32_3
        exact nomatch hf
      have hf := zz_ng hf ci24_0
      by_cases ci24_1 : u0 = (1 : Int32)
      · have hf := zz_ps hf ci24_1
        have hl : lv_has ls 8 [(0, .ref (q 0)), (1, .int (1 : Int32)), (2, .int u1), (3, .int u2), (4, .int u3), (5, .int u4)] := ci24_1 ▸ hl
        refine zz_ti (y := (1 : Int32)) ci24_1.symm ?_
        refine va_aldq hx hb hK hP 20 12 rfl rfl (show zz_in (1 : Int32) 4 by decide) dX9_copy_24 ?_
        refine W.eq (g2 := F0 m 25 ls [.ref (q 23)]) rfl ?_
        refine lv_astore (lv' := [(6, .ref (q 23)), (0, .ref (q 0)), (1, .int (1 : Int32)), (2, .int u1), (3, .int u2), (4, .int u3), (5, .int u4)]) hx hb dX9_copy_25 hl (by decide) rfl (fun ls hl => ?_)
        refine lv_aload_n hx hb dX9_copy_27 rfl (lv_at hl 1 rfl) ?_
        refine va_get (D := D) (ci := 9) (v := .ref (q 20)) (C := RX9) (T := TX9) (N := 18) hx hb hts inX9 hown hK hP 0 rfl rfl 7 (by decide) lk52 (fun _ h9 => h9) rfl dX9_copy_28 ?_
        refine lv_iload_n hx hb dX9_copy_31 rfl (lv_at hl 4 rfl) ?_
        by_cases ci32_0 : u2 = (0 : Int32)
        · have hf := zz_ps hf ci32_0
          have hl : lv_has ls 8 [(6, .ref (q 23)), (0, .ref (q 0)), (1, .int (1 : Int32)), (2, .int u1), (3, .int (0 : Int32)), (4, .int u3), (5, .int u4)] := ci32_0 ▸ hl
          refine zz_ti (y := (0 : Int32)) ci32_0.symm ?_
          refine va_aldq hx hb hK hP 20 12 rfl rfl (show zz_in (0 : Int32) 4 by decide) dX9_copy_32 ?_
          refine W.eq (g2 := F0 m 33 ls [.ref (q 21)]) rfl ?_
          refine lv_astore (lv' := [(7, .ref (q 21)), (6, .ref (q 23)), (0, .ref (q 0)), (1, .int (1 : Int32)), (2, .int u1), (3, .int (0 : Int32)), (4, .int u3), (5, .int u4)]) hx hb dX9_copy_33 hl (by decide) rfl (fun ls hl => ?_)
          refine lv_aload hx hb dX9_copy_35 (lv_at hl 1 rfl) ?_
          refine va_get (D := D) (ci := 5) (v := .int (zz_gI S 11)) (C := RX5) (T := TX5) (N := 4) hx hb hts inX5 hown hK hP 23 rfl rfl 1 (by decide) lk235 (fun _ h9 => h9) rfl dX9_copy_37 ?_
          obtain ⟨j51_90, hj51_90, hf⟩ := zz_lts hf
          have Kj51_90 : ∀  (H : Heap) (locs : List Loc), va_P D vwCl (zw_9 q k S) H → va_D A (zw_9 q k S) → va_S A s.heap H locs → ∀ ls : Array Slot, lv_has ls 8 [(0, .ref (q 0))] → j51_90 () = some (r, o1) → W p l e rmX9_copy s m args below meth c H locs 0 0 Q (F0 m 51 ls []) := by
            intro  H locs hP hD hS ls hl hf
            rw [hj51_90] at hf
            refine lv_aload_n hx hb dX9_copy_51 rfl (lv_at hl 0 rfl) ?_
            refine lv_iconst (v := (1 : Int32)) hx hb dX9_copy_52 (by decide) ?_
            obtain ⟨r91, S92, hc93, hf⟩ := zz_b2s hf
            refine zz_ji0 (va_runV (As := [.int (1 : Int32)]) (rest := []) hfx (zc_X9_found l D tb q k F (1 : Int32) S r91 S92 hc93 H.size) (cwV 1 hts gX9_copy_X9_found rfl rfl rfl (by decide +kernel) ⟨Nat.le_of_ble_eq_true rfl, Nat.le_of_ble_eq_true rfl⟩) (zz_pre0V hK hP hD hS hA hE 0 rfl rfl rfl) rfl rfl hl.1 rfl (lv_room (Nat.le_of_ble_eq_true rfl)) dX9_copy_53 ⟨Nat.zero_le _, Nat.zero_le _⟩) hD hS hA (fun H locs hP hD hS => ?_)
            obtain ⟨rfl, rfl⟩ := zz_e2 hf
            exact hret _ _ _ _ dX9_copy_56 hP hD hS
          refine lv_if_ne (tgt := 51) hx hb dX9_copy_40 (by decide) (fun c40 => ?_) (fun c40 => ?_)
          · have hf := zz_ng hf c40
            exact Kj51_90  _ _ hP hD hS ls (lv_sub hl [2] rfl) hf
          · have hf := zz_ps hf c40
            refine lv_aload hx hb dX9_copy_43 (lv_at hl 0 rfl) ?_
            refine va_get (D := D) (ci := 5) (v := .int (zz_gI S 8)) (C := RX5) (T := TX5) (N := 4) hx hb hts inX5 hown hK hP 21 rfl rfl 1 (by decide) lk235 (fun _ h9 => h9) rfl dX9_copy_45 ?_
            refine lv_if_eq (tgt := 57) hx hb dX9_copy_48 (by decide) (fun c48 => ?_) (fun c48 => ?_)
            · have hf := zz_ps hf c48
              refine lv_aload hx hb dX9_copy_57 (lv_at hl 1 rfl) ?_
              refine va_get (D := D) (ci := 5) (v := .int (zz_gI S 12)) (C := RX5) (T := TX5) (N := 4) hx hb hts inX5 hown hK hP 23 rfl rfl 2 (by decide) lk304 (fun _ h9 => h9) rfl dX9_copy_59 ?_
              refine lv_aload hx hb dX9_copy_62 (lv_at hl 0 rfl) ?_
              refine va_get (D := D) (ci := 5) (v := .int (zz_gI S 9)) (C := RX5) (T := TX5) (N := 4) hx hb hts inX5 hown hK hP 21 rfl rfl 2 (by decide) lk304 (fun _ h9 => h9) rfl dX9_copy_64 ?_
              refine lv_icmp_eq (tgt := 76) hx hb dX9_copy_67 (by decide) (fun c67 => ?_) (fun c67 => ?_)
              · have hf := zz_ps hf c67
                refine lv_aload hx hb dX9_copy_76 (lv_at hl 1 rfl) ?_
                refine lv_iload_n hx hb dX9_copy_78 rfl (lv_at hl 4 rfl) ?_
                refine lv_iload hx hb dX9_copy_79 (lv_at hl 7 rfl) ?_
                obtain ⟨r94, hc95, hf⟩ := zz_b1s hf
                refine zz_ji (va_runV (As := [.int u1, .int u4]) (rest := []) hfx (zc_X5_hasItems l D tb (q 23) (q 24) (k 24) F u1 u4 (zz_gI S 11) (zz_gI S 12) (zz_gI S 13) (zz_gA S 12) r94 hc95 H.size) (cwV 2 hts gX9_copy_X5_hasItems rfl rfl rfl (by decide +kernel) ⟨Nat.le_of_ble_eq_true rfl, Nat.le_of_ble_eq_true rfl⟩) (zz_preV hK hP hD hS hA hE [23, 24] [14] rfl (by decide) rfl 23 rfl rfl rfl) rfl rfl hl.1 rfl (lv_room (Nat.le_of_ble_eq_true rfl)) dX9_copy_81 ⟨Nat.zero_le _, Nat.zero_le _⟩) hP hD hS hA [23, 24] rfl rfl (fun H locs hP hD hS => ?_)
                have hP : va_P D vwCl (zw_9 q k S) H := hP
                have hD : va_D A (zw_9 q k S) := hD
                obtain ⟨j99_96, hj99_96, hf⟩ := zz_lts hf
                have Kj99_96 : ∀  (H : Heap) (locs : List Loc), va_P D vwCl (zw_9 q k S) H → va_D A (zw_9 q k S) → va_S A s.heap H locs → ∀ ls : Array Slot, lv_has ls 8 [(0, .ref (q 0))] → j99_96 () = some (r, o1) → W p l e rmX9_copy s m args below meth c H locs 0 0 Q (F0 m 99 ls []) := by
                  intro  H locs hP hD hS ls hl hf
                  rw [hj99_96] at hf
                  refine lv_aload_n hx hb dX9_copy_99 rfl (lv_at hl 0 rfl) ?_
                  refine lv_iconst (v := (2 : Int32)) hx hb dX9_copy_100 (by decide) ?_
                  obtain ⟨r97, S98, hc99, hf⟩ := zz_b2s hf
                  refine zz_ji0 (va_runV (As := [.int (2 : Int32)]) (rest := []) hfx (zc_X9_found l D tb q k F (2 : Int32) S r97 S98 hc99 H.size) (cwV 1 hts gX9_copy_X9_found rfl rfl rfl (by decide +kernel) ⟨Nat.le_of_ble_eq_true rfl, Nat.le_of_ble_eq_true rfl⟩) (zz_pre0V hK hP hD hS hA hE 0 rfl rfl rfl) rfl rfl hl.1 rfl (lv_room (Nat.le_of_ble_eq_true rfl)) dX9_copy_101 ⟨Nat.zero_le _, Nat.zero_le _⟩) hD hS hA (fun H locs hP hD hS => ?_)
                  obtain ⟨rfl, rfl⟩ := zz_e2 hf
                  exact hret _ _ _ _ dX9_copy_104 hP hD hS
                refine lv_if_eq (tgt := 99) hx hb dX9_copy_84 (by decide) (fun c84 => ?_) (fun c84 => ?_)
                · have hf := zz_ps hf c84
                  exact Kj99_96  _ _ hP hD hS ls (lv_sub hl [2] rfl) hf
                · have hf := zz_ng hf c84
                  refine lv_aload hx hb dX9_copy_87 (lv_at hl 0 rfl) ?_
                  refine lv_iload hx hb dX9_copy_89 (lv_at hl 6 rfl) ?_
                  refine lv_iload hx hb dX9_copy_91 (lv_at hl 7 rfl) ?_
                  obtain ⟨r100, hc101, hf⟩ := zz_b1s hf
                  refine zz_ji (va_runV (As := [.int u3, .int u4]) (rest := []) hfx (zc_X5_hasItems l D tb (q 21) (q 22) (k 22) F u3 u4 (zz_gI S 8) (zz_gI S 9) (zz_gI S 10) (zz_gA S 11) r100 hc101 H.size) (cwV 2 hts gX9_copy_X5_hasItems rfl rfl rfl (by decide +kernel) ⟨Nat.le_of_ble_eq_true rfl, Nat.le_of_ble_eq_true rfl⟩) (zz_preV hK hP hD hS hA hE [21, 22] [13] rfl (by decide) rfl 21 rfl rfl rfl) rfl rfl hl.1 rfl (lv_room (Nat.le_of_ble_eq_true rfl)) dX9_copy_93 ⟨Nat.zero_le _, Nat.zero_le _⟩) hP hD hS hA [21, 22] rfl rfl (fun H locs hP hD hS => ?_)
                  have hP : va_P D vwCl (zw_9 q k S) H := hP
                  have hD : va_D A (zw_9 q k S) := hD
                  refine lv_if_ne (tgt := 105) hx hb dX9_copy_96 (by decide) (fun c96 => ?_) (fun c96 => ?_)
                  · have hf := zz_ng hf c96
                    refine lv_aload hx hb dX9_copy_105 (lv_at hl 1 rfl) ?_
                    refine va_get (D := D) (ci := 5) (v := .ref (q 24)) (C := RX5) (T := TX5) (N := 4) hx hb hts inX5 hown hK hP 23 rfl rfl 0 (by decide) lk301 (fun _ h9 => h9) rfl dX9_copy_107 ?_
                    refine lv_iload_n hx hb dX9_copy_110 rfl (lv_at hl 4 rfl) ?_
                    refine lv_aload hx hb dX9_copy_111 (lv_at hl 0 rfl) ?_
                    refine va_get (D := D) (ci := 5) (v := .ref (q 22)) (C := RX5) (T := TX5) (N := 4) hx hb hts inX5 hown hK hP 21 rfl rfl 0 (by decide) lk301 (fun _ h9 => h9) rfl dX9_copy_113 ?_
                    refine lv_iload hx hb dX9_copy_116 (lv_at hl 6 rfl) ?_
                    refine lv_iload hx hb dX9_copy_118 (lv_at hl 7 rfl) ?_
                    obtain ⟨hg102, hf⟩ := zz_gd hf
                    obtain ⟨hg103, hf⟩ := zz_gd hf
                    obtain ⟨hg104, hf⟩ := zz_gd hf
                    obtain ⟨hg105, hf⟩ := zz_gd hf
                    obtain ⟨hg106, hf⟩ := zz_gd hf
                    obtain ⟨S107, hS107, hf⟩ := zz_lts hf
                    refine va_copyi hx hb (hml.trans hl.1.symm) hown lkm310 (hts (.native arraycopyName) (by decide +kernel)) (hts (.static arraycopyName) (by decide +kernel)) (hts (.initialized "java/lang/System") (by decide +kernel)) hK hP hD hS 24 22 14 13 rfl rfl rfl rfl rfl hg102 hg103 hg104 hg105 hg106 (fun _ _ => rfl) (Nat.le_of_ble_eq_true rfl) (Nat.le_of_ble_eq_true rfl) dX9_copy_120 (fun H locs hP hD hS => ?_)
                    have hP : va_P D vwCl (zw_9 q k S107) H := by rw [hS107]; exact hP
                    have hD : va_D A (zw_9 q k S107) := by rw [hS107]; exact hD
                    refine lv_iconst (v := (1 : Int32)) hx hb dX9_copy_123 (by decide) ?_
                    obtain ⟨rfl, rfl⟩ := zz_e2 hf
                    exact hret _ _ _ _ dX9_copy_124 hP hD hS
                  · have hf := zz_ps hf c96
                    exact Kj99_96  _ _ hP hD hS ls (lv_sub hl [2] rfl) hf
              · have hf := zz_ng hf c67
                refine lv_aload_n hx hb dX9_copy_70 rfl (lv_at hl 2 rfl) ?_
                refine lv_iconst (v := (4 : Int32)) hx hb dX9_copy_71 (by decide) ?_
                obtain ⟨r108, S109, hc110, hf⟩ := zz_b2s hf
                refine zz_ji0 (va_runV (As := [.int (4 : Int32)]) (rest := []) hfx (zc_X9_found l D tb q k F (4 : Int32) S r108 S109 hc110 H.size) (cwV 1 hts gX9_copy_X9_found rfl rfl rfl (by decide +kernel) ⟨Nat.le_of_ble_eq_true rfl, Nat.le_of_ble_eq_true rfl⟩) (zz_pre0V hK hP hD hS hA hE 0 rfl rfl rfl) rfl rfl hl.1 rfl (lv_room (Nat.le_of_ble_eq_true rfl)) dX9_copy_72 ⟨Nat.zero_le _, Nat.zero_le _⟩) hD hS hA (fun H locs hP hD hS => ?_)
                obtain ⟨rfl, rfl⟩ := zz_e2 hf
                exact hret _ _ _ _ dX9_copy_75 hP hD hS
            · have hf := zz_ng hf c48
              exact Kj51_90  _ _ hP hD hS ls (lv_sub hl [2] rfl) hf
        have hf := zz_ng hf ci32_0
        by_cases ci32_1 : u2 = (1 : Int32)
        · have hf := zz_ps hf ci32_1
          have hl : lv_has ls 8 [(6, .ref (q 23)), (0, .ref (q 0)), (1, .int (1 : Int32)), (2, .int u1), (3, .int (1 : Int32)), (4, .int u3), (5, .int u4)] := ci32_1 ▸ hl
          refine zz_ti (y := (1 : Int32)) ci32_1.symm ?_
          refine va_aldq hx hb hK hP 20 12 rfl rfl (show zz_in (1 : Int32) 4 by decide) dX9_copy_32 ?_
          refine W.eq (g2 := F0 m 33 ls [.ref (q 23)]) rfl ?_
          refine lv_astore (lv' := [(7, .ref (q 23)), (6, .ref (q 23)), (0, .ref (q 0)), (1, .int (1 : Int32)), (2, .int u1), (3, .int (1 : Int32)), (4, .int u3), (5, .int u4)]) hx hb dX9_copy_33 hl (by decide) rfl (fun ls hl => ?_)
          refine lv_aload hx hb dX9_copy_35 (lv_at hl 1 rfl) ?_
          refine va_get (D := D) (ci := 5) (v := .int (zz_gI S 11)) (C := RX5) (T := TX5) (N := 4) hx hb hts inX5 hown hK hP 23 rfl rfl 1 (by decide) lk235 (fun _ h9 => h9) rfl dX9_copy_37 ?_
          obtain ⟨j51_111, hj51_111, hf⟩ := zz_lts hf
          have Kj51_111 : ∀  (H : Heap) (locs : List Loc), va_P D vwCl (zw_9 q k S) H → va_D A (zw_9 q k S) → va_S A s.heap H locs → ∀ ls : Array Slot, lv_has ls 8 [(0, .ref (q 0))] → j51_111 () = some (r, o1) → W p l e rmX9_copy s m args below meth c H locs 0 0 Q (F0 m 51 ls []) := by
            intro  H locs hP hD hS ls hl hf
            rw [hj51_111] at hf
            refine lv_aload_n hx hb dX9_copy_51 rfl (lv_at hl 0 rfl) ?_
            refine lv_iconst (v := (1 : Int32)) hx hb dX9_copy_52 (by decide) ?_
            obtain ⟨r112, S113, hc114, hf⟩ := zz_b2s hf
            refine zz_ji0 (va_runV (As := [.int (1 : Int32)]) (rest := []) hfx (zc_X9_found l D tb q k F (1 : Int32) S r112 S113 hc114 H.size) (cwV 1 hts gX9_copy_X9_found rfl rfl rfl (by decide +kernel) ⟨Nat.le_of_ble_eq_true rfl, Nat.le_of_ble_eq_true rfl⟩) (zz_pre0V hK hP hD hS hA hE 0 rfl rfl rfl) rfl rfl hl.1 rfl (lv_room (Nat.le_of_ble_eq_true rfl)) dX9_copy_53 ⟨Nat.zero_le _, Nat.zero_le _⟩) hD hS hA (fun H locs hP hD hS => ?_)
            obtain ⟨rfl, rfl⟩ := zz_e2 hf
            exact hret _ _ _ _ dX9_copy_56 hP hD hS
          refine lv_if_ne (tgt := 51) hx hb dX9_copy_40 (by decide) (fun c40 => ?_) (fun c40 => ?_)
          · have hf := zz_ng hf c40
            exact Kj51_111  _ _ hP hD hS ls (lv_sub hl [2] rfl) hf
          · have hf := zz_ps hf c40
            refine lv_aload hx hb dX9_copy_43 (lv_at hl 0 rfl) ?_
            refine va_get (D := D) (ci := 5) (v := .int (zz_gI S 11)) (C := RX5) (T := TX5) (N := 4) hx hb hts inX5 hown hK hP 23 rfl rfl 1 (by decide) lk235 (fun _ h9 => h9) rfl dX9_copy_45 ?_
            refine lv_if_eq (tgt := 57) hx hb dX9_copy_48 (by decide) (fun c48 => ?_) (fun c48 => ?_)
            · have hf := zz_ps hf c48
              refine lv_aload hx hb dX9_copy_57 (lv_at hl 1 rfl) ?_
              refine va_get (D := D) (ci := 5) (v := .int (zz_gI S 12)) (C := RX5) (T := TX5) (N := 4) hx hb hts inX5 hown hK hP 23 rfl rfl 2 (by decide) lk304 (fun _ h9 => h9) rfl dX9_copy_59 ?_
              refine lv_aload hx hb dX9_copy_62 (lv_at hl 0 rfl) ?_
              refine va_get (D := D) (ci := 5) (v := .int (zz_gI S 12)) (C := RX5) (T := TX5) (N := 4) hx hb hts inX5 hown hK hP 23 rfl rfl 2 (by decide) lk304 (fun _ h9 => h9) rfl dX9_copy_64 ?_
              refine lv_icmp_eq (tgt := 76) hx hb dX9_copy_67 (by decide) (fun c67 => ?_) (fun c67 => ?_)
              · have hf := zz_ps hf c67
                refine lv_aload hx hb dX9_copy_76 (lv_at hl 1 rfl) ?_
                refine lv_iload_n hx hb dX9_copy_78 rfl (lv_at hl 4 rfl) ?_
                refine lv_iload hx hb dX9_copy_79 (lv_at hl 7 rfl) ?_
                obtain ⟨r115, hc116, hf⟩ := zz_b1s hf
                refine zz_ji (va_runV (As := [.int u1, .int u4]) (rest := []) hfx (zc_X5_hasItems l D tb (q 23) (q 24) (k 24) F u1 u4 (zz_gI S 11) (zz_gI S 12) (zz_gI S 13) (zz_gA S 12) r115 hc116 H.size) (cwV 2 hts gX9_copy_X5_hasItems rfl rfl rfl (by decide +kernel) ⟨Nat.le_of_ble_eq_true rfl, Nat.le_of_ble_eq_true rfl⟩) (zz_preV hK hP hD hS hA hE [23, 24] [14] rfl (by decide) rfl 23 rfl rfl rfl) rfl rfl hl.1 rfl (lv_room (Nat.le_of_ble_eq_true rfl)) dX9_copy_81 ⟨Nat.zero_le _, Nat.zero_le _⟩) hP hD hS hA [23, 24] rfl rfl (fun H locs hP hD hS => ?_)
                have hP : va_P D vwCl (zw_9 q k S) H := hP
                have hD : va_D A (zw_9 q k S) := hD
                obtain ⟨j99_117, hj99_117, hf⟩ := zz_lts hf
                have Kj99_117 : ∀  (H : Heap) (locs : List Loc), va_P D vwCl (zw_9 q k S) H → va_D A (zw_9 q k S) → va_S A s.heap H locs → ∀ ls : Array Slot, lv_has ls 8 [(0, .ref (q 0))] → j99_117 () = some (r, o1) → W p l e rmX9_copy s m args below meth c H locs 0 0 Q (F0 m 99 ls []) := by
                  intro  H locs hP hD hS ls hl hf
                  rw [hj99_117] at hf
                  refine lv_aload_n hx hb dX9_copy_99 rfl (lv_at hl 0 rfl) ?_
                  refine lv_iconst (v := (2 : Int32)) hx hb dX9_copy_100 (by decide) ?_
                  obtain ⟨r118, S119, hc120, hf⟩ := zz_b2s hf
                  refine zz_ji0 (va_runV (As := [.int (2 : Int32)]) (rest := []) hfx (zc_X9_found l D tb q k F (2 : Int32) S r118 S119 hc120 H.size) (cwV 1 hts gX9_copy_X9_found rfl rfl rfl (by decide +kernel) ⟨Nat.le_of_ble_eq_true rfl, Nat.le_of_ble_eq_true rfl⟩) (zz_pre0V hK hP hD hS hA hE 0 rfl rfl rfl) rfl rfl hl.1 rfl (lv_room (Nat.le_of_ble_eq_true rfl)) dX9_copy_101 ⟨Nat.zero_le _, Nat.zero_le _⟩) hD hS hA (fun H locs hP hD hS => ?_)
                  obtain ⟨rfl, rfl⟩ := zz_e2 hf
                  exact hret _ _ _ _ dX9_copy_104 hP hD hS
                refine lv_if_eq (tgt := 99) hx hb dX9_copy_84 (by decide) (fun c84 => ?_) (fun c84 => ?_)
                · have hf := zz_ps hf c84
                  exact Kj99_117  _ _ hP hD hS ls (lv_sub hl [2] rfl) hf
                · have hf := zz_ng hf c84
                  refine lv_aload hx hb dX9_copy_87 (lv_at hl 0 rfl) ?_
                  refine lv_iload hx hb dX9_copy_89 (lv_at hl 6 rfl) ?_
                  refine lv_iload hx hb dX9_copy_91 (lv_at hl 7 rfl) ?_
                  obtain ⟨r121, hc122, hf⟩ := zz_b1s hf
                  refine zz_ji (va_runV (As := [.int u3, .int u4]) (rest := []) hfx (zc_X5_hasItems l D tb (q 23) (q 24) (k 24) F u3 u4 (zz_gI S 11) (zz_gI S 12) (zz_gI S 13) (zz_gA S 12) r121 hc122 H.size) (cwV 2 hts gX9_copy_X5_hasItems rfl rfl rfl (by decide +kernel) ⟨Nat.le_of_ble_eq_true rfl, Nat.le_of_ble_eq_true rfl⟩) (zz_preV hK hP hD hS hA hE [23, 24] [14] rfl (by decide) rfl 23 rfl rfl rfl) rfl rfl hl.1 rfl (lv_room (Nat.le_of_ble_eq_true rfl)) dX9_copy_93 ⟨Nat.zero_le _, Nat.zero_le _⟩) hP hD hS hA [23, 24] rfl rfl (fun H locs hP hD hS => ?_)
                  have hP : va_P D vwCl (zw_9 q k S) H := hP
                  have hD : va_D A (zw_9 q k S) := hD
                  refine lv_if_ne (tgt := 105) hx hb dX9_copy_96 (by decide) (fun c96 => ?_) (fun c96 => ?_)
                  · have hf := zz_ng hf c96
                    refine lv_aload hx hb dX9_copy_105 (lv_at hl 1 rfl) ?_
                    refine va_get (D := D) (ci := 5) (v := .ref (q 24)) (C := RX5) (T := TX5) (N := 4) hx hb hts inX5 hown hK hP 23 rfl rfl 0 (by decide) lk301 (fun _ h9 => h9) rfl dX9_copy_107 ?_
                    refine lv_iload_n hx hb dX9_copy_110 rfl (lv_at hl 4 rfl) ?_
                    refine lv_aload hx hb dX9_copy_111 (lv_at hl 0 rfl) ?_
                    refine va_get (D := D) (ci := 5) (v := .ref (q 24)) (C := RX5) (T := TX5) (N := 4) hx hb hts inX5 hown hK hP 23 rfl rfl 0 (by decide) lk301 (fun _ h9 => h9) rfl dX9_copy_113 ?_
                    refine lv_iload hx hb dX9_copy_116 (lv_at hl 6 rfl) ?_
                    refine lv_iload hx hb dX9_copy_118 (lv_at hl 7 rfl) ?_
                    obtain ⟨hg123, hf⟩ := zz_gd hf
                    obtain ⟨hg124, hf⟩ := zz_gd hf
                    obtain ⟨hg125, hf⟩ := zz_gd hf
                    obtain ⟨hg126, hf⟩ := zz_gd hf
                    obtain ⟨hg127, hf⟩ := zz_gd hf
                    obtain ⟨S128, hS128, hf⟩ := zz_lts hf
                    refine va_copyi hx hb (hml.trans hl.1.symm) hown lkm310 (hts (.native arraycopyName) (by decide +kernel)) (hts (.static arraycopyName) (by decide +kernel)) (hts (.initialized "java/lang/System") (by decide +kernel)) hK hP hD hS 24 24 14 14 rfl rfl rfl rfl rfl hg123 hg124 hg125 hg126 hg127 (fun _ _ => rfl) (Nat.le_of_ble_eq_true rfl) (Nat.le_of_ble_eq_true rfl) dX9_copy_120 (fun H locs hP hD hS => ?_)
                    have hP : va_P D vwCl (zw_9 q k S128) H := by rw [hS128]; exact hP
                    have hD : va_D A (zw_9 q k S128) := by rw [hS128]; exact hD
                    refine lv_iconst (v := (1 : Int32)) hx hb dX9_copy_123 (by decide) ?_
                    obtain ⟨rfl, rfl⟩ := zz_e2 hf
                    exact hret _ _ _ _ dX9_copy_124 hP hD hS
                  · have hf := zz_ps hf c96
                    exact Kj99_117  _ _ hP hD hS ls (lv_sub hl [2] rfl) hf
              · have hf := zz_ng hf c67
                refine lv_aload_n hx hb dX9_copy_70 rfl (lv_at hl 2 rfl) ?_
                refine lv_iconst (v := (4 : Int32)) hx hb dX9_copy_71 (by decide) ?_
                obtain ⟨r129, S130, hc131, hf⟩ := zz_b2s hf
                refine zz_ji0 (va_runV (As := [.int (4 : Int32)]) (rest := []) hfx (zc_X9_found l D tb q k F (4 : Int32) S r129 S130 hc131 H.size) (cwV 1 hts gX9_copy_X9_found rfl rfl rfl (by decide +kernel) ⟨Nat.le_of_ble_eq_true rfl, Nat.le_of_ble_eq_true rfl⟩) (zz_pre0V hK hP hD hS hA hE 0 rfl rfl rfl) rfl rfl hl.1 rfl (lv_room (Nat.le_of_ble_eq_true rfl)) dX9_copy_72 ⟨Nat.zero_le _, Nat.zero_le _⟩) hD hS hA (fun H locs hP hD hS => ?_)
                obtain ⟨rfl, rfl⟩ := zz_e2 hf
                exact hret _ _ _ _ dX9_copy_75 hP hD hS
            · have hf := zz_ng hf c48
              exact Kj51_111  _ _ hP hD hS ls (lv_sub hl [2] rfl) hf
        have hf := zz_ng hf ci32_1
        by_cases ci32_2 : u2 = (2 : Int32)
        · have hf := zz_ps hf ci32_2
          have hl : lv_has ls 8 [(6, .ref (q 23)), (0, .ref (q 0)), (1, .int (1 : Int32)), (2, .int u1), (3, .int (2 : Int32)), (4, .int u3), (5, .int u4)] := ci32_2 ▸ hl
          refine zz_ti (y := (2 : Int32)) ci32_2.symm ?_
          refine va_aldq hx hb hK hP 20 12 rfl rfl (show zz_in (2 : Int32) 4 by decide) dX9_copy_32 ?_
          refine W.eq (g2 := F0 m 33 ls [.ref (q 25)]) rfl ?_
          refine lv_astore (lv' := [(7, .ref (q 25)), (6, .ref (q 23)), (0, .ref (q 0)), (1, .int (1 : Int32)), (2, .int u1), (3, .int (2 : Int32)), (4, .int u3), (5, .int u4)]) hx hb dX9_copy_33 hl (by decide) rfl (fun ls hl => ?_)
          refine lv_aload hx hb dX9_copy_35 (lv_at hl 1 rfl) ?_
          refine va_get (D := D) (ci := 5) (v := .int (zz_gI S 11)) (C := RX5) (T := TX5) (N := 4) hx hb hts inX5 hown hK hP 23 rfl rfl 1 (by decide) lk235 (fun _ h9 => h9) rfl dX9_copy_37 ?_
          obtain ⟨j51_132, hj51_132, hf⟩ := zz_lts hf
          have Kj51_132 : ∀  (H : Heap) (locs : List Loc), va_P D vwCl (zw_9 q k S) H → va_D A (zw_9 q k S) → va_S A s.heap H locs → ∀ ls : Array Slot, lv_has ls 8 [(0, .ref (q 0))] → j51_132 () = some (r, o1) → W p l e rmX9_copy s m args below meth c H locs 0 0 Q (F0 m 51 ls []) := by
            intro  H locs hP hD hS ls hl hf
            rw [hj51_132] at hf
            refine lv_aload_n hx hb dX9_copy_51 rfl (lv_at hl 0 rfl) ?_
            refine lv_iconst (v := (1 : Int32)) hx hb dX9_copy_52 (by decide) ?_
            obtain ⟨r133, S134, hc135, hf⟩ := zz_b2s hf
            refine zz_ji0 (va_runV (As := [.int (1 : Int32)]) (rest := []) hfx (zc_X9_found l D tb q k F (1 : Int32) S r133 S134 hc135 H.size) (cwV 1 hts gX9_copy_X9_found rfl rfl rfl (by decide +kernel) ⟨Nat.le_of_ble_eq_true rfl, Nat.le_of_ble_eq_true rfl⟩) (zz_pre0V hK hP hD hS hA hE 0 rfl rfl rfl) rfl rfl hl.1 rfl (lv_room (Nat.le_of_ble_eq_true rfl)) dX9_copy_53 ⟨Nat.zero_le _, Nat.zero_le _⟩) hD hS hA (fun H locs hP hD hS => ?_)
            obtain ⟨rfl, rfl⟩ := zz_e2 hf
            exact hret _ _ _ _ dX9_copy_56 hP hD hS
          refine lv_if_ne (tgt := 51) hx hb dX9_copy_40 (by decide) (fun c40 => ?_) (fun c40 => ?_)
          · have hf := zz_ng hf c40
            exact Kj51_132  _ _ hP hD hS ls (lv_sub hl [2] rfl) hf
          · have hf := zz_ps hf c40
            refine lv_aload hx hb dX9_copy_43 (lv_at hl 0 rfl) ?_
            refine va_get (D := D) (ci := 5) (v := .int (zz_gI S 14)) (C := RX5) (T := TX5) (N := 4) hx hb hts inX5 hown hK hP 25 rfl rfl 1 (by decide) lk235 (fun _ h9 => h9) rfl dX9_copy_45 ?_
            refine lv_if_eq (tgt := 57) hx hb dX9_copy_48 (by decide) (fun c48 => ?_) (fun c48 => ?_)
            · have hf := zz_ps hf c48
              refine lv_aload hx hb dX9_copy_57 (lv_at hl 1 rfl) ?_
              refine va_get (D := D) (ci := 5) (v := .int (zz_gI S 12)) (C := RX5) (T := TX5) (N := 4) hx hb hts inX5 hown hK hP 23 rfl rfl 2 (by decide) lk304 (fun _ h9 => h9) rfl dX9_copy_59 ?_
              refine lv_aload hx hb dX9_copy_62 (lv_at hl 0 rfl) ?_
              refine va_get (D := D) (ci := 5) (v := .int (zz_gI S 15)) (C := RX5) (T := TX5) (N := 4) hx hb hts inX5 hown hK hP 25 rfl rfl 2 (by decide) lk304 (fun _ h9 => h9) rfl dX9_copy_64 ?_
              refine lv_icmp_eq (tgt := 76) hx hb dX9_copy_67 (by decide) (fun c67 => ?_) (fun c67 => ?_)
              · have hf := zz_ps hf c67
                refine lv_aload hx hb dX9_copy_76 (lv_at hl 1 rfl) ?_
                refine lv_iload_n hx hb dX9_copy_78 rfl (lv_at hl 4 rfl) ?_
                refine lv_iload hx hb dX9_copy_79 (lv_at hl 7 rfl) ?_
                obtain ⟨r136, hc137, hf⟩ := zz_b1s hf
                refine zz_ji (va_runV (As := [.int u1, .int u4]) (rest := []) hfx (zc_X5_hasItems l D tb (q 23) (q 24) (k 24) F u1 u4 (zz_gI S 11) (zz_gI S 12) (zz_gI S 13) (zz_gA S 12) r136 hc137 H.size) (cwV 2 hts gX9_copy_X5_hasItems rfl rfl rfl (by decide +kernel) ⟨Nat.le_of_ble_eq_true rfl, Nat.le_of_ble_eq_true rfl⟩) (zz_preV hK hP hD hS hA hE [23, 24] [14] rfl (by decide) rfl 23 rfl rfl rfl) rfl rfl hl.1 rfl (lv_room (Nat.le_of_ble_eq_true rfl)) dX9_copy_81 ⟨Nat.zero_le _, Nat.zero_le _⟩) hP hD hS hA [23, 24] rfl rfl (fun H locs hP hD hS => ?_)
                have hP : va_P D vwCl (zw_9 q k S) H := hP
                have hD : va_D A (zw_9 q k S) := hD
                obtain ⟨j99_138, hj99_138, hf⟩ := zz_lts hf
                have Kj99_138 : ∀  (H : Heap) (locs : List Loc), va_P D vwCl (zw_9 q k S) H → va_D A (zw_9 q k S) → va_S A s.heap H locs → ∀ ls : Array Slot, lv_has ls 8 [(0, .ref (q 0))] → j99_138 () = some (r, o1) → W p l e rmX9_copy s m args below meth c H locs 0 0 Q (F0 m 99 ls []) := by
                  intro  H locs hP hD hS ls hl hf
                  rw [hj99_138] at hf
                  refine lv_aload_n hx hb dX9_copy_99 rfl (lv_at hl 0 rfl) ?_
                  refine lv_iconst (v := (2 : Int32)) hx hb dX9_copy_100 (by decide) ?_
                  obtain ⟨r139, S140, hc141, hf⟩ := zz_b2s hf
                  refine zz_ji0 (va_runV (As := [.int (2 : Int32)]) (rest := []) hfx (zc_X9_found l D tb q k F (2 : Int32) S r139 S140 hc141 H.size) (cwV 1 hts gX9_copy_X9_found rfl rfl rfl (by decide +kernel) ⟨Nat.le_of_ble_eq_true rfl, Nat.le_of_ble_eq_true rfl⟩) (zz_pre0V hK hP hD hS hA hE 0 rfl rfl rfl) rfl rfl hl.1 rfl (lv_room (Nat.le_of_ble_eq_true rfl)) dX9_copy_101 ⟨Nat.zero_le _, Nat.zero_le _⟩) hD hS hA (fun H locs hP hD hS => ?_)
                  obtain ⟨rfl, rfl⟩ := zz_e2 hf
                  exact hret _ _ _ _ dX9_copy_104 hP hD hS
                refine lv_if_eq (tgt := 99) hx hb dX9_copy_84 (by decide) (fun c84 => ?_) (fun c84 => ?_)
                · have hf := zz_ps hf c84
                  exact Kj99_138  _ _ hP hD hS ls (lv_sub hl [2] rfl) hf
                · have hf := zz_ng hf c84
                  refine lv_aload hx hb dX9_copy_87 (lv_at hl 0 rfl) ?_
                  refine lv_iload hx hb dX9_copy_89 (lv_at hl 6 rfl) ?_
                  refine lv_iload hx hb dX9_copy_91 (lv_at hl 7 rfl) ?_
                  obtain ⟨r142, hc143, hf⟩ := zz_b1s hf
                  refine zz_ji (va_runV (As := [.int u3, .int u4]) (rest := []) hfx (zc_X5_hasItems l D tb (q 25) (q 26) (k 26) F u3 u4 (zz_gI S 14) (zz_gI S 15) (zz_gI S 16) (zz_gA S 13) r142 hc143 H.size) (cwV 2 hts gX9_copy_X5_hasItems rfl rfl rfl (by decide +kernel) ⟨Nat.le_of_ble_eq_true rfl, Nat.le_of_ble_eq_true rfl⟩) (zz_preV hK hP hD hS hA hE [25, 26] [15] rfl (by decide) rfl 25 rfl rfl rfl) rfl rfl hl.1 rfl (lv_room (Nat.le_of_ble_eq_true rfl)) dX9_copy_93 ⟨Nat.zero_le _, Nat.zero_le _⟩) hP hD hS hA [25, 26] rfl rfl (fun H locs hP hD hS => ?_)
                  have hP : va_P D vwCl (zw_9 q k S) H := hP
                  have hD : va_D A (zw_9 q k S) := hD
                  refine lv_if_ne (tgt := 105) hx hb dX9_copy_96 (by decide) (fun c96 => ?_) (fun c96 => ?_)
                  · have hf := zz_ng hf c96
                    refine lv_aload hx hb dX9_copy_105 (lv_at hl 1 rfl) ?_
                    refine va_get (D := D) (ci := 5) (v := .ref (q 24)) (C := RX5) (T := TX5) (N := 4) hx hb hts inX5 hown hK hP 23 rfl rfl 0 (by decide) lk301 (fun _ h9 => h9) rfl dX9_copy_107 ?_
                    refine lv_iload_n hx hb dX9_copy_110 rfl (lv_at hl 4 rfl) ?_
                    refine lv_aload hx hb dX9_copy_111 (lv_at hl 0 rfl) ?_
                    refine va_get (D := D) (ci := 5) (v := .ref (q 26)) (C := RX5) (T := TX5) (N := 4) hx hb hts inX5 hown hK hP 25 rfl rfl 0 (by decide) lk301 (fun _ h9 => h9) rfl dX9_copy_113 ?_
                    refine lv_iload hx hb dX9_copy_116 (lv_at hl 6 rfl) ?_
                    refine lv_iload hx hb dX9_copy_118 (lv_at hl 7 rfl) ?_
                    obtain ⟨hg144, hf⟩ := zz_gd hf
                    obtain ⟨hg145, hf⟩ := zz_gd hf
                    obtain ⟨hg146, hf⟩ := zz_gd hf
                    obtain ⟨hg147, hf⟩ := zz_gd hf
                    obtain ⟨hg148, hf⟩ := zz_gd hf
                    obtain ⟨S149, hS149, hf⟩ := zz_lts hf
                    refine va_copyi hx hb (hml.trans hl.1.symm) hown lkm310 (hts (.native arraycopyName) (by decide +kernel)) (hts (.static arraycopyName) (by decide +kernel)) (hts (.initialized "java/lang/System") (by decide +kernel)) hK hP hD hS 24 26 14 15 rfl rfl rfl rfl rfl hg144 hg145 hg146 hg147 hg148 (fun _ _ => rfl) (Nat.le_of_ble_eq_true rfl) (Nat.le_of_ble_eq_true rfl) dX9_copy_120 (fun H locs hP hD hS => ?_)
                    have hP : va_P D vwCl (zw_9 q k S149) H := by rw [hS149]; exact hP
                    have hD : va_D A (zw_9 q k S149) := by rw [hS149]; exact hD
                    refine lv_iconst (v := (1 : Int32)) hx hb dX9_copy_123 (by decide) ?_
                    obtain ⟨rfl, rfl⟩ := zz_e2 hf
                    exact hret _ _ _ _ dX9_copy_124 hP hD hS
                  · have hf := zz_ps hf c96
                    exact Kj99_138  _ _ hP hD hS ls (lv_sub hl [2] rfl) hf
              · have hf := zz_ng hf c67
                refine lv_aload_n hx hb dX9_copy_70 rfl (lv_at hl 2 rfl) ?_
                refine lv_iconst (v := (4 : Int32)) hx hb dX9_copy_71 (by decide) ?_
                obtain ⟨r150, S151, hc152, hf⟩ := zz_b2s hf
                refine zz_ji0 (va_runV (As := [.int (4 : Int32)]) (rest := []) hfx (zc_X9_found l D tb q k F (4 : Int32) S r150 S151 hc152 H.size) (cwV 1 hts gX9_copy_X9_found rfl rfl rfl (by decide +kernel) ⟨Nat.le_of_ble_eq_true rfl, Nat.le_of_ble_eq_true rfl⟩) (zz_pre0V hK hP hD hS hA hE 0 rfl rfl rfl) rfl rfl hl.1 rfl (lv_room (Nat.le_of_ble_eq_true rfl)) dX9_copy_72 ⟨Nat.zero_le _, Nat.zero_le _⟩) hD hS hA (fun H locs hP hD hS => ?_)
                obtain ⟨rfl, rfl⟩ := zz_e2 hf
                exact hret _ _ _ _ dX9_copy_75 hP hD hS
            · have hf := zz_ng hf c48
              exact Kj51_132  _ _ hP hD hS ls (lv_sub hl [2] rfl) hf
        have hf := zz_ng hf ci32_2
        by_cases ci32_3 : u2 = (3 : Int32)
        · have hf := zz_ps hf ci32_3
          have hl : lv_has ls 8 [(6, .ref (q 23)), (0, .ref (q 0)), (1, .int (1 : Int32)), (2, .int u1), (3, .int (3 : Int32)), (4, .int u3), (5, .int u4)] := ci32_3 ▸ hl
          refine zz_ti (y := (3 : Int32)) ci32_3.symm ?_
          refine va_aldq hx hb hK hP 20 12 rfl rfl (show zz_in (3 : Int32) 4 by decide) dX9_copy_32 ?_
          refine W.eq (g2 := F0 m 33 ls [.ref (q 27)]) rfl ?_
          refine lv_astore (lv' := [(7, .ref (q 27)), (6, .ref (q 23)), (0, .ref (q 0)), (1, .int (1 : Int32)), (2, .int u1), (3, .int (3 : Int32)), (4, .int u3), (5, .int u4)]) hx hb dX9_copy_33 hl (by decide) rfl (fun ls hl => ?_)
          refine lv_aload hx hb dX9_copy_35 (lv_at hl 1 rfl) ?_
          refine va_get (D := D) (ci := 5) (v := .int (zz_gI S 11)) (C := RX5) (T := TX5) (N := 4) hx hb hts inX5 hown hK hP 23 rfl rfl 1 (by decide) lk235 (fun _ h9 => h9) rfl dX9_copy_37 ?_
          obtain ⟨j51_153, hj51_153, hf⟩ := zz_lts hf
          have Kj51_153 : ∀  (H : Heap) (locs : List Loc), va_P D vwCl (zw_9 q k S) H → va_D A (zw_9 q k S) → va_S A s.heap H locs → ∀ ls : Array Slot, lv_has ls 8 [(0, .ref (q 0))] → j51_153 () = some (r, o1) → W p l e rmX9_copy s m args below meth c H locs 0 0 Q (F0 m 51 ls []) := by
            intro  H locs hP hD hS ls hl hf
            rw [hj51_153] at hf
            refine lv_aload_n hx hb dX9_copy_51 rfl (lv_at hl 0 rfl) ?_
            refine lv_iconst (v := (1 : Int32)) hx hb dX9_copy_52 (by decide) ?_
            obtain ⟨r154, S155, hc156, hf⟩ := zz_b2s hf
            refine zz_ji0 (va_runV (As := [.int (1 : Int32)]) (rest := []) hfx (zc_X9_found l D tb q k F (1 : Int32) S r154 S155 hc156 H.size) (cwV 1 hts gX9_copy_X9_found rfl rfl rfl (by decide +kernel) ⟨Nat.le_of_ble_eq_true rfl, Nat.le_of_ble_eq_true rfl⟩) (zz_pre0V hK hP hD hS hA hE 0 rfl rfl rfl) rfl rfl hl.1 rfl (lv_room (Nat.le_of_ble_eq_true rfl)) dX9_copy_53 ⟨Nat.zero_le _, Nat.zero_le _⟩) hD hS hA (fun H locs hP hD hS => ?_)
            obtain ⟨rfl, rfl⟩ := zz_e2 hf
            exact hret _ _ _ _ dX9_copy_56 hP hD hS
          refine lv_if_ne (tgt := 51) hx hb dX9_copy_40 (by decide) (fun c40 => ?_) (fun c40 => ?_)
          · have hf := zz_ng hf c40
            exact Kj51_153  _ _ hP hD hS ls (lv_sub hl [2] rfl) hf
          · have hf := zz_ps hf c40
            refine lv_aload hx hb dX9_copy_43 (lv_at hl 0 rfl) ?_
            refine va_get (D := D) (ci := 5) (v := .int (zz_gI S 17)) (C := RX5) (T := TX5) (N := 4) hx hb hts inX5 hown hK hP 27 rfl rfl 1 (by decide) lk235 (fun _ h9 => h9) rfl dX9_copy_45 ?_
            refine lv_if_eq (tgt := 57) hx hb dX9_copy_48 (by decide) (fun c48 => ?_) (fun c48 => ?_)
            · have hf := zz_ps hf c48
              refine lv_aload hx hb dX9_copy_57 (lv_at hl 1 rfl) ?_
              refine va_get (D := D) (ci := 5) (v := .int (zz_gI S 12)) (C := RX5) (T := TX5) (N := 4) hx hb hts inX5 hown hK hP 23 rfl rfl 2 (by decide) lk304 (fun _ h9 => h9) rfl dX9_copy_59 ?_
              refine lv_aload hx hb dX9_copy_62 (lv_at hl 0 rfl) ?_
              refine va_get (D := D) (ci := 5) (v := .int (zz_gI S 18)) (C := RX5) (T := TX5) (N := 4) hx hb hts inX5 hown hK hP 27 rfl rfl 2 (by decide) lk304 (fun _ h9 => h9) rfl dX9_copy_64 ?_
              refine lv_icmp_eq (tgt := 76) hx hb dX9_copy_67 (by decide) (fun c67 => ?_) (fun c67 => ?_)
              · have hf := zz_ps hf c67
                refine lv_aload hx hb dX9_copy_76 (lv_at hl 1 rfl) ?_
                refine lv_iload_n hx hb dX9_copy_78 rfl (lv_at hl 4 rfl) ?_
                refine lv_iload hx hb dX9_copy_79 (lv_at hl 7 rfl) ?_
                obtain ⟨r157, hc158, hf⟩ := zz_b1s hf
                refine zz_ji (va_runV (As := [.int u1, .int u4]) (rest := []) hfx (zc_X5_hasItems l D tb (q 23) (q 24) (k 24) F u1 u4 (zz_gI S 11) (zz_gI S 12) (zz_gI S 13) (zz_gA S 12) r157 hc158 H.size) (cwV 2 hts gX9_copy_X5_hasItems rfl rfl rfl (by decide +kernel) ⟨Nat.le_of_ble_eq_true rfl, Nat.le_of_ble_eq_true rfl⟩) (zz_preV hK hP hD hS hA hE [23, 24] [14] rfl (by decide) rfl 23 rfl rfl rfl) rfl rfl hl.1 rfl (lv_room (Nat.le_of_ble_eq_true rfl)) dX9_copy_81 ⟨Nat.zero_le _, Nat.zero_le _⟩) hP hD hS hA [23, 24] rfl rfl (fun H locs hP hD hS => ?_)
                have hP : va_P D vwCl (zw_9 q k S) H := hP
                have hD : va_D A (zw_9 q k S) := hD
                obtain ⟨j99_159, hj99_159, hf⟩ := zz_lts hf
                have Kj99_159 : ∀  (H : Heap) (locs : List Loc), va_P D vwCl (zw_9 q k S) H → va_D A (zw_9 q k S) → va_S A s.heap H locs → ∀ ls : Array Slot, lv_has ls 8 [(0, .ref (q 0))] → j99_159 () = some (r, o1) → W p l e rmX9_copy s m args below meth c H locs 0 0 Q (F0 m 99 ls []) := by
                  intro  H locs hP hD hS ls hl hf
                  rw [hj99_159] at hf
                  refine lv_aload_n hx hb dX9_copy_99 rfl (lv_at hl 0 rfl) ?_
                  refine lv_iconst (v := (2 : Int32)) hx hb dX9_copy_100 (by decide) ?_
                  obtain ⟨r160, S161, hc162, hf⟩ := zz_b2s hf
                  refine zz_ji0 (va_runV (As := [.int (2 : Int32)]) (rest := []) hfx (zc_X9_found l D tb q k F (2 : Int32) S r160 S161 hc162 H.size) (cwV 1 hts gX9_copy_X9_found rfl rfl rfl (by decide +kernel) ⟨Nat.le_of_ble_eq_true rfl, Nat.le_of_ble_eq_true rfl⟩) (zz_pre0V hK hP hD hS hA hE 0 rfl rfl rfl) rfl rfl hl.1 rfl (lv_room (Nat.le_of_ble_eq_true rfl)) dX9_copy_101 ⟨Nat.zero_le _, Nat.zero_le _⟩) hD hS hA (fun H locs hP hD hS => ?_)
                  obtain ⟨rfl, rfl⟩ := zz_e2 hf
                  exact hret _ _ _ _ dX9_copy_104 hP hD hS
                refine lv_if_eq (tgt := 99) hx hb dX9_copy_84 (by decide) (fun c84 => ?_) (fun c84 => ?_)
                · have hf := zz_ps hf c84
                  exact Kj99_159  _ _ hP hD hS ls (lv_sub hl [2] rfl) hf
                · have hf := zz_ng hf c84
                  refine lv_aload hx hb dX9_copy_87 (lv_at hl 0 rfl) ?_
                  refine lv_iload hx hb dX9_copy_89 (lv_at hl 6 rfl) ?_
                  refine lv_iload hx hb dX9_copy_91 (lv_at hl 7 rfl) ?_
                  obtain ⟨r163, hc164, hf⟩ := zz_b1s hf
                  refine zz_ji (va_runV (As := [.int u3, .int u4]) (rest := []) hfx (zc_X5_hasItems l D tb (q 27) (q 28) (k 28) F u3 u4 (zz_gI S 17) (zz_gI S 18) (zz_gI S 19) (zz_gA S 14) r163 hc164 H.size) (cwV 2 hts gX9_copy_X5_hasItems rfl rfl rfl (by decide +kernel) ⟨Nat.le_of_ble_eq_true rfl, Nat.le_of_ble_eq_true rfl⟩) (zz_preV hK hP hD hS hA hE [27, 28] [16] rfl (by decide) rfl 27 rfl rfl rfl) rfl rfl hl.1 rfl (lv_room (Nat.le_of_ble_eq_true rfl)) dX9_copy_93 ⟨Nat.zero_le _, Nat.zero_le _⟩) hP hD hS hA [27, 28] rfl rfl (fun H locs hP hD hS => ?_)
                  have hP : va_P D vwCl (zw_9 q k S) H := hP
                  have hD : va_D A (zw_9 q k S) := hD
                  refine lv_if_ne (tgt := 105) hx hb dX9_copy_96 (by decide) (fun c96 => ?_) (fun c96 => ?_)
                  · have hf := zz_ng hf c96
                    refine lv_aload hx hb dX9_copy_105 (lv_at hl 1 rfl) ?_
                    refine va_get (D := D) (ci := 5) (v := .ref (q 24)) (C := RX5) (T := TX5) (N := 4) hx hb hts inX5 hown hK hP 23 rfl rfl 0 (by decide) lk301 (fun _ h9 => h9) rfl dX9_copy_107 ?_
                    refine lv_iload_n hx hb dX9_copy_110 rfl (lv_at hl 4 rfl) ?_
                    refine lv_aload hx hb dX9_copy_111 (lv_at hl 0 rfl) ?_
                    refine va_get (D := D) (ci := 5) (v := .ref (q 28)) (C := RX5) (T := TX5) (N := 4) hx hb hts inX5 hown hK hP 27 rfl rfl 0 (by decide) lk301 (fun _ h9 => h9) rfl dX9_copy_113 ?_
                    refine lv_iload hx hb dX9_copy_116 (lv_at hl 6 rfl) ?_
                    refine lv_iload hx hb dX9_copy_118 (lv_at hl 7 rfl) ?_
                    obtain ⟨hg165, hf⟩ := zz_gd hf
                    obtain ⟨hg166, hf⟩ := zz_gd hf
                    obtain ⟨hg167, hf⟩ := zz_gd hf
                    obtain ⟨hg168, hf⟩ := zz_gd hf
                    obtain ⟨hg169, hf⟩ := zz_gd hf
                    obtain ⟨S170, hS170, hf⟩ := zz_lts hf
                    refine va_copyi hx hb (hml.trans hl.1.symm) hown lkm310 (hts (.native arraycopyName) (by decide +kernel)) (hts (.static arraycopyName) (by decide +kernel)) (hts (.initialized "java/lang/System") (by decide +kernel)) hK hP hD hS 24 28 14 16 rfl rfl rfl rfl rfl hg165 hg166 hg167 hg168 hg169 (fun _ _ => rfl) (Nat.le_of_ble_eq_true rfl) (Nat.le_of_ble_eq_true rfl) dX9_copy_120 (fun H locs hP hD hS => ?_)
                    have hP : va_P D vwCl (zw_9 q k S170) H := by rw [hS170]; exact hP
                    have hD : va_D A (zw_9 q k S170) := by rw [hS170]; exact hD
                    refine lv_iconst (v := (1 : Int32)) hx hb dX9_copy_123 (by decide) ?_
                    obtain ⟨rfl, rfl⟩ := zz_e2 hf
                    exact hret _ _ _ _ dX9_copy_124 hP hD hS
                  · have hf := zz_ps hf c96
                    exact Kj99_159  _ _ hP hD hS ls (lv_sub hl [2] rfl) hf
              · have hf := zz_ng hf c67
                refine lv_aload_n hx hb dX9_copy_70 rfl (lv_at hl 2 rfl) ?_
                refine lv_iconst (v := (4 : Int32)) hx hb dX9_copy_71 (by decide) ?_
                obtain ⟨r171, S172, hc173, hf⟩ := zz_b2s hf
                refine zz_ji0 (va_runV (As := [.int (4 : Int32)]) (rest := []) hfx (zc_X9_found l D tb q k F (4 : Int32) S r171 S172 hc173 H.size) (cwV 1 hts gX9_copy_X9_found rfl rfl rfl (by decide +kernel) ⟨Nat.le_of_ble_eq_true rfl, Nat.le_of_ble_eq_true rfl⟩) (zz_pre0V hK hP hD hS hA hE 0 rfl rfl rfl) rfl rfl hl.1 rfl (lv_room (Nat.le_of_ble_eq_true rfl)) dX9_copy_72 ⟨Nat.zero_le _, Nat.zero_le _⟩) hD hS hA (fun H locs hP hD hS => ?_)
                obtain ⟨rfl, rfl⟩ := zz_e2 hf
                exact hret _ _ _ _ dX9_copy_75 hP hD hS
            · have hf := zz_ng hf c48
              exact Kj51_153  _ _ hP hD hS ls (lv_sub hl [2] rfl) hf
        have hf := zz_ng hf ci32_3
        exact nomatch hf
      have hf := zz_ng hf ci24_1
      by_cases ci24_2 : u0 = (2 : Int32)
      · have hf := zz_ps hf ci24_2
        have hl : lv_has ls 8 [(0, .ref (q 0)), (1, .int (2 : Int32)), (2, .int u1), (3, .int u2), (4, .int u3), (5, .int u4)] := ci24_2 ▸ hl
        refine zz_ti (y := (2 : Int32)) ci24_2.symm ?_
        refine va_aldq hx hb hK hP 20 12 rfl rfl (show zz_in (2 : Int32) 4 by decide) dX9_copy_24 ?_
        refine W.eq (g2 := F0 m 25 ls [.ref (q 25)]) rfl ?_
        refine lv_astore (lv' := [(6, .ref (q 25)), (0, .ref (q 0)), (1, .int (2 : Int32)), (2, .int u1), (3, .int u2), (4, .int u3), (5, .int u4)]) hx hb dX9_copy_25 hl (by decide) rfl (fun ls hl => ?_)
        refine lv_aload_n hx hb dX9_copy_27 rfl (lv_at hl 1 rfl) ?_
        refine va_get (D := D) (ci := 9) (v := .ref (q 20)) (C := RX9) (T := TX9) (N := 18) hx hb hts inX9 hown hK hP 0 rfl rfl 7 (by decide) lk52 (fun _ h9 => h9) rfl dX9_copy_28 ?_
        refine lv_iload_n hx hb dX9_copy_31 rfl (lv_at hl 4 rfl) ?_
        by_cases ci32_0 : u2 = (0 : Int32)
        · have hf := zz_ps hf ci32_0
          have hl : lv_has ls 8 [(6, .ref (q 25)), (0, .ref (q 0)), (1, .int (2 : Int32)), (2, .int u1), (3, .int (0 : Int32)), (4, .int u3), (5, .int u4)] := ci32_0 ▸ hl
          refine zz_ti (y := (0 : Int32)) ci32_0.symm ?_
          refine va_aldq hx hb hK hP 20 12 rfl rfl (show zz_in (0 : Int32) 4 by decide) dX9_copy_32 ?_
          refine W.eq (g2 := F0 m 33 ls [.ref (q 21)]) rfl ?_
          refine lv_astore (lv' := [(7, .ref (q 21)), (6, .ref (q 25)), (0, .ref (q 0)), (1, .int (2 : Int32)), (2, .int u1), (3, .int (0 : Int32)), (4, .int u3), (5, .int u4)]) hx hb dX9_copy_33 hl (by decide) rfl (fun ls hl => ?_)
          refine lv_aload hx hb dX9_copy_35 (lv_at hl 1 rfl) ?_
          refine va_get (D := D) (ci := 5) (v := .int (zz_gI S 14)) (C := RX5) (T := TX5) (N := 4) hx hb hts inX5 hown hK hP 25 rfl rfl 1 (by decide) lk235 (fun _ h9 => h9) rfl dX9_copy_37 ?_
          obtain ⟨j51_174, hj51_174, hf⟩ := zz_lts hf
          have Kj51_174 : ∀  (H : Heap) (locs : List Loc), va_P D vwCl (zw_9 q k S) H → va_D A (zw_9 q k S) → va_S A s.heap H locs → ∀ ls : Array Slot, lv_has ls 8 [(0, .ref (q 0))] → j51_174 () = some (r, o1) → W p l e rmX9_copy s m args below meth c H locs 0 0 Q (F0 m 51 ls []) := by
            intro  H locs hP hD hS ls hl hf
            rw [hj51_174] at hf
            refine lv_aload_n hx hb dX9_copy_51 rfl (lv_at hl 0 rfl) ?_
            refine lv_iconst (v := (1 : Int32)) hx hb dX9_copy_52 (by decide) ?_
            obtain ⟨r175, S176, hc177, hf⟩ := zz_b2s hf
            refine zz_ji0 (va_runV (As := [.int (1 : Int32)]) (rest := []) hfx (zc_X9_found l D tb q k F (1 : Int32) S r175 S176 hc177 H.size) (cwV 1 hts gX9_copy_X9_found rfl rfl rfl (by decide +kernel) ⟨Nat.le_of_ble_eq_true rfl, Nat.le_of_ble_eq_true rfl⟩) (zz_pre0V hK hP hD hS hA hE 0 rfl rfl rfl) rfl rfl hl.1 rfl (lv_room (Nat.le_of_ble_eq_true rfl)) dX9_copy_53 ⟨Nat.zero_le _, Nat.zero_le _⟩) hD hS hA (fun H locs hP hD hS => ?_)
            obtain ⟨rfl, rfl⟩ := zz_e2 hf
            exact hret _ _ _ _ dX9_copy_56 hP hD hS
          refine lv_if_ne (tgt := 51) hx hb dX9_copy_40 (by decide) (fun c40 => ?_) (fun c40 => ?_)
          · have hf := zz_ng hf c40
            exact Kj51_174  _ _ hP hD hS ls (lv_sub hl [2] rfl) hf
          · have hf := zz_ps hf c40
            refine lv_aload hx hb dX9_copy_43 (lv_at hl 0 rfl) ?_
            refine va_get (D := D) (ci := 5) (v := .int (zz_gI S 8)) (C := RX5) (T := TX5) (N := 4) hx hb hts inX5 hown hK hP 21 rfl rfl 1 (by decide) lk235 (fun _ h9 => h9) rfl dX9_copy_45 ?_
            refine lv_if_eq (tgt := 57) hx hb dX9_copy_48 (by decide) (fun c48 => ?_) (fun c48 => ?_)
            · have hf := zz_ps hf c48
              refine lv_aload hx hb dX9_copy_57 (lv_at hl 1 rfl) ?_
              refine va_get (D := D) (ci := 5) (v := .int (zz_gI S 15)) (C := RX5) (T := TX5) (N := 4) hx hb hts inX5 hown hK hP 25 rfl rfl 2 (by decide) lk304 (fun _ h9 => h9) rfl dX9_copy_59 ?_
              refine lv_aload hx hb dX9_copy_62 (lv_at hl 0 rfl) ?_
              refine va_get (D := D) (ci := 5) (v := .int (zz_gI S 9)) (C := RX5) (T := TX5) (N := 4) hx hb hts inX5 hown hK hP 21 rfl rfl 2 (by decide) lk304 (fun _ h9 => h9) rfl dX9_copy_64 ?_
              refine lv_icmp_eq (tgt := 76) hx hb dX9_copy_67 (by decide) (fun c67 => ?_) (fun c67 => ?_)
              · have hf := zz_ps hf c67
                refine lv_aload hx hb dX9_copy_76 (lv_at hl 1 rfl) ?_
                refine lv_iload_n hx hb dX9_copy_78 rfl (lv_at hl 4 rfl) ?_
                refine lv_iload hx hb dX9_copy_79 (lv_at hl 7 rfl) ?_
                obtain ⟨r178, hc179, hf⟩ := zz_b1s hf
                refine zz_ji (va_runV (As := [.int u1, .int u4]) (rest := []) hfx (zc_X5_hasItems l D tb (q 25) (q 26) (k 26) F u1 u4 (zz_gI S 14) (zz_gI S 15) (zz_gI S 16) (zz_gA S 13) r178 hc179 H.size) (cwV 2 hts gX9_copy_X5_hasItems rfl rfl rfl (by decide +kernel) ⟨Nat.le_of_ble_eq_true rfl, Nat.le_of_ble_eq_true rfl⟩) (zz_preV hK hP hD hS hA hE [25, 26] [15] rfl (by decide) rfl 25 rfl rfl rfl) rfl rfl hl.1 rfl (lv_room (Nat.le_of_ble_eq_true rfl)) dX9_copy_81 ⟨Nat.zero_le _, Nat.zero_le _⟩) hP hD hS hA [25, 26] rfl rfl (fun H locs hP hD hS => ?_)
                have hP : va_P D vwCl (zw_9 q k S) H := hP
                have hD : va_D A (zw_9 q k S) := hD
                obtain ⟨j99_180, hj99_180, hf⟩ := zz_lts hf
                have Kj99_180 : ∀  (H : Heap) (locs : List Loc), va_P D vwCl (zw_9 q k S) H → va_D A (zw_9 q k S) → va_S A s.heap H locs → ∀ ls : Array Slot, lv_has ls 8 [(0, .ref (q 0))] → j99_180 () = some (r, o1) → W p l e rmX9_copy s m args below meth c H locs 0 0 Q (F0 m 99 ls []) := by
                  intro  H locs hP hD hS ls hl hf
                  rw [hj99_180] at hf
                  refine lv_aload_n hx hb dX9_copy_99 rfl (lv_at hl 0 rfl) ?_
                  refine lv_iconst (v := (2 : Int32)) hx hb dX9_copy_100 (by decide) ?_
                  obtain ⟨r181, S182, hc183, hf⟩ := zz_b2s hf
                  refine zz_ji0 (va_runV (As := [.int (2 : Int32)]) (rest := []) hfx (zc_X9_found l D tb q k F (2 : Int32) S r181 S182 hc183 H.size) (cwV 1 hts gX9_copy_X9_found rfl rfl rfl (by decide +kernel) ⟨Nat.le_of_ble_eq_true rfl, Nat.le_of_ble_eq_true rfl⟩) (zz_pre0V hK hP hD hS hA hE 0 rfl rfl rfl) rfl rfl hl.1 rfl (lv_room (Nat.le_of_ble_eq_true rfl)) dX9_copy_101 ⟨Nat.zero_le _, Nat.zero_le _⟩) hD hS hA (fun H locs hP hD hS => ?_)
                  obtain ⟨rfl, rfl⟩ := zz_e2 hf
                  exact hret _ _ _ _ dX9_copy_104 hP hD hS
                refine lv_if_eq (tgt := 99) hx hb dX9_copy_84 (by decide) (fun c84 => ?_) (fun c84 => ?_)
                · have hf := zz_ps hf c84
                  exact Kj99_180  _ _ hP hD hS ls (lv_sub hl [2] rfl) hf
                · have hf := zz_ng hf c84
                  refine lv_aload hx hb dX9_copy_87 (lv_at hl 0 rfl) ?_
                  refine lv_iload hx hb dX9_copy_89 (lv_at hl 6 rfl) ?_
                  refine lv_iload hx hb dX9_copy_91 (lv_at hl 7 rfl) ?_
                  obtain ⟨r184, hc185, hf⟩ := zz_b1s hf
                  refine zz_ji (va_runV (As := [.int u3, .int u4]) (rest := []) hfx (zc_X5_hasItems l D tb (q 21) (q 22) (k 22) F u3 u4 (zz_gI S 8) (zz_gI S 9) (zz_gI S 10) (zz_gA S 11) r184 hc185 H.size) (cwV 2 hts gX9_copy_X5_hasItems rfl rfl rfl (by decide +kernel) ⟨Nat.le_of_ble_eq_true rfl, Nat.le_of_ble_eq_true rfl⟩) (zz_preV hK hP hD hS hA hE [21, 22] [13] rfl (by decide) rfl 21 rfl rfl rfl) rfl rfl hl.1 rfl (lv_room (Nat.le_of_ble_eq_true rfl)) dX9_copy_93 ⟨Nat.zero_le _, Nat.zero_le _⟩) hP hD hS hA [21, 22] rfl rfl (fun H locs hP hD hS => ?_)
                  have hP : va_P D vwCl (zw_9 q k S) H := hP
                  have hD : va_D A (zw_9 q k S) := hD
                  refine lv_if_ne (tgt := 105) hx hb dX9_copy_96 (by decide) (fun c96 => ?_) (fun c96 => ?_)
                  · have hf := zz_ng hf c96
                    refine lv_aload hx hb dX9_copy_105 (lv_at hl 1 rfl) ?_
                    refine va_get (D := D) (ci := 5) (v := .ref (q 26)) (C := RX5) (T := TX5) (N := 4) hx hb hts inX5 hown hK hP 25 rfl rfl 0 (by decide) lk301 (fun _ h9 => h9) rfl dX9_copy_107 ?_
                    refine lv_iload_n hx hb dX9_copy_110 rfl (lv_at hl 4 rfl) ?_
                    refine lv_aload hx hb dX9_copy_111 (lv_at hl 0 rfl) ?_
                    refine va_get (D := D) (ci := 5) (v := .ref (q 22)) (C := RX5) (T := TX5) (N := 4) hx hb hts inX5 hown hK hP 21 rfl rfl 0 (by decide) lk301 (fun _ h9 => h9) rfl dX9_copy_113 ?_
                    refine lv_iload hx hb dX9_copy_116 (lv_at hl 6 rfl) ?_
                    refine lv_iload hx hb dX9_copy_118 (lv_at hl 7 rfl) ?_
                    obtain ⟨hg186, hf⟩ := zz_gd hf
                    obtain ⟨hg187, hf⟩ := zz_gd hf
                    obtain ⟨hg188, hf⟩ := zz_gd hf
                    obtain ⟨hg189, hf⟩ := zz_gd hf
                    obtain ⟨hg190, hf⟩ := zz_gd hf
                    obtain ⟨S191, hS191, hf⟩ := zz_lts hf
                    refine va_copyi hx hb (hml.trans hl.1.symm) hown lkm310 (hts (.native arraycopyName) (by decide +kernel)) (hts (.static arraycopyName) (by decide +kernel)) (hts (.initialized "java/lang/System") (by decide +kernel)) hK hP hD hS 26 22 15 13 rfl rfl rfl rfl rfl hg186 hg187 hg188 hg189 hg190 (fun _ _ => rfl) (Nat.le_of_ble_eq_true rfl) (Nat.le_of_ble_eq_true rfl) dX9_copy_120 (fun H locs hP hD hS => ?_)
                    have hP : va_P D vwCl (zw_9 q k S191) H := by rw [hS191]; exact hP
                    have hD : va_D A (zw_9 q k S191) := by rw [hS191]; exact hD
                    refine lv_iconst (v := (1 : Int32)) hx hb dX9_copy_123 (by decide) ?_
                    obtain ⟨rfl, rfl⟩ := zz_e2 hf
                    exact hret _ _ _ _ dX9_copy_124 hP hD hS
                  · have hf := zz_ps hf c96
                    exact Kj99_180  _ _ hP hD hS ls (lv_sub hl [2] rfl) hf
              · have hf := zz_ng hf c67
                refine lv_aload_n hx hb dX9_copy_70 rfl (lv_at hl 2 rfl) ?_
                refine lv_iconst (v := (4 : Int32)) hx hb dX9_copy_71 (by decide) ?_
                obtain ⟨r192, S193, hc194, hf⟩ := zz_b2s hf
                refine zz_ji0 (va_runV (As := [.int (4 : Int32)]) (rest := []) hfx (zc_X9_found l D tb q k F (4 : Int32) S r192 S193 hc194 H.size) (cwV 1 hts gX9_copy_X9_found rfl rfl rfl (by decide +kernel) ⟨Nat.le_of_ble_eq_true rfl, Nat.le_of_ble_eq_true rfl⟩) (zz_pre0V hK hP hD hS hA hE 0 rfl rfl rfl) rfl rfl hl.1 rfl (lv_room (Nat.le_of_ble_eq_true rfl)) dX9_copy_72 ⟨Nat.zero_le _, Nat.zero_le _⟩) hD hS hA (fun H locs hP hD hS => ?_)
                obtain ⟨rfl, rfl⟩ := zz_e2 hf
                exact hret _ _ _ _ dX9_copy_75 hP hD hS
            · have hf := zz_ng hf c48
              exact Kj51_174  _ _ hP hD hS ls (lv_sub hl [2] rfl) hf
        have hf := zz_ng hf ci32_0
        by_cases ci32_1 : u2 = (1 : Int32)
        · have hf := zz_ps hf ci32_1
          have hl : lv_has ls 8 [(6, .ref (q 25)), (0, .ref (q 0)), (1, .int (2 : Int32)), (2, .int u1), (3, .int (1 : Int32)), (4, .int u3), (5, .int u4)] := ci32_1 ▸ hl
          refine zz_ti (y := (1 : Int32)) ci32_1.symm ?_
          refine va_aldq hx hb hK hP 20 12 rfl rfl (show zz_in (1 : Int32) 4 by decide) dX9_copy_32 ?_
          refine W.eq (g2 := F0 m 33 ls [.ref (q 23)]) rfl ?_
          refine lv_astore (lv' := [(7, .ref (q 23)), (6, .ref (q 25)), (0, .ref (q 0)), (1, .int (2 : Int32)), (2, .int u1), (3, .int (1 : Int32)), (4, .int u3), (5, .int u4)]) hx hb dX9_copy_33 hl (by decide) rfl (fun ls hl => ?_)
          refine lv_aload hx hb dX9_copy_35 (lv_at hl 1 rfl) ?_
          refine va_get (D := D) (ci := 5) (v := .int (zz_gI S 14)) (C := RX5) (T := TX5) (N := 4) hx hb hts inX5 hown hK hP 25 rfl rfl 1 (by decide) lk235 (fun _ h9 => h9) rfl dX9_copy_37 ?_
          obtain ⟨j51_195, hj51_195, hf⟩ := zz_lts hf
          have Kj51_195 : ∀  (H : Heap) (locs : List Loc), va_P D vwCl (zw_9 q k S) H → va_D A (zw_9 q k S) → va_S A s.heap H locs → ∀ ls : Array Slot, lv_has ls 8 [(0, .ref (q 0))] → j51_195 () = some (r, o1) → W p l e rmX9_copy s m args below meth c H locs 0 0 Q (F0 m 51 ls []) := by
            intro  H locs hP hD hS ls hl hf
            rw [hj51_195] at hf
            refine lv_aload_n hx hb dX9_copy_51 rfl (lv_at hl 0 rfl) ?_
            refine lv_iconst (v := (1 : Int32)) hx hb dX9_copy_52 (by decide) ?_
            obtain ⟨r196, S197, hc198, hf⟩ := zz_b2s hf
            refine zz_ji0 (va_runV (As := [.int (1 : Int32)]) (rest := []) hfx (zc_X9_found l D tb q k F (1 : Int32) S r196 S197 hc198 H.size) (cwV 1 hts gX9_copy_X9_found rfl rfl rfl (by decide +kernel) ⟨Nat.le_of_ble_eq_true rfl, Nat.le_of_ble_eq_true rfl⟩) (zz_pre0V hK hP hD hS hA hE 0 rfl rfl rfl) rfl rfl hl.1 rfl (lv_room (Nat.le_of_ble_eq_true rfl)) dX9_copy_53 ⟨Nat.zero_le _, Nat.zero_le _⟩) hD hS hA (fun H locs hP hD hS => ?_)
            obtain ⟨rfl, rfl⟩ := zz_e2 hf
            exact hret _ _ _ _ dX9_copy_56 hP hD hS
          refine lv_if_ne (tgt := 51) hx hb dX9_copy_40 (by decide) (fun c40 => ?_) (fun c40 => ?_)
          · have hf := zz_ng hf c40
            exact Kj51_195  _ _ hP hD hS ls (lv_sub hl [2] rfl) hf
          · have hf := zz_ps hf c40
            refine lv_aload hx hb dX9_copy_43 (lv_at hl 0 rfl) ?_
            refine va_get (D := D) (ci := 5) (v := .int (zz_gI S 11)) (C := RX5) (T := TX5) (N := 4) hx hb hts inX5 hown hK hP 23 rfl rfl 1 (by decide) lk235 (fun _ h9 => h9) rfl dX9_copy_45 ?_
            refine lv_if_eq (tgt := 57) hx hb dX9_copy_48 (by decide) (fun c48 => ?_) (fun c48 => ?_)
            · have hf := zz_ps hf c48
              refine lv_aload hx hb dX9_copy_57 (lv_at hl 1 rfl) ?_
              refine va_get (D := D) (ci := 5) (v := .int (zz_gI S 15)) (C := RX5) (T := TX5) (N := 4) hx hb hts inX5 hown hK hP 25 rfl rfl 2 (by decide) lk304 (fun _ h9 => h9) rfl dX9_copy_59 ?_
              refine lv_aload hx hb dX9_copy_62 (lv_at hl 0 rfl) ?_
              refine va_get (D := D) (ci := 5) (v := .int (zz_gI S 12)) (C := RX5) (T := TX5) (N := 4) hx hb hts inX5 hown hK hP 23 rfl rfl 2 (by decide) lk304 (fun _ h9 => h9) rfl dX9_copy_64 ?_
              refine lv_icmp_eq (tgt := 76) hx hb dX9_copy_67 (by decide) (fun c67 => ?_) (fun c67 => ?_)
              · have hf := zz_ps hf c67
                refine lv_aload hx hb dX9_copy_76 (lv_at hl 1 rfl) ?_
                refine lv_iload_n hx hb dX9_copy_78 rfl (lv_at hl 4 rfl) ?_
                refine lv_iload hx hb dX9_copy_79 (lv_at hl 7 rfl) ?_
                obtain ⟨r199, hc200, hf⟩ := zz_b1s hf
                refine zz_ji (va_runV (As := [.int u1, .int u4]) (rest := []) hfx (zc_X5_hasItems l D tb (q 25) (q 26) (k 26) F u1 u4 (zz_gI S 14) (zz_gI S 15) (zz_gI S 16) (zz_gA S 13) r199 hc200 H.size) (cwV 2 hts gX9_copy_X5_hasItems rfl rfl rfl (by decide +kernel) ⟨Nat.le_of_ble_eq_true rfl, Nat.le_of_ble_eq_true rfl⟩) (zz_preV hK hP hD hS hA hE [25, 26] [15] rfl (by decide) rfl 25 rfl rfl rfl) rfl rfl hl.1 rfl (lv_room (Nat.le_of_ble_eq_true rfl)) dX9_copy_81 ⟨Nat.zero_le _, Nat.zero_le _⟩) hP hD hS hA [25, 26] rfl rfl (fun H locs hP hD hS => ?_)
                have hP : va_P D vwCl (zw_9 q k S) H := hP
                have hD : va_D A (zw_9 q k S) := hD
                obtain ⟨j99_201, hj99_201, hf⟩ := zz_lts hf
                have Kj99_201 : ∀  (H : Heap) (locs : List Loc), va_P D vwCl (zw_9 q k S) H → va_D A (zw_9 q k S) → va_S A s.heap H locs → ∀ ls : Array Slot, lv_has ls 8 [(0, .ref (q 0))] → j99_201 () = some (r, o1) → W p l e rmX9_copy s m args below meth c H locs 0 0 Q (F0 m 99 ls []) := by
                  intro  H locs hP hD hS ls hl hf
                  rw [hj99_201] at hf
                  refine lv_aload_n hx hb dX9_copy_99 rfl (lv_at hl 0 rfl) ?_
                  refine lv_iconst (v := (2 : Int32)) hx hb dX9_copy_100 (by decide) ?_
                  obtain ⟨r202, S203, hc204, hf⟩ := zz_b2s hf
                  refine zz_ji0 (va_runV (As := [.int (2 : Int32)]) (rest := []) hfx (zc_X9_found l D tb q k F (2 : Int32) S r202 S203 hc204 H.size) (cwV 1 hts gX9_copy_X9_found rfl rfl rfl (by decide +kernel) ⟨Nat.le_of_ble_eq_true rfl, Nat.le_of_ble_eq_true rfl⟩) (zz_pre0V hK hP hD hS hA hE 0 rfl rfl rfl) rfl rfl hl.1 rfl (lv_room (Nat.le_of_ble_eq_true rfl)) dX9_copy_101 ⟨Nat.zero_le _, Nat.zero_le _⟩) hD hS hA (fun H locs hP hD hS => ?_)
                  obtain ⟨rfl, rfl⟩ := zz_e2 hf
                  exact hret _ _ _ _ dX9_copy_104 hP hD hS
                refine lv_if_eq (tgt := 99) hx hb dX9_copy_84 (by decide) (fun c84 => ?_) (fun c84 => ?_)
                · have hf := zz_ps hf c84
                  exact Kj99_201  _ _ hP hD hS ls (lv_sub hl [2] rfl) hf
                · have hf := zz_ng hf c84
                  refine lv_aload hx hb dX9_copy_87 (lv_at hl 0 rfl) ?_
                  refine lv_iload hx hb dX9_copy_89 (lv_at hl 6 rfl) ?_
                  refine lv_iload hx hb dX9_copy_91 (lv_at hl 7 rfl) ?_
                  obtain ⟨r205, hc206, hf⟩ := zz_b1s hf
                  refine zz_ji (va_runV (As := [.int u3, .int u4]) (rest := []) hfx (zc_X5_hasItems l D tb (q 23) (q 24) (k 24) F u3 u4 (zz_gI S 11) (zz_gI S 12) (zz_gI S 13) (zz_gA S 12) r205 hc206 H.size) (cwV 2 hts gX9_copy_X5_hasItems rfl rfl rfl (by decide +kernel) ⟨Nat.le_of_ble_eq_true rfl, Nat.le_of_ble_eq_true rfl⟩) (zz_preV hK hP hD hS hA hE [23, 24] [14] rfl (by decide) rfl 23 rfl rfl rfl) rfl rfl hl.1 rfl (lv_room (Nat.le_of_ble_eq_true rfl)) dX9_copy_93 ⟨Nat.zero_le _, Nat.zero_le _⟩) hP hD hS hA [23, 24] rfl rfl (fun H locs hP hD hS => ?_)
                  have hP : va_P D vwCl (zw_9 q k S) H := hP
                  have hD : va_D A (zw_9 q k S) := hD
                  refine lv_if_ne (tgt := 105) hx hb dX9_copy_96 (by decide) (fun c96 => ?_) (fun c96 => ?_)
                  · have hf := zz_ng hf c96
                    refine lv_aload hx hb dX9_copy_105 (lv_at hl 1 rfl) ?_
                    refine va_get (D := D) (ci := 5) (v := .ref (q 26)) (C := RX5) (T := TX5) (N := 4) hx hb hts inX5 hown hK hP 25 rfl rfl 0 (by decide) lk301 (fun _ h9 => h9) rfl dX9_copy_107 ?_
                    refine lv_iload_n hx hb dX9_copy_110 rfl (lv_at hl 4 rfl) ?_
                    refine lv_aload hx hb dX9_copy_111 (lv_at hl 0 rfl) ?_
                    refine va_get (D := D) (ci := 5) (v := .ref (q 24)) (C := RX5) (T := TX5) (N := 4) hx hb hts inX5 hown hK hP 23 rfl rfl 0 (by decide) lk301 (fun _ h9 => h9) rfl dX9_copy_113 ?_
                    refine lv_iload hx hb dX9_copy_116 (lv_at hl 6 rfl) ?_
                    refine lv_iload hx hb dX9_copy_118 (lv_at hl 7 rfl) ?_
                    obtain ⟨hg207, hf⟩ := zz_gd hf
                    obtain ⟨hg208, hf⟩ := zz_gd hf
                    obtain ⟨hg209, hf⟩ := zz_gd hf
                    obtain ⟨hg210, hf⟩ := zz_gd hf
                    obtain ⟨hg211, hf⟩ := zz_gd hf
                    obtain ⟨S212, hS212, hf⟩ := zz_lts hf
                    refine va_copyi hx hb (hml.trans hl.1.symm) hown lkm310 (hts (.native arraycopyName) (by decide +kernel)) (hts (.static arraycopyName) (by decide +kernel)) (hts (.initialized "java/lang/System") (by decide +kernel)) hK hP hD hS 26 24 15 14 rfl rfl rfl rfl rfl hg207 hg208 hg209 hg210 hg211 (fun _ _ => rfl) (Nat.le_of_ble_eq_true rfl) (Nat.le_of_ble_eq_true rfl) dX9_copy_120 (fun H locs hP hD hS => ?_)
                    have hP : va_P D vwCl (zw_9 q k S212) H := by rw [hS212]; exact hP
                    have hD : va_D A (zw_9 q k S212) := by rw [hS212]; exact hD
                    refine lv_iconst (v := (1 : Int32)) hx hb dX9_copy_123 (by decide) ?_
                    obtain ⟨rfl, rfl⟩ := zz_e2 hf
                    exact hret _ _ _ _ dX9_copy_124 hP hD hS
                  · have hf := zz_ps hf c96
                    exact Kj99_201  _ _ hP hD hS ls (lv_sub hl [2] rfl) hf
              · have hf := zz_ng hf c67
                refine lv_aload_n hx hb dX9_copy_70 rfl (lv_at hl 2 rfl) ?_
                refine lv_iconst (v := (4 : Int32)) hx hb dX9_copy_71 (by decide) ?_
                obtain ⟨r213, S214, hc215, hf⟩ := zz_b2s hf
                refine zz_ji0 (va_runV (As := [.int (4 : Int32)]) (rest := []) hfx (zc_X9_found l D tb q k F (4 : Int32) S r213 S214 hc215 H.size) (cwV 1 hts gX9_copy_X9_found rfl rfl rfl (by decide +kernel) ⟨Nat.le_of_ble_eq_true rfl, Nat.le_of_ble_eq_true rfl⟩) (zz_pre0V hK hP hD hS hA hE 0 rfl rfl rfl) rfl rfl hl.1 rfl (lv_room (Nat.le_of_ble_eq_true rfl)) dX9_copy_72 ⟨Nat.zero_le _, Nat.zero_le _⟩) hD hS hA (fun H locs hP hD hS => ?_)
                obtain ⟨rfl, rfl⟩ := zz_e2 hf
                exact hret _ _ _ _ dX9_copy_75 hP hD hS
            · have hf := zz_ng hf c48
              exact Kj51_195  _ _ hP hD hS ls (lv_sub hl [2] rfl) hf
        have hf := zz_ng hf ci32_1
        by_cases ci32_2 : u2 = (2 : Int32)
        · have hf := zz_ps hf ci32_2
          have hl : lv_has ls 8 [(6, .ref (q 25)), (0, .ref (q 0)), (1, .int (2 : Int32)), (2, .int u1), (3, .int (2 : Int32)), (4, .int u3), (5, .int u4)] := ci32_2 ▸ hl
          refine zz_ti (y := (2 : Int32)) ci32_2.symm ?_
          refine va_aldq hx hb hK hP 20 12 rfl rfl (show zz_in (2 : Int32) 4 by decide) dX9_copy_32 ?_
          refine W.eq (g2 := F0 m 33 ls [.ref (q 25)]) rfl ?_
          refine lv_astore (lv' := [(7, .ref (q 25)), (6, .ref (q 25)), (0, .ref (q 0)), (1, .int (2 : Int32)), (2, .int u1), (3, .int (2 : Int32)), (4, .int u3), (5, .int u4)]) hx hb dX9_copy_33 hl (by decide) rfl (fun ls hl => ?_)
          refine lv_aload hx hb dX9_copy_35 (lv_at hl 1 rfl) ?_
          refine va_get (D := D) (ci := 5) (v := .int (zz_gI S 14)) (C := RX5) (T := TX5) (N := 4) hx hb hts inX5 hown hK hP 25 rfl rfl 1 (by decide) lk235 (fun _ h9 => h9) rfl dX9_copy_37 ?_
          obtain ⟨j51_216, hj51_216, hf⟩ := zz_lts hf
          have Kj51_216 : ∀  (H : Heap) (locs : List Loc), va_P D vwCl (zw_9 q k S) H → va_D A (zw_9 q k S) → va_S A s.heap H locs → ∀ ls : Array Slot, lv_has ls 8 [(0, .ref (q 0))] → j51_216 () = some (r, o1) → W p l e rmX9_copy s m args below meth c H locs 0 0 Q (F0 m 51 ls []) := by
            intro  H locs hP hD hS ls hl hf
            rw [hj51_216] at hf
            refine lv_aload_n hx hb dX9_copy_51 rfl (lv_at hl 0 rfl) ?_
            refine lv_iconst (v := (1 : Int32)) hx hb dX9_copy_52 (by decide) ?_
            obtain ⟨r217, S218, hc219, hf⟩ := zz_b2s hf
            refine zz_ji0 (va_runV (As := [.int (1 : Int32)]) (rest := []) hfx (zc_X9_found l D tb q k F (1 : Int32) S r217 S218 hc219 H.size) (cwV 1 hts gX9_copy_X9_found rfl rfl rfl (by decide +kernel) ⟨Nat.le_of_ble_eq_true rfl, Nat.le_of_ble_eq_true rfl⟩) (zz_pre0V hK hP hD hS hA hE 0 rfl rfl rfl) rfl rfl hl.1 rfl (lv_room (Nat.le_of_ble_eq_true rfl)) dX9_copy_53 ⟨Nat.zero_le _, Nat.zero_le _⟩) hD hS hA (fun H locs hP hD hS => ?_)
            obtain ⟨rfl, rfl⟩ := zz_e2 hf
            exact hret _ _ _ _ dX9_copy_56 hP hD hS
          refine lv_if_ne (tgt := 51) hx hb dX9_copy_40 (by decide) (fun c40 => ?_) (fun c40 => ?_)
          · have hf := zz_ng hf c40
            exact Kj51_216  _ _ hP hD hS ls (lv_sub hl [2] rfl) hf
          · have hf := zz_ps hf c40
            refine lv_aload hx hb dX9_copy_43 (lv_at hl 0 rfl) ?_
            refine va_get (D := D) (ci := 5) (v := .int (zz_gI S 14)) (C := RX5) (T := TX5) (N := 4) hx hb hts inX5 hown hK hP 25 rfl rfl 1 (by decide) lk235 (fun _ h9 => h9) rfl dX9_copy_45 ?_
            refine lv_if_eq (tgt := 57) hx hb dX9_copy_48 (by decide) (fun c48 => ?_) (fun c48 => ?_)
            · have hf := zz_ps hf c48
              refine lv_aload hx hb dX9_copy_57 (lv_at hl 1 rfl) ?_
              refine va_get (D := D) (ci := 5) (v := .int (zz_gI S 15)) (C := RX5) (T := TX5) (N := 4) hx hb hts inX5 hown hK hP 25 rfl rfl 2 (by decide) lk304 (fun _ h9 => h9) rfl dX9_copy_59 ?_
              refine lv_aload hx hb dX9_copy_62 (lv_at hl 0 rfl) ?_
              refine va_get (D := D) (ci := 5) (v := .int (zz_gI S 15)) (C := RX5) (T := TX5) (N := 4) hx hb hts inX5 hown hK hP 25 rfl rfl 2 (by decide) lk304 (fun _ h9 => h9) rfl dX9_copy_64 ?_
              refine lv_icmp_eq (tgt := 76) hx hb dX9_copy_67 (by decide) (fun c67 => ?_) (fun c67 => ?_)
              · have hf := zz_ps hf c67
                refine lv_aload hx hb dX9_copy_76 (lv_at hl 1 rfl) ?_
                refine lv_iload_n hx hb dX9_copy_78 rfl (lv_at hl 4 rfl) ?_
                refine lv_iload hx hb dX9_copy_79 (lv_at hl 7 rfl) ?_
                obtain ⟨r220, hc221, hf⟩ := zz_b1s hf
                refine zz_ji (va_runV (As := [.int u1, .int u4]) (rest := []) hfx (zc_X5_hasItems l D tb (q 25) (q 26) (k 26) F u1 u4 (zz_gI S 14) (zz_gI S 15) (zz_gI S 16) (zz_gA S 13) r220 hc221 H.size) (cwV 2 hts gX9_copy_X5_hasItems rfl rfl rfl (by decide +kernel) ⟨Nat.le_of_ble_eq_true rfl, Nat.le_of_ble_eq_true rfl⟩) (zz_preV hK hP hD hS hA hE [25, 26] [15] rfl (by decide) rfl 25 rfl rfl rfl) rfl rfl hl.1 rfl (lv_room (Nat.le_of_ble_eq_true rfl)) dX9_copy_81 ⟨Nat.zero_le _, Nat.zero_le _⟩) hP hD hS hA [25, 26] rfl rfl (fun H locs hP hD hS => ?_)
                have hP : va_P D vwCl (zw_9 q k S) H := hP
                have hD : va_D A (zw_9 q k S) := hD
                obtain ⟨j99_222, hj99_222, hf⟩ := zz_lts hf
                have Kj99_222 : ∀  (H : Heap) (locs : List Loc), va_P D vwCl (zw_9 q k S) H → va_D A (zw_9 q k S) → va_S A s.heap H locs → ∀ ls : Array Slot, lv_has ls 8 [(0, .ref (q 0))] → j99_222 () = some (r, o1) → W p l e rmX9_copy s m args below meth c H locs 0 0 Q (F0 m 99 ls []) := by
                  intro  H locs hP hD hS ls hl hf
                  rw [hj99_222] at hf
                  refine lv_aload_n hx hb dX9_copy_99 rfl (lv_at hl 0 rfl) ?_
                  refine lv_iconst (v := (2 : Int32)) hx hb dX9_copy_100 (by decide) ?_
                  obtain ⟨r223, S224, hc225, hf⟩ := zz_b2s hf
                  refine zz_ji0 (va_runV (As := [.int (2 : Int32)]) (rest := []) hfx (zc_X9_found l D tb q k F (2 : Int32) S r223 S224 hc225 H.size) (cwV 1 hts gX9_copy_X9_found rfl rfl rfl (by decide +kernel) ⟨Nat.le_of_ble_eq_true rfl, Nat.le_of_ble_eq_true rfl⟩) (zz_pre0V hK hP hD hS hA hE 0 rfl rfl rfl) rfl rfl hl.1 rfl (lv_room (Nat.le_of_ble_eq_true rfl)) dX9_copy_101 ⟨Nat.zero_le _, Nat.zero_le _⟩) hD hS hA (fun H locs hP hD hS => ?_)
                  obtain ⟨rfl, rfl⟩ := zz_e2 hf
                  exact hret _ _ _ _ dX9_copy_104 hP hD hS
                refine lv_if_eq (tgt := 99) hx hb dX9_copy_84 (by decide) (fun c84 => ?_) (fun c84 => ?_)
                · have hf := zz_ps hf c84
                  exact Kj99_222  _ _ hP hD hS ls (lv_sub hl [2] rfl) hf
                · have hf := zz_ng hf c84
                  refine lv_aload hx hb dX9_copy_87 (lv_at hl 0 rfl) ?_
                  refine lv_iload hx hb dX9_copy_89 (lv_at hl 6 rfl) ?_
                  refine lv_iload hx hb dX9_copy_91 (lv_at hl 7 rfl) ?_
                  obtain ⟨r226, hc227, hf⟩ := zz_b1s hf
                  refine zz_ji (va_runV (As := [.int u3, .int u4]) (rest := []) hfx (zc_X5_hasItems l D tb (q 25) (q 26) (k 26) F u3 u4 (zz_gI S 14) (zz_gI S 15) (zz_gI S 16) (zz_gA S 13) r226 hc227 H.size) (cwV 2 hts gX9_copy_X5_hasItems rfl rfl rfl (by decide +kernel) ⟨Nat.le_of_ble_eq_true rfl, Nat.le_of_ble_eq_true rfl⟩) (zz_preV hK hP hD hS hA hE [25, 26] [15] rfl (by decide) rfl 25 rfl rfl rfl) rfl rfl hl.1 rfl (lv_room (Nat.le_of_ble_eq_true rfl)) dX9_copy_93 ⟨Nat.zero_le _, Nat.zero_le _⟩) hP hD hS hA [25, 26] rfl rfl (fun H locs hP hD hS => ?_)
                  have hP : va_P D vwCl (zw_9 q k S) H := hP
                  have hD : va_D A (zw_9 q k S) := hD
                  refine lv_if_ne (tgt := 105) hx hb dX9_copy_96 (by decide) (fun c96 => ?_) (fun c96 => ?_)
                  · have hf := zz_ng hf c96
                    refine lv_aload hx hb dX9_copy_105 (lv_at hl 1 rfl) ?_
                    refine va_get (D := D) (ci := 5) (v := .ref (q 26)) (C := RX5) (T := TX5) (N := 4) hx hb hts inX5 hown hK hP 25 rfl rfl 0 (by decide) lk301 (fun _ h9 => h9) rfl dX9_copy_107 ?_
                    refine lv_iload_n hx hb dX9_copy_110 rfl (lv_at hl 4 rfl) ?_
                    refine lv_aload hx hb dX9_copy_111 (lv_at hl 0 rfl) ?_
                    refine va_get (D := D) (ci := 5) (v := .ref (q 26)) (C := RX5) (T := TX5) (N := 4) hx hb hts inX5 hown hK hP 25 rfl rfl 0 (by decide) lk301 (fun _ h9 => h9) rfl dX9_copy_113 ?_
                    refine lv_iload hx hb dX9_copy_116 (lv_at hl 6 rfl) ?_
                    refine lv_iload hx hb dX9_copy_118 (lv_at hl 7 rfl) ?_
                    obtain ⟨hg228, hf⟩ := zz_gd hf
                    obtain ⟨hg229, hf⟩ := zz_gd hf
                    obtain ⟨hg230, hf⟩ := zz_gd hf
                    obtain ⟨hg231, hf⟩ := zz_gd hf
                    obtain ⟨hg232, hf⟩ := zz_gd hf
                    obtain ⟨S233, hS233, hf⟩ := zz_lts hf
                    refine va_copyi hx hb (hml.trans hl.1.symm) hown lkm310 (hts (.native arraycopyName) (by decide +kernel)) (hts (.static arraycopyName) (by decide +kernel)) (hts (.initialized "java/lang/System") (by decide +kernel)) hK hP hD hS 26 26 15 15 rfl rfl rfl rfl rfl hg228 hg229 hg230 hg231 hg232 (fun _ _ => rfl) (Nat.le_of_ble_eq_true rfl) (Nat.le_of_ble_eq_true rfl) dX9_copy_120 (fun H locs hP hD hS => ?_)
                    have hP : va_P D vwCl (zw_9 q k S233) H := by rw [hS233]; exact hP
                    have hD : va_D A (zw_9 q k S233) := by rw [hS233]; exact hD
                    refine lv_iconst (v := (1 : Int32)) hx hb dX9_copy_123 (by decide) ?_
                    obtain ⟨rfl, rfl⟩ := zz_e2 hf
                    exact hret _ _ _ _ dX9_copy_124 hP hD hS
                  · have hf := zz_ps hf c96
                    exact Kj99_222  _ _ hP hD hS ls (lv_sub hl [2] rfl) hf
              · have hf := zz_ng hf c67
                refine lv_aload_n hx hb dX9_copy_70 rfl (lv_at hl 2 rfl) ?_
                refine lv_iconst (v := (4 : Int32)) hx hb dX9_copy_71 (by decide) ?_
                obtain ⟨r234, S235, hc236, hf⟩ := zz_b2s hf
                refine zz_ji0 (va_runV (As := [.int (4 : Int32)]) (rest := []) hfx (zc_X9_found l D tb q k F (4 : Int32) S r234 S235 hc236 H.size) (cwV 1 hts gX9_copy_X9_found rfl rfl rfl (by decide +kernel) ⟨Nat.le_of_ble_eq_true rfl, Nat.le_of_ble_eq_true rfl⟩) (zz_pre0V hK hP hD hS hA hE 0 rfl rfl rfl) rfl rfl hl.1 rfl (lv_room (Nat.le_of_ble_eq_true rfl)) dX9_copy_72 ⟨Nat.zero_le _, Nat.zero_le _⟩) hD hS hA (fun H locs hP hD hS => ?_)
                obtain ⟨rfl, rfl⟩ := zz_e2 hf
                exact hret _ _ _ _ dX9_copy_75 hP hD hS
            · have hf := zz_ng hf c48
              exact Kj51_216  _ _ hP hD hS ls (lv_sub hl [2] rfl) hf
        have hf := zz_ng hf ci32_2
        by_cases ci32_3 : u2 = (3 : Int32)
        · have hf := zz_ps hf ci32_3
          have hl : lv_has ls 8 [(6, .ref (q 25)), (0, .ref (q 0)), (1, .int (2 : Int32)), (2, .int u1), (3, .int (3 : Int32)), (4, .int u3), (5, .int u4)] := ci32_3 ▸ hl
          refine zz_ti (y := (3 : Int32)) ci32_3.symm ?_
          refine va_aldq hx hb hK hP 20 12 rfl rfl (show zz_in (3 : Int32) 4 by decide) dX9_copy_32 ?_
          refine W.eq (g2 := F0 m 33 ls [.ref (q 27)]) rfl ?_
          refine lv_astore (lv' := [(7, .ref (q 27)), (6, .ref (q 25)), (0, .ref (q 0)), (1, .int (2 : Int32)), (2, .int u1), (3, .int (3 : Int32)), (4, .int u3), (5, .int u4)]) hx hb dX9_copy_33 hl (by decide) rfl (fun ls hl => ?_)
          refine lv_aload hx hb dX9_copy_35 (lv_at hl 1 rfl) ?_
          refine va_get (D := D) (ci := 5) (v := .int (zz_gI S 14)) (C := RX5) (T := TX5) (N := 4) hx hb hts inX5 hown hK hP 25 rfl rfl 1 (by decide) lk235 (fun _ h9 => h9) rfl dX9_copy_37 ?_
          obtain ⟨j51_237, hj51_237, hf⟩ := zz_lts hf
          have Kj51_237 : ∀  (H : Heap) (locs : List Loc), va_P D vwCl (zw_9 q k S) H → va_D A (zw_9 q k S) → va_S A s.heap H locs → ∀ ls : Array Slot, lv_has ls 8 [(0, .ref (q 0))] → j51_237 () = some (r, o1) → W p l e rmX9_copy s m args below meth c H locs 0 0 Q (F0 m 51 ls []) := by
            intro  H locs hP hD hS ls hl hf
            rw [hj51_237] at hf
            refine lv_aload_n hx hb dX9_copy_51 rfl (lv_at hl 0 rfl) ?_
            refine lv_iconst (v := (1 : Int32)) hx hb dX9_copy_52 (by decide) ?_
            obtain ⟨r238, S239, hc240, hf⟩ := zz_b2s hf
            refine zz_ji0 (va_runV (As := [.int (1 : Int32)]) (rest := []) hfx (zc_X9_found l D tb q k F (1 : Int32) S r238 S239 hc240 H.size) (cwV 1 hts gX9_copy_X9_found rfl rfl rfl (by decide +kernel) ⟨Nat.le_of_ble_eq_true rfl, Nat.le_of_ble_eq_true rfl⟩) (zz_pre0V hK hP hD hS hA hE 0 rfl rfl rfl) rfl rfl hl.1 rfl (lv_room (Nat.le_of_ble_eq_true rfl)) dX9_copy_53 ⟨Nat.zero_le _, Nat.zero_le _⟩) hD hS hA (fun H locs hP hD hS => ?_)
            obtain ⟨rfl, rfl⟩ := zz_e2 hf
            exact hret _ _ _ _ dX9_copy_56 hP hD hS
          refine lv_if_ne (tgt := 51) hx hb dX9_copy_40 (by decide) (fun c40 => ?_) (fun c40 => ?_)
          · have hf := zz_ng hf c40
            exact Kj51_237  _ _ hP hD hS ls (lv_sub hl [2] rfl) hf
          · have hf := zz_ps hf c40
            refine lv_aload hx hb dX9_copy_43 (lv_at hl 0 rfl) ?_
            refine va_get (D := D) (ci := 5) (v := .int (zz_gI S 17)) (C := RX5) (T := TX5) (N := 4) hx hb hts inX5 hown hK hP 27 rfl rfl 1 (by decide) lk235 (fun _ h9 => h9) rfl dX9_copy_45 ?_
            refine lv_if_eq (tgt := 57) hx hb dX9_copy_48 (by decide) (fun c48 => ?_) (fun c48 => ?_)
            · have hf := zz_ps hf c48
              refine lv_aload hx hb dX9_copy_57 (lv_at hl 1 rfl) ?_
              refine va_get (D := D) (ci := 5) (v := .int (zz_gI S 15)) (C := RX5) (T := TX5) (N := 4) hx hb hts inX5 hown hK hP 25 rfl rfl 2 (by decide) lk304 (fun _ h9 => h9) rfl dX9_copy_59 ?_
              refine lv_aload hx hb dX9_copy_62 (lv_at hl 0 rfl) ?_
              refine va_get (D := D) (ci := 5) (v := .int (zz_gI S 18)) (C := RX5) (T := TX5) (N := 4) hx hb hts inX5 hown hK hP 27 rfl rfl 2 (by decide) lk304 (fun _ h9 => h9) rfl dX9_copy_64 ?_
              refine lv_icmp_eq (tgt := 76) hx hb dX9_copy_67 (by decide) (fun c67 => ?_) (fun c67 => ?_)
              · have hf := zz_ps hf c67
                refine lv_aload hx hb dX9_copy_76 (lv_at hl 1 rfl) ?_
                refine lv_iload_n hx hb dX9_copy_78 rfl (lv_at hl 4 rfl) ?_
                refine lv_iload hx hb dX9_copy_79 (lv_at hl 7 rfl) ?_
                obtain ⟨r241, hc242, hf⟩ := zz_b1s hf
                refine zz_ji (va_runV (As := [.int u1, .int u4]) (rest := []) hfx (zc_X5_hasItems l D tb (q 25) (q 26) (k 26) F u1 u4 (zz_gI S 14) (zz_gI S 15) (zz_gI S 16) (zz_gA S 13) r241 hc242 H.size) (cwV 2 hts gX9_copy_X5_hasItems rfl rfl rfl (by decide +kernel) ⟨Nat.le_of_ble_eq_true rfl, Nat.le_of_ble_eq_true rfl⟩) (zz_preV hK hP hD hS hA hE [25, 26] [15] rfl (by decide) rfl 25 rfl rfl rfl) rfl rfl hl.1 rfl (lv_room (Nat.le_of_ble_eq_true rfl)) dX9_copy_81 ⟨Nat.zero_le _, Nat.zero_le _⟩) hP hD hS hA [25, 26] rfl rfl (fun H locs hP hD hS => ?_)
                have hP : va_P D vwCl (zw_9 q k S) H := hP
                have hD : va_D A (zw_9 q k S) := hD
                obtain ⟨j99_243, hj99_243, hf⟩ := zz_lts hf
                have Kj99_243 : ∀  (H : Heap) (locs : List Loc), va_P D vwCl (zw_9 q k S) H → va_D A (zw_9 q k S) → va_S A s.heap H locs → ∀ ls : Array Slot, lv_has ls 8 [(0, .ref (q 0))] → j99_243 () = some (r, o1) → W p l e rmX9_copy s m args below meth c H locs 0 0 Q (F0 m 99 ls []) := by
                  intro  H locs hP hD hS ls hl hf
                  rw [hj99_243] at hf
                  refine lv_aload_n hx hb dX9_copy_99 rfl (lv_at hl 0 rfl) ?_
                  refine lv_iconst (v := (2 : Int32)) hx hb dX9_copy_100 (by decide) ?_
                  obtain ⟨r244, S245, hc246, hf⟩ := zz_b2s hf
                  refine zz_ji0 (va_runV (As := [.int (2 : Int32)]) (rest := []) hfx (zc_X9_found l D tb q k F (2 : Int32) S r244 S245 hc246 H.size) (cwV 1 hts gX9_copy_X9_found rfl rfl rfl (by decide +kernel) ⟨Nat.le_of_ble_eq_true rfl, Nat.le_of_ble_eq_true rfl⟩) (zz_pre0V hK hP hD hS hA hE 0 rfl rfl rfl) rfl rfl hl.1 rfl (lv_room (Nat.le_of_ble_eq_true rfl)) dX9_copy_101 ⟨Nat.zero_le _, Nat.zero_le _⟩) hD hS hA (fun H locs hP hD hS => ?_)
                  obtain ⟨rfl, rfl⟩ := zz_e2 hf
                  exact hret _ _ _ _ dX9_copy_104 hP hD hS
                refine lv_if_eq (tgt := 99) hx hb dX9_copy_84 (by decide) (fun c84 => ?_) (fun c84 => ?_)
                · have hf := zz_ps hf c84
                  exact Kj99_243  _ _ hP hD hS ls (lv_sub hl [2] rfl) hf
                · have hf := zz_ng hf c84
                  refine lv_aload hx hb dX9_copy_87 (lv_at hl 0 rfl) ?_
                  refine lv_iload hx hb dX9_copy_89 (lv_at hl 6 rfl) ?_
                  refine lv_iload hx hb dX9_copy_91 (lv_at hl 7 rfl) ?_
                  obtain ⟨r247, hc248, hf⟩ := zz_b1s hf
                  refine zz_ji (va_runV (As := [.int u3, .int u4]) (rest := []) hfx (zc_X5_hasItems l D tb (q 27) (q 28) (k 28) F u3 u4 (zz_gI S 17) (zz_gI S 18) (zz_gI S 19) (zz_gA S 14) r247 hc248 H.size) (cwV 2 hts gX9_copy_X5_hasItems rfl rfl rfl (by decide +kernel) ⟨Nat.le_of_ble_eq_true rfl, Nat.le_of_ble_eq_true rfl⟩) (zz_preV hK hP hD hS hA hE [27, 28] [16] rfl (by decide) rfl 27 rfl rfl rfl) rfl rfl hl.1 rfl (lv_room (Nat.le_of_ble_eq_true rfl)) dX9_copy_93 ⟨Nat.zero_le _, Nat.zero_le _⟩) hP hD hS hA [27, 28] rfl rfl (fun H locs hP hD hS => ?_)
                  have hP : va_P D vwCl (zw_9 q k S) H := hP
                  have hD : va_D A (zw_9 q k S) := hD
                  refine lv_if_ne (tgt := 105) hx hb dX9_copy_96 (by decide) (fun c96 => ?_) (fun c96 => ?_)
                  · have hf := zz_ng hf c96
                    refine lv_aload hx hb dX9_copy_105 (lv_at hl 1 rfl) ?_
                    refine va_get (D := D) (ci := 5) (v := .ref (q 26)) (C := RX5) (T := TX5) (N := 4) hx hb hts inX5 hown hK hP 25 rfl rfl 0 (by decide) lk301 (fun _ h9 => h9) rfl dX9_copy_107 ?_
                    refine lv_iload_n hx hb dX9_copy_110 rfl (lv_at hl 4 rfl) ?_
                    refine lv_aload hx hb dX9_copy_111 (lv_at hl 0 rfl) ?_
                    refine va_get (D := D) (ci := 5) (v := .ref (q 28)) (C := RX5) (T := TX5) (N := 4) hx hb hts inX5 hown hK hP 27 rfl rfl 0 (by decide) lk301 (fun _ h9 => h9) rfl dX9_copy_113 ?_
                    refine lv_iload hx hb dX9_copy_116 (lv_at hl 6 rfl) ?_
                    refine lv_iload hx hb dX9_copy_118 (lv_at hl 7 rfl) ?_
                    obtain ⟨hg249, hf⟩ := zz_gd hf
                    obtain ⟨hg250, hf⟩ := zz_gd hf
                    obtain ⟨hg251, hf⟩ := zz_gd hf
                    obtain ⟨hg252, hf⟩ := zz_gd hf
                    obtain ⟨hg253, hf⟩ := zz_gd hf
                    obtain ⟨S254, hS254, hf⟩ := zz_lts hf
                    refine va_copyi hx hb (hml.trans hl.1.symm) hown lkm310 (hts (.native arraycopyName) (by decide +kernel)) (hts (.static arraycopyName) (by decide +kernel)) (hts (.initialized "java/lang/System") (by decide +kernel)) hK hP hD hS 26 28 15 16 rfl rfl rfl rfl rfl hg249 hg250 hg251 hg252 hg253 (fun _ _ => rfl) (Nat.le_of_ble_eq_true rfl) (Nat.le_of_ble_eq_true rfl) dX9_copy_120 (fun H locs hP hD hS => ?_)
                    have hP : va_P D vwCl (zw_9 q k S254) H := by rw [hS254]; exact hP
                    have hD : va_D A (zw_9 q k S254) := by rw [hS254]; exact hD
                    refine lv_iconst (v := (1 : Int32)) hx hb dX9_copy_123 (by decide) ?_
                    obtain ⟨rfl, rfl⟩ := zz_e2 hf
                    exact hret _ _ _ _ dX9_copy_124 hP hD hS
                  · have hf := zz_ps hf c96
                    exact Kj99_243  _ _ hP hD hS ls (lv_sub hl [2] rfl) hf
              · have hf := zz_ng hf c67
                refine lv_aload_n hx hb dX9_copy_70 rfl (lv_at hl 2 rfl) ?_
                refine lv_iconst (v := (4 : Int32)) hx hb dX9_copy_71 (by decide) ?_
                obtain ⟨r255, S256, hc257, hf⟩ := zz_b2s hf
                refine zz_ji0 (va_runV (As := [.int (4 : Int32)]) (rest := []) hfx (zc_X9_found l D tb q k F (4 : Int32) S r255 S256 hc257 H.size) (cwV 1 hts gX9_copy_X9_found rfl rfl rfl (by decide +kernel) ⟨Nat.le_of_ble_eq_true rfl, Nat.le_of_ble_eq_true rfl⟩) (zz_pre0V hK hP hD hS hA hE 0 rfl rfl rfl) rfl rfl hl.1 rfl (lv_room (Nat.le_of_ble_eq_true rfl)) dX9_copy_72 ⟨Nat.zero_le _, Nat.zero_le _⟩) hD hS hA (fun H locs hP hD hS => ?_)
                obtain ⟨rfl, rfl⟩ := zz_e2 hf
                exact hret _ _ _ _ dX9_copy_75 hP hD hS
            · have hf := zz_ng hf c48
              exact Kj51_237  _ _ hP hD hS ls (lv_sub hl [2] rfl) hf
        have hf := zz_ng hf ci32_3
        exact nomatch hf
      have hf := zz_ng hf ci24_2
      by_cases ci24_3 : u0 = (3 : Int32)
      · have hf := zz_ps hf ci24_3
        have hl : lv_has ls 8 [(0, .ref (q 0)), (1, .int (3 : Int32)), (2, .int u1), (3, .int u2), (4, .int u3), (5, .int u4)] := ci24_3 ▸ hl
        refine zz_ti (y := (3 : Int32)) ci24_3.symm ?_
        refine va_aldq hx hb hK hP 20 12 rfl rfl (show zz_in (3 : Int32) 4 by decide) dX9_copy_24 ?_
        refine W.eq (g2 := F0 m 25 ls [.ref (q 27)]) rfl ?_
        refine lv_astore (lv' := [(6, .ref (q 27)), (0, .ref (q 0)), (1, .int (3 : Int32)), (2, .int u1), (3, .int u2), (4, .int u3), (5, .int u4)]) hx hb dX9_copy_25 hl (by decide) rfl (fun ls hl => ?_)
        refine lv_aload_n hx hb dX9_copy_27 rfl (lv_at hl 1 rfl) ?_
        refine va_get (D := D) (ci := 9) (v := .ref (q 20)) (C := RX9) (T := TX9) (N := 18) hx hb hts inX9 hown hK hP 0 rfl rfl 7 (by decide) lk52 (fun _ h9 => h9) rfl dX9_copy_28 ?_
        refine lv_iload_n hx hb dX9_copy_31 rfl (lv_at hl 4 rfl) ?_
        by_cases ci32_0 : u2 = (0 : Int32)
        · have hf := zz_ps hf ci32_0
          have hl : lv_has ls 8 [(6, .ref (q 27)), (0, .ref (q 0)), (1, .int (3 : Int32)), (2, .int u1), (3, .int (0 : Int32)), (4, .int u3), (5, .int u4)] := ci32_0 ▸ hl
          refine zz_ti (y := (0 : Int32)) ci32_0.symm ?_
          refine va_aldq hx hb hK hP 20 12 rfl rfl (show zz_in (0 : Int32) 4 by decide) dX9_copy_32 ?_
          refine W.eq (g2 := F0 m 33 ls [.ref (q 21)]) rfl ?_
          refine lv_astore (lv' := [(7, .ref (q 21)), (6, .ref (q 27)), (0, .ref (q 0)), (1, .int (3 : Int32)), (2, .int u1), (3, .int (0 : Int32)), (4, .int u3), (5, .int u4)]) hx hb dX9_copy_33 hl (by decide) rfl (fun ls hl => ?_)
          refine lv_aload hx hb dX9_copy_35 (lv_at hl 1 rfl) ?_
          refine va_get (D := D) (ci := 5) (v := .int (zz_gI S 17)) (C := RX5) (T := TX5) (N := 4) hx hb hts inX5 hown hK hP 27 rfl rfl 1 (by decide) lk235 (fun _ h9 => h9) rfl dX9_copy_37 ?_
          obtain ⟨j51_258, hj51_258, hf⟩ := zz_lts hf
          have Kj51_258 : ∀  (H : Heap) (locs : List Loc), va_P D vwCl (zw_9 q k S) H → va_D A (zw_9 q k S) → va_S A s.heap H locs → ∀ ls : Array Slot, lv_has ls 8 [(0, .ref (q 0))] → j51_258 () = some (r, o1) → W p l e rmX9_copy s m args below meth c H locs 0 0 Q (F0 m 51 ls []) := by
            intro  H locs hP hD hS ls hl hf
            rw [hj51_258] at hf
            refine lv_aload_n hx hb dX9_copy_51 rfl (lv_at hl 0 rfl) ?_
            refine lv_iconst (v := (1 : Int32)) hx hb dX9_copy_52 (by decide) ?_
            obtain ⟨r259, S260, hc261, hf⟩ := zz_b2s hf
            refine zz_ji0 (va_runV (As := [.int (1 : Int32)]) (rest := []) hfx (zc_X9_found l D tb q k F (1 : Int32) S r259 S260 hc261 H.size) (cwV 1 hts gX9_copy_X9_found rfl rfl rfl (by decide +kernel) ⟨Nat.le_of_ble_eq_true rfl, Nat.le_of_ble_eq_true rfl⟩) (zz_pre0V hK hP hD hS hA hE 0 rfl rfl rfl) rfl rfl hl.1 rfl (lv_room (Nat.le_of_ble_eq_true rfl)) dX9_copy_53 ⟨Nat.zero_le _, Nat.zero_le _⟩) hD hS hA (fun H locs hP hD hS => ?_)
            obtain ⟨rfl, rfl⟩ := zz_e2 hf
            exact hret _ _ _ _ dX9_copy_56 hP hD hS
          refine lv_if_ne (tgt := 51) hx hb dX9_copy_40 (by decide) (fun c40 => ?_) (fun c40 => ?_)
          · have hf := zz_ng hf c40
            exact Kj51_258  _ _ hP hD hS ls (lv_sub hl [2] rfl) hf
          · have hf := zz_ps hf c40
            refine lv_aload hx hb dX9_copy_43 (lv_at hl 0 rfl) ?_
            refine va_get (D := D) (ci := 5) (v := .int (zz_gI S 8)) (C := RX5) (T := TX5) (N := 4) hx hb hts inX5 hown hK hP 21 rfl rfl 1 (by decide) lk235 (fun _ h9 => h9) rfl dX9_copy_45 ?_
            refine lv_if_eq (tgt := 57) hx hb dX9_copy_48 (by decide) (fun c48 => ?_) (fun c48 => ?_)
            · have hf := zz_ps hf c48
              refine lv_aload hx hb dX9_copy_57 (lv_at hl 1 rfl) ?_
              refine va_get (D := D) (ci := 5) (v := .int (zz_gI S 18)) (C := RX5) (T := TX5) (N := 4) hx hb hts inX5 hown hK hP 27 rfl rfl 2 (by decide) lk304 (fun _ h9 => h9) rfl dX9_copy_59 ?_
              refine lv_aload hx hb dX9_copy_62 (lv_at hl 0 rfl) ?_
              refine va_get (D := D) (ci := 5) (v := .int (zz_gI S 9)) (C := RX5) (T := TX5) (N := 4) hx hb hts inX5 hown hK hP 21 rfl rfl 2 (by decide) lk304 (fun _ h9 => h9) rfl dX9_copy_64 ?_
              refine lv_icmp_eq (tgt := 76) hx hb dX9_copy_67 (by decide) (fun c67 => ?_) (fun c67 => ?_)
              · have hf := zz_ps hf c67
                refine lv_aload hx hb dX9_copy_76 (lv_at hl 1 rfl) ?_
                refine lv_iload_n hx hb dX9_copy_78 rfl (lv_at hl 4 rfl) ?_
                refine lv_iload hx hb dX9_copy_79 (lv_at hl 7 rfl) ?_
                obtain ⟨r262, hc263, hf⟩ := zz_b1s hf
                refine zz_ji (va_runV (As := [.int u1, .int u4]) (rest := []) hfx (zc_X5_hasItems l D tb (q 27) (q 28) (k 28) F u1 u4 (zz_gI S 17) (zz_gI S 18) (zz_gI S 19) (zz_gA S 14) r262 hc263 H.size) (cwV 2 hts gX9_copy_X5_hasItems rfl rfl rfl (by decide +kernel) ⟨Nat.le_of_ble_eq_true rfl, Nat.le_of_ble_eq_true rfl⟩) (zz_preV hK hP hD hS hA hE [27, 28] [16] rfl (by decide) rfl 27 rfl rfl rfl) rfl rfl hl.1 rfl (lv_room (Nat.le_of_ble_eq_true rfl)) dX9_copy_81 ⟨Nat.zero_le _, Nat.zero_le _⟩) hP hD hS hA [27, 28] rfl rfl (fun H locs hP hD hS => ?_)
                have hP : va_P D vwCl (zw_9 q k S) H := hP
                have hD : va_D A (zw_9 q k S) := hD
                obtain ⟨j99_264, hj99_264, hf⟩ := zz_lts hf
                have Kj99_264 : ∀  (H : Heap) (locs : List Loc), va_P D vwCl (zw_9 q k S) H → va_D A (zw_9 q k S) → va_S A s.heap H locs → ∀ ls : Array Slot, lv_has ls 8 [(0, .ref (q 0))] → j99_264 () = some (r, o1) → W p l e rmX9_copy s m args below meth c H locs 0 0 Q (F0 m 99 ls []) := by
                  intro  H locs hP hD hS ls hl hf
                  rw [hj99_264] at hf
                  refine lv_aload_n hx hb dX9_copy_99 rfl (lv_at hl 0 rfl) ?_
                  refine lv_iconst (v := (2 : Int32)) hx hb dX9_copy_100 (by decide) ?_
                  obtain ⟨r265, S266, hc267, hf⟩ := zz_b2s hf
                  refine zz_ji0 (va_runV (As := [.int (2 : Int32)]) (rest := []) hfx (zc_X9_found l D tb q k F (2 : Int32) S r265 S266 hc267 H.size) (cwV 1 hts gX9_copy_X9_found rfl rfl rfl (by decide +kernel) ⟨Nat.le_of_ble_eq_true rfl, Nat.le_of_ble_eq_true rfl⟩) (zz_pre0V hK hP hD hS hA hE 0 rfl rfl rfl) rfl rfl hl.1 rfl (lv_room (Nat.le_of_ble_eq_true rfl)) dX9_copy_101 ⟨Nat.zero_le _, Nat.zero_le _⟩) hD hS hA (fun H locs hP hD hS => ?_)
                  obtain ⟨rfl, rfl⟩ := zz_e2 hf
                  exact hret _ _ _ _ dX9_copy_104 hP hD hS
                refine lv_if_eq (tgt := 99) hx hb dX9_copy_84 (by decide) (fun c84 => ?_) (fun c84 => ?_)
                · have hf := zz_ps hf c84
                  exact Kj99_264  _ _ hP hD hS ls (lv_sub hl [2] rfl) hf
                · have hf := zz_ng hf c84
                  refine lv_aload hx hb dX9_copy_87 (lv_at hl 0 rfl) ?_
                  refine lv_iload hx hb dX9_copy_89 (lv_at hl 6 rfl) ?_
                  refine lv_iload hx hb dX9_copy_91 (lv_at hl 7 rfl) ?_
                  obtain ⟨r268, hc269, hf⟩ := zz_b1s hf
                  refine zz_ji (va_runV (As := [.int u3, .int u4]) (rest := []) hfx (zc_X5_hasItems l D tb (q 21) (q 22) (k 22) F u3 u4 (zz_gI S 8) (zz_gI S 9) (zz_gI S 10) (zz_gA S 11) r268 hc269 H.size) (cwV 2 hts gX9_copy_X5_hasItems rfl rfl rfl (by decide +kernel) ⟨Nat.le_of_ble_eq_true rfl, Nat.le_of_ble_eq_true rfl⟩) (zz_preV hK hP hD hS hA hE [21, 22] [13] rfl (by decide) rfl 21 rfl rfl rfl) rfl rfl hl.1 rfl (lv_room (Nat.le_of_ble_eq_true rfl)) dX9_copy_93 ⟨Nat.zero_le _, Nat.zero_le _⟩) hP hD hS hA [21, 22] rfl rfl (fun H locs hP hD hS => ?_)
                  have hP : va_P D vwCl (zw_9 q k S) H := hP
                  have hD : va_D A (zw_9 q k S) := hD
                  refine lv_if_ne (tgt := 105) hx hb dX9_copy_96 (by decide) (fun c96 => ?_) (fun c96 => ?_)
                  · have hf := zz_ng hf c96
                    refine lv_aload hx hb dX9_copy_105 (lv_at hl 1 rfl) ?_
                    refine va_get (D := D) (ci := 5) (v := .ref (q 28)) (C := RX5) (T := TX5) (N := 4) hx hb hts inX5 hown hK hP 27 rfl rfl 0 (by decide) lk301 (fun _ h9 => h9) rfl dX9_copy_107 ?_
                    refine lv_iload_n hx hb dX9_copy_110 rfl (lv_at hl 4 rfl) ?_
                    refine lv_aload hx hb dX9_copy_111 (lv_at hl 0 rfl) ?_
                    refine va_get (D := D) (ci := 5) (v := .ref (q 22)) (C := RX5) (T := TX5) (N := 4) hx hb hts inX5 hown hK hP 21 rfl rfl 0 (by decide) lk301 (fun _ h9 => h9) rfl dX9_copy_113 ?_
                    refine lv_iload hx hb dX9_copy_116 (lv_at hl 6 rfl) ?_
                    refine lv_iload hx hb dX9_copy_118 (lv_at hl 7 rfl) ?_
                    obtain ⟨hg270, hf⟩ := zz_gd hf
                    obtain ⟨hg271, hf⟩ := zz_gd hf
                    obtain ⟨hg272, hf⟩ := zz_gd hf
                    obtain ⟨hg273, hf⟩ := zz_gd hf
                    obtain ⟨hg274, hf⟩ := zz_gd hf
                    obtain ⟨S275, hS275, hf⟩ := zz_lts hf
                    refine va_copyi hx hb (hml.trans hl.1.symm) hown lkm310 (hts (.native arraycopyName) (by decide +kernel)) (hts (.static arraycopyName) (by decide +kernel)) (hts (.initialized "java/lang/System") (by decide +kernel)) hK hP hD hS 28 22 16 13 rfl rfl rfl rfl rfl hg270 hg271 hg272 hg273 hg274 (fun _ _ => rfl) (Nat.le_of_ble_eq_true rfl) (Nat.le_of_ble_eq_true rfl) dX9_copy_120 (fun H locs hP hD hS => ?_)
                    have hP : va_P D vwCl (zw_9 q k S275) H := by rw [hS275]; exact hP
                    have hD : va_D A (zw_9 q k S275) := by rw [hS275]; exact hD
                    refine lv_iconst (v := (1 : Int32)) hx hb dX9_copy_123 (by decide) ?_
                    obtain ⟨rfl, rfl⟩ := zz_e2 hf
                    exact hret _ _ _ _ dX9_copy_124 hP hD hS
                  · have hf := zz_ps hf c96
                    exact Kj99_264  _ _ hP hD hS ls (lv_sub hl [2] rfl) hf
              · have hf := zz_ng hf c67
                refine lv_aload_n hx hb dX9_copy_70 rfl (lv_at hl 2 rfl) ?_
                refine lv_iconst (v := (4 : Int32)) hx hb dX9_copy_71 (by decide) ?_
                obtain ⟨r276, S277, hc278, hf⟩ := zz_b2s hf
                refine zz_ji0 (va_runV (As := [.int (4 : Int32)]) (rest := []) hfx (zc_X9_found l D tb q k F (4 : Int32) S r276 S277 hc278 H.size) (cwV 1 hts gX9_copy_X9_found rfl rfl rfl (by decide +kernel) ⟨Nat.le_of_ble_eq_true rfl, Nat.le_of_ble_eq_true rfl⟩) (zz_pre0V hK hP hD hS hA hE 0 rfl rfl rfl) rfl rfl hl.1 rfl (lv_room (Nat.le_of_ble_eq_true rfl)) dX9_copy_72 ⟨Nat.zero_le _, Nat.zero_le _⟩) hD hS hA (fun H locs hP hD hS => ?_)
                obtain ⟨rfl, rfl⟩ := zz_e2 hf
                exact hret _ _ _ _ dX9_copy_75 hP hD hS
            · have hf := zz_ng hf c48
              exact Kj51_258  _ _ hP hD hS ls (lv_sub hl [2] rfl) hf
        have hf := zz_ng hf ci32_0
        by_cases ci32_1 : u2 = (1 : Int32)
        · have hf := zz_ps hf ci32_1
          have hl : lv_has ls 8 [(6, .ref (q 27)), (0, .ref (q 0)), (1, .int (3 : Int32)), (2, .int u1), (3, .int (1 : Int32)), (4, .int u3), (5, .int u4)] := ci32_1 ▸ hl
          refine zz_ti (y := (1 : Int32)) ci32_1.symm ?_
          refine va_aldq hx hb hK hP 20 12 rfl rfl (show zz_in (1 : Int32) 4 by decide) dX9_copy_32 ?_
          refine W.eq (g2 := F0 m 33 ls [.ref (q 23)]) rfl ?_
          refine lv_astore (lv' := [(7, .ref (q 23)), (6, .ref (q 27)), (0, .ref (q 0)), (1, .int (3 : Int32)), (2, .int u1), (3, .int (1 : Int32)), (4, .int u3), (5, .int u4)]) hx hb dX9_copy_33 hl (by decide) rfl (fun ls hl => ?_)
          refine lv_aload hx hb dX9_copy_35 (lv_at hl 1 rfl) ?_
          refine va_get (D := D) (ci := 5) (v := .int (zz_gI S 17)) (C := RX5) (T := TX5) (N := 4) hx hb hts inX5 hown hK hP 27 rfl rfl 1 (by decide) lk235 (fun _ h9 => h9) rfl dX9_copy_37 ?_
          obtain ⟨j51_279, hj51_279, hf⟩ := zz_lts hf
          have Kj51_279 : ∀  (H : Heap) (locs : List Loc), va_P D vwCl (zw_9 q k S) H → va_D A (zw_9 q k S) → va_S A s.heap H locs → ∀ ls : Array Slot, lv_has ls 8 [(0, .ref (q 0))] → j51_279 () = some (r, o1) → W p l e rmX9_copy s m args below meth c H locs 0 0 Q (F0 m 51 ls []) := by
            intro  H locs hP hD hS ls hl hf
            rw [hj51_279] at hf
            refine lv_aload_n hx hb dX9_copy_51 rfl (lv_at hl 0 rfl) ?_
            refine lv_iconst (v := (1 : Int32)) hx hb dX9_copy_52 (by decide) ?_
            obtain ⟨r280, S281, hc282, hf⟩ := zz_b2s hf
            refine zz_ji0 (va_runV (As := [.int (1 : Int32)]) (rest := []) hfx (zc_X9_found l D tb q k F (1 : Int32) S r280 S281 hc282 H.size) (cwV 1 hts gX9_copy_X9_found rfl rfl rfl (by decide +kernel) ⟨Nat.le_of_ble_eq_true rfl, Nat.le_of_ble_eq_true rfl⟩) (zz_pre0V hK hP hD hS hA hE 0 rfl rfl rfl) rfl rfl hl.1 rfl (lv_room (Nat.le_of_ble_eq_true rfl)) dX9_copy_53 ⟨Nat.zero_le _, Nat.zero_le _⟩) hD hS hA (fun H locs hP hD hS => ?_)
            obtain ⟨rfl, rfl⟩ := zz_e2 hf
            exact hret _ _ _ _ dX9_copy_56 hP hD hS
          refine lv_if_ne (tgt := 51) hx hb dX9_copy_40 (by decide) (fun c40 => ?_) (fun c40 => ?_)
          · have hf := zz_ng hf c40
            exact Kj51_279  _ _ hP hD hS ls (lv_sub hl [2] rfl) hf
          · have hf := zz_ps hf c40
            refine lv_aload hx hb dX9_copy_43 (lv_at hl 0 rfl) ?_
            refine va_get (D := D) (ci := 5) (v := .int (zz_gI S 11)) (C := RX5) (T := TX5) (N := 4) hx hb hts inX5 hown hK hP 23 rfl rfl 1 (by decide) lk235 (fun _ h9 => h9) rfl dX9_copy_45 ?_
            refine lv_if_eq (tgt := 57) hx hb dX9_copy_48 (by decide) (fun c48 => ?_) (fun c48 => ?_)
            · have hf := zz_ps hf c48
              refine lv_aload hx hb dX9_copy_57 (lv_at hl 1 rfl) ?_
              refine va_get (D := D) (ci := 5) (v := .int (zz_gI S 18)) (C := RX5) (T := TX5) (N := 4) hx hb hts inX5 hown hK hP 27 rfl rfl 2 (by decide) lk304 (fun _ h9 => h9) rfl dX9_copy_59 ?_
              refine lv_aload hx hb dX9_copy_62 (lv_at hl 0 rfl) ?_
              refine va_get (D := D) (ci := 5) (v := .int (zz_gI S 12)) (C := RX5) (T := TX5) (N := 4) hx hb hts inX5 hown hK hP 23 rfl rfl 2 (by decide) lk304 (fun _ h9 => h9) rfl dX9_copy_64 ?_
              refine lv_icmp_eq (tgt := 76) hx hb dX9_copy_67 (by decide) (fun c67 => ?_) (fun c67 => ?_)
              · have hf := zz_ps hf c67
                refine lv_aload hx hb dX9_copy_76 (lv_at hl 1 rfl) ?_
                refine lv_iload_n hx hb dX9_copy_78 rfl (lv_at hl 4 rfl) ?_
                refine lv_iload hx hb dX9_copy_79 (lv_at hl 7 rfl) ?_
                obtain ⟨r283, hc284, hf⟩ := zz_b1s hf
                refine zz_ji (va_runV (As := [.int u1, .int u4]) (rest := []) hfx (zc_X5_hasItems l D tb (q 27) (q 28) (k 28) F u1 u4 (zz_gI S 17) (zz_gI S 18) (zz_gI S 19) (zz_gA S 14) r283 hc284 H.size) (cwV 2 hts gX9_copy_X5_hasItems rfl rfl rfl (by decide +kernel) ⟨Nat.le_of_ble_eq_true rfl, Nat.le_of_ble_eq_true rfl⟩) (zz_preV hK hP hD hS hA hE [27, 28] [16] rfl (by decide) rfl 27 rfl rfl rfl) rfl rfl hl.1 rfl (lv_room (Nat.le_of_ble_eq_true rfl)) dX9_copy_81 ⟨Nat.zero_le _, Nat.zero_le _⟩) hP hD hS hA [27, 28] rfl rfl (fun H locs hP hD hS => ?_)
                have hP : va_P D vwCl (zw_9 q k S) H := hP
                have hD : va_D A (zw_9 q k S) := hD
                obtain ⟨j99_285, hj99_285, hf⟩ := zz_lts hf
                have Kj99_285 : ∀  (H : Heap) (locs : List Loc), va_P D vwCl (zw_9 q k S) H → va_D A (zw_9 q k S) → va_S A s.heap H locs → ∀ ls : Array Slot, lv_has ls 8 [(0, .ref (q 0))] → j99_285 () = some (r, o1) → W p l e rmX9_copy s m args below meth c H locs 0 0 Q (F0 m 99 ls []) := by
                  intro  H locs hP hD hS ls hl hf
                  rw [hj99_285] at hf
                  refine lv_aload_n hx hb dX9_copy_99 rfl (lv_at hl 0 rfl) ?_
                  refine lv_iconst (v := (2 : Int32)) hx hb dX9_copy_100 (by decide) ?_
                  obtain ⟨r286, S287, hc288, hf⟩ := zz_b2s hf
                  refine zz_ji0 (va_runV (As := [.int (2 : Int32)]) (rest := []) hfx (zc_X9_found l D tb q k F (2 : Int32) S r286 S287 hc288 H.size) (cwV 1 hts gX9_copy_X9_found rfl rfl rfl (by decide +kernel) ⟨Nat.le_of_ble_eq_true rfl, Nat.le_of_ble_eq_true rfl⟩) (zz_pre0V hK hP hD hS hA hE 0 rfl rfl rfl) rfl rfl hl.1 rfl (lv_room (Nat.le_of_ble_eq_true rfl)) dX9_copy_101 ⟨Nat.zero_le _, Nat.zero_le _⟩) hD hS hA (fun H locs hP hD hS => ?_)
                  obtain ⟨rfl, rfl⟩ := zz_e2 hf
                  exact hret _ _ _ _ dX9_copy_104 hP hD hS
                refine lv_if_eq (tgt := 99) hx hb dX9_copy_84 (by decide) (fun c84 => ?_) (fun c84 => ?_)
                · have hf := zz_ps hf c84
                  exact Kj99_285  _ _ hP hD hS ls (lv_sub hl [2] rfl) hf
                · have hf := zz_ng hf c84
                  refine lv_aload hx hb dX9_copy_87 (lv_at hl 0 rfl) ?_
                  refine lv_iload hx hb dX9_copy_89 (lv_at hl 6 rfl) ?_
                  refine lv_iload hx hb dX9_copy_91 (lv_at hl 7 rfl) ?_
                  obtain ⟨r289, hc290, hf⟩ := zz_b1s hf
                  refine zz_ji (va_runV (As := [.int u3, .int u4]) (rest := []) hfx (zc_X5_hasItems l D tb (q 23) (q 24) (k 24) F u3 u4 (zz_gI S 11) (zz_gI S 12) (zz_gI S 13) (zz_gA S 12) r289 hc290 H.size) (cwV 2 hts gX9_copy_X5_hasItems rfl rfl rfl (by decide +kernel) ⟨Nat.le_of_ble_eq_true rfl, Nat.le_of_ble_eq_true rfl⟩) (zz_preV hK hP hD hS hA hE [23, 24] [14] rfl (by decide) rfl 23 rfl rfl rfl) rfl rfl hl.1 rfl (lv_room (Nat.le_of_ble_eq_true rfl)) dX9_copy_93 ⟨Nat.zero_le _, Nat.zero_le _⟩) hP hD hS hA [23, 24] rfl rfl (fun H locs hP hD hS => ?_)
                  have hP : va_P D vwCl (zw_9 q k S) H := hP
                  have hD : va_D A (zw_9 q k S) := hD
                  refine lv_if_ne (tgt := 105) hx hb dX9_copy_96 (by decide) (fun c96 => ?_) (fun c96 => ?_)
                  · have hf := zz_ng hf c96
                    refine lv_aload hx hb dX9_copy_105 (lv_at hl 1 rfl) ?_
                    refine va_get (D := D) (ci := 5) (v := .ref (q 28)) (C := RX5) (T := TX5) (N := 4) hx hb hts inX5 hown hK hP 27 rfl rfl 0 (by decide) lk301 (fun _ h9 => h9) rfl dX9_copy_107 ?_
                    refine lv_iload_n hx hb dX9_copy_110 rfl (lv_at hl 4 rfl) ?_
                    refine lv_aload hx hb dX9_copy_111 (lv_at hl 0 rfl) ?_
                    refine va_get (D := D) (ci := 5) (v := .ref (q 24)) (C := RX5) (T := TX5) (N := 4) hx hb hts inX5 hown hK hP 23 rfl rfl 0 (by decide) lk301 (fun _ h9 => h9) rfl dX9_copy_113 ?_
                    refine lv_iload hx hb dX9_copy_116 (lv_at hl 6 rfl) ?_
                    refine lv_iload hx hb dX9_copy_118 (lv_at hl 7 rfl) ?_
                    obtain ⟨hg291, hf⟩ := zz_gd hf
                    obtain ⟨hg292, hf⟩ := zz_gd hf
                    obtain ⟨hg293, hf⟩ := zz_gd hf
                    obtain ⟨hg294, hf⟩ := zz_gd hf
                    obtain ⟨hg295, hf⟩ := zz_gd hf
                    obtain ⟨S296, hS296, hf⟩ := zz_lts hf
                    refine va_copyi hx hb (hml.trans hl.1.symm) hown lkm310 (hts (.native arraycopyName) (by decide +kernel)) (hts (.static arraycopyName) (by decide +kernel)) (hts (.initialized "java/lang/System") (by decide +kernel)) hK hP hD hS 28 24 16 14 rfl rfl rfl rfl rfl hg291 hg292 hg293 hg294 hg295 (fun _ _ => rfl) (Nat.le_of_ble_eq_true rfl) (Nat.le_of_ble_eq_true rfl) dX9_copy_120 (fun H locs hP hD hS => ?_)
                    have hP : va_P D vwCl (zw_9 q k S296) H := by rw [hS296]; exact hP
                    have hD : va_D A (zw_9 q k S296) := by rw [hS296]; exact hD
                    refine lv_iconst (v := (1 : Int32)) hx hb dX9_copy_123 (by decide) ?_
                    obtain ⟨rfl, rfl⟩ := zz_e2 hf
                    exact hret _ _ _ _ dX9_copy_124 hP hD hS
                  · have hf := zz_ps hf c96
                    exact Kj99_285  _ _ hP hD hS ls (lv_sub hl [2] rfl) hf
              · have hf := zz_ng hf c67
                refine lv_aload_n hx hb dX9_copy_70 rfl (lv_at hl 2 rfl) ?_
                refine lv_iconst (v := (4 : Int32)) hx hb dX9_copy_71 (by decide) ?_
                obtain ⟨r297, S298, hc299, hf⟩ := zz_b2s hf
                refine zz_ji0 (va_runV (As := [.int (4 : Int32)]) (rest := []) hfx (zc_X9_found l D tb q k F (4 : Int32) S r297 S298 hc299 H.size) (cwV 1 hts gX9_copy_X9_found rfl rfl rfl (by decide +kernel) ⟨Nat.le_of_ble_eq_true rfl, Nat.le_of_ble_eq_true rfl⟩) (zz_pre0V hK hP hD hS hA hE 0 rfl rfl rfl) rfl rfl hl.1 rfl (lv_room (Nat.le_of_ble_eq_true rfl)) dX9_copy_72 ⟨Nat.zero_le _, Nat.zero_le _⟩) hD hS hA (fun H locs hP hD hS => ?_)
                obtain ⟨rfl, rfl⟩ := zz_e2 hf
                exact hret _ _ _ _ dX9_copy_75 hP hD hS
            · have hf := zz_ng hf c48
              exact Kj51_279  _ _ hP hD hS ls (lv_sub hl [2] rfl) hf
        have hf := zz_ng hf ci32_1
        by_cases ci32_2 : u2 = (2 : Int32)
        · have hf := zz_ps hf ci32_2
          have hl : lv_has ls 8 [(6, .ref (q 27)), (0, .ref (q 0)), (1, .int (3 : Int32)), (2, .int u1), (3, .int (2 : Int32)), (4, .int u3), (5, .int u4)] := ci32_2 ▸ hl
          refine zz_ti (y := (2 : Int32)) ci32_2.symm ?_
          refine va_aldq hx hb hK hP 20 12 rfl rfl (show zz_in (2 : Int32) 4 by decide) dX9_copy_32 ?_
          refine W.eq (g2 := F0 m 33 ls [.ref (q 25)]) rfl ?_
          refine lv_astore (lv' := [(7, .ref (q 25)), (6, .ref (q 27)), (0, .ref (q 0)), (1, .int (3 : Int32)), (2, .int u1), (3, .int (2 : Int32)), (4, .int u3), (5, .int u4)]) hx hb dX9_copy_33 hl (by decide) rfl (fun ls hl => ?_)
          refine lv_aload hx hb dX9_copy_35 (lv_at hl 1 rfl) ?_
          refine va_get (D := D) (ci := 5) (v := .int (zz_gI S 17)) (C := RX5) (T := TX5) (N := 4) hx hb hts inX5 hown hK hP 27 rfl rfl 1 (by decide) lk235 (fun _ h9 => h9) rfl dX9_copy_37 ?_
          obtain ⟨j51_300, hj51_300, hf⟩ := zz_lts hf
          have Kj51_300 : ∀  (H : Heap) (locs : List Loc), va_P D vwCl (zw_9 q k S) H → va_D A (zw_9 q k S) → va_S A s.heap H locs → ∀ ls : Array Slot, lv_has ls 8 [(0, .ref (q 0))] → j51_300 () = some (r, o1) → W p l e rmX9_copy s m args below meth c H locs 0 0 Q (F0 m 51 ls []) := by
            intro  H locs hP hD hS ls hl hf
            rw [hj51_300] at hf
            refine lv_aload_n hx hb dX9_copy_51 rfl (lv_at hl 0 rfl) ?_
            refine lv_iconst (v := (1 : Int32)) hx hb dX9_copy_52 (by decide) ?_
            obtain ⟨r301, S302, hc303, hf⟩ := zz_b2s hf
            refine zz_ji0 (va_runV (As := [.int (1 : Int32)]) (rest := []) hfx (zc_X9_found l D tb q k F (1 : Int32) S r301 S302 hc303 H.size) (cwV 1 hts gX9_copy_X9_found rfl rfl rfl (by decide +kernel) ⟨Nat.le_of_ble_eq_true rfl, Nat.le_of_ble_eq_true rfl⟩) (zz_pre0V hK hP hD hS hA hE 0 rfl rfl rfl) rfl rfl hl.1 rfl (lv_room (Nat.le_of_ble_eq_true rfl)) dX9_copy_53 ⟨Nat.zero_le _, Nat.zero_le _⟩) hD hS hA (fun H locs hP hD hS => ?_)
            obtain ⟨rfl, rfl⟩ := zz_e2 hf
            exact hret _ _ _ _ dX9_copy_56 hP hD hS
          refine lv_if_ne (tgt := 51) hx hb dX9_copy_40 (by decide) (fun c40 => ?_) (fun c40 => ?_)
          · have hf := zz_ng hf c40
            exact Kj51_300  _ _ hP hD hS ls (lv_sub hl [2] rfl) hf
          · have hf := zz_ps hf c40
            refine lv_aload hx hb dX9_copy_43 (lv_at hl 0 rfl) ?_
            refine va_get (D := D) (ci := 5) (v := .int (zz_gI S 14)) (C := RX5) (T := TX5) (N := 4) hx hb hts inX5 hown hK hP 25 rfl rfl 1 (by decide) lk235 (fun _ h9 => h9) rfl dX9_copy_45 ?_
            refine lv_if_eq (tgt := 57) hx hb dX9_copy_48 (by decide) (fun c48 => ?_) (fun c48 => ?_)
            · have hf := zz_ps hf c48
              refine lv_aload hx hb dX9_copy_57 (lv_at hl 1 rfl) ?_
              refine va_get (D := D) (ci := 5) (v := .int (zz_gI S 18)) (C := RX5) (T := TX5) (N := 4) hx hb hts inX5 hown hK hP 27 rfl rfl 2 (by decide) lk304 (fun _ h9 => h9) rfl dX9_copy_59 ?_
              refine lv_aload hx hb dX9_copy_62 (lv_at hl 0 rfl) ?_
              refine va_get (D := D) (ci := 5) (v := .int (zz_gI S 15)) (C := RX5) (T := TX5) (N := 4) hx hb hts inX5 hown hK hP 25 rfl rfl 2 (by decide) lk304 (fun _ h9 => h9) rfl dX9_copy_64 ?_
              refine lv_icmp_eq (tgt := 76) hx hb dX9_copy_67 (by decide) (fun c67 => ?_) (fun c67 => ?_)
              · have hf := zz_ps hf c67
                refine lv_aload hx hb dX9_copy_76 (lv_at hl 1 rfl) ?_
                refine lv_iload_n hx hb dX9_copy_78 rfl (lv_at hl 4 rfl) ?_
                refine lv_iload hx hb dX9_copy_79 (lv_at hl 7 rfl) ?_
                obtain ⟨r304, hc305, hf⟩ := zz_b1s hf
                refine zz_ji (va_runV (As := [.int u1, .int u4]) (rest := []) hfx (zc_X5_hasItems l D tb (q 27) (q 28) (k 28) F u1 u4 (zz_gI S 17) (zz_gI S 18) (zz_gI S 19) (zz_gA S 14) r304 hc305 H.size) (cwV 2 hts gX9_copy_X5_hasItems rfl rfl rfl (by decide +kernel) ⟨Nat.le_of_ble_eq_true rfl, Nat.le_of_ble_eq_true rfl⟩) (zz_preV hK hP hD hS hA hE [27, 28] [16] rfl (by decide) rfl 27 rfl rfl rfl) rfl rfl hl.1 rfl (lv_room (Nat.le_of_ble_eq_true rfl)) dX9_copy_81 ⟨Nat.zero_le _, Nat.zero_le _⟩) hP hD hS hA [27, 28] rfl rfl (fun H locs hP hD hS => ?_)
                have hP : va_P D vwCl (zw_9 q k S) H := hP
                have hD : va_D A (zw_9 q k S) := hD
                obtain ⟨j99_306, hj99_306, hf⟩ := zz_lts hf
                have Kj99_306 : ∀  (H : Heap) (locs : List Loc), va_P D vwCl (zw_9 q k S) H → va_D A (zw_9 q k S) → va_S A s.heap H locs → ∀ ls : Array Slot, lv_has ls 8 [(0, .ref (q 0))] → j99_306 () = some (r, o1) → W p l e rmX9_copy s m args below meth c H locs 0 0 Q (F0 m 99 ls []) := by
                  intro  H locs hP hD hS ls hl hf
                  rw [hj99_306] at hf
                  refine lv_aload_n hx hb dX9_copy_99 rfl (lv_at hl 0 rfl) ?_
                  refine lv_iconst (v := (2 : Int32)) hx hb dX9_copy_100 (by decide) ?_
                  obtain ⟨r307, S308, hc309, hf⟩ := zz_b2s hf
                  refine zz_ji0 (va_runV (As := [.int (2 : Int32)]) (rest := []) hfx (zc_X9_found l D tb q k F (2 : Int32) S r307 S308 hc309 H.size) (cwV 1 hts gX9_copy_X9_found rfl rfl rfl (by decide +kernel) ⟨Nat.le_of_ble_eq_true rfl, Nat.le_of_ble_eq_true rfl⟩) (zz_pre0V hK hP hD hS hA hE 0 rfl rfl rfl) rfl rfl hl.1 rfl (lv_room (Nat.le_of_ble_eq_true rfl)) dX9_copy_101 ⟨Nat.zero_le _, Nat.zero_le _⟩) hD hS hA (fun H locs hP hD hS => ?_)
                  obtain ⟨rfl, rfl⟩ := zz_e2 hf
                  exact hret _ _ _ _ dX9_copy_104 hP hD hS
                refine lv_if_eq (tgt := 99) hx hb dX9_copy_84 (by decide) (fun c84 => ?_) (fun c84 => ?_)
                · have hf := zz_ps hf c84
                  exact Kj99_306  _ _ hP hD hS ls (lv_sub hl [2] rfl) hf
                · have hf := zz_ng hf c84
                  refine lv_aload hx hb dX9_copy_87 (lv_at hl 0 rfl) ?_
                  refine lv_iload hx hb dX9_copy_89 (lv_at hl 6 rfl) ?_
                  refine lv_iload hx hb dX9_copy_91 (lv_at hl 7 rfl) ?_
                  obtain ⟨r310, hc311, hf⟩ := zz_b1s hf
                  refine zz_ji (va_runV (As := [.int u3, .int u4]) (rest := []) hfx (zc_X5_hasItems l D tb (q 25) (q 26) (k 26) F u3 u4 (zz_gI S 14) (zz_gI S 15) (zz_gI S 16) (zz_gA S 13) r310 hc311 H.size) (cwV 2 hts gX9_copy_X5_hasItems rfl rfl rfl (by decide +kernel) ⟨Nat.le_of_ble_eq_true rfl, Nat.le_of_ble_eq_true rfl⟩) (zz_preV hK hP hD hS hA hE [25, 26] [15] rfl (by decide) rfl 25 rfl rfl rfl) rfl rfl hl.1 rfl (lv_room (Nat.le_of_ble_eq_true rfl)) dX9_copy_93 ⟨Nat.zero_le _, Nat.zero_le _⟩) hP hD hS hA [25, 26] rfl rfl (fun H locs hP hD hS => ?_)
                  have hP : va_P D vwCl (zw_9 q k S) H := hP
                  have hD : va_D A (zw_9 q k S) := hD
                  refine lv_if_ne (tgt := 105) hx hb dX9_copy_96 (by decide) (fun c96 => ?_) (fun c96 => ?_)
                  · have hf := zz_ng hf c96
                    refine lv_aload hx hb dX9_copy_105 (lv_at hl 1 rfl) ?_
                    refine va_get (D := D) (ci := 5) (v := .ref (q 28)) (C := RX5) (T := TX5) (N := 4) hx hb hts inX5 hown hK hP 27 rfl rfl 0 (by decide) lk301 (fun _ h9 => h9) rfl dX9_copy_107 ?_
                    refine lv_iload_n hx hb dX9_copy_110 rfl (lv_at hl 4 rfl) ?_
                    refine lv_aload hx hb dX9_copy_111 (lv_at hl 0 rfl) ?_
                    refine va_get (D := D) (ci := 5) (v := .ref (q 26)) (C := RX5) (T := TX5) (N := 4) hx hb hts inX5 hown hK hP 25 rfl rfl 0 (by decide) lk301 (fun _ h9 => h9) rfl dX9_copy_113 ?_
                    refine lv_iload hx hb dX9_copy_116 (lv_at hl 6 rfl) ?_
                    refine lv_iload hx hb dX9_copy_118 (lv_at hl 7 rfl) ?_
                    obtain ⟨hg312, hf⟩ := zz_gd hf
                    obtain ⟨hg313, hf⟩ := zz_gd hf
                    obtain ⟨hg314, hf⟩ := zz_gd hf
                    obtain ⟨hg315, hf⟩ := zz_gd hf
                    obtain ⟨hg316, hf⟩ := zz_gd hf
                    obtain ⟨S317, hS317, hf⟩ := zz_lts hf
                    refine va_copyi hx hb (hml.trans hl.1.symm) hown lkm310 (hts (.native arraycopyName) (by decide +kernel)) (hts (.static arraycopyName) (by decide +kernel)) (hts (.initialized "java/lang/System") (by decide +kernel)) hK hP hD hS 28 26 16 15 rfl rfl rfl rfl rfl hg312 hg313 hg314 hg315 hg316 (fun _ _ => rfl) (Nat.le_of_ble_eq_true rfl) (Nat.le_of_ble_eq_true rfl) dX9_copy_120 (fun H locs hP hD hS => ?_)
                    have hP : va_P D vwCl (zw_9 q k S317) H := by rw [hS317]; exact hP
                    have hD : va_D A (zw_9 q k S317) := by rw [hS317]; exact hD
                    refine lv_iconst (v := (1 : Int32)) hx hb dX9_copy_123 (by decide) ?_
                    obtain ⟨rfl, rfl⟩ := zz_e2 hf
                    exact hret _ _ _ _ dX9_copy_124 hP hD hS
                  · have hf := zz_ps hf c96
                    exact Kj99_306  _ _ hP hD hS ls (lv_sub hl [2] rfl) hf
              · have hf := zz_ng hf c67
                refine lv_aload_n hx hb dX9_copy_70 rfl (lv_at hl 2 rfl) ?_
                refine lv_iconst (v := (4 : Int32)) hx hb dX9_copy_71 (by decide) ?_
                obtain ⟨r318, S319, hc320, hf⟩ := zz_b2s hf
                refine zz_ji0 (va_runV (As := [.int (4 : Int32)]) (rest := []) hfx (zc_X9_found l D tb q k F (4 : Int32) S r318 S319 hc320 H.size) (cwV 1 hts gX9_copy_X9_found rfl rfl rfl (by decide +kernel) ⟨Nat.le_of_ble_eq_true rfl, Nat.le_of_ble_eq_true rfl⟩) (zz_pre0V hK hP hD hS hA hE 0 rfl rfl rfl) rfl rfl hl.1 rfl (lv_room (Nat.le_of_ble_eq_true rfl)) dX9_copy_72 ⟨Nat.zero_le _, Nat.zero_le _⟩) hD hS hA (fun H locs hP hD hS => ?_)
                obtain ⟨rfl, rfl⟩ := zz_e2 hf
                exact hret _ _ _ _ dX9_copy_75 hP hD hS
            · have hf := zz_ng hf c48
              exact Kj51_300  _ _ hP hD hS ls (lv_sub hl [2] rfl) hf
        have hf := zz_ng hf ci32_2
        by_cases ci32_3 : u2 = (3 : Int32)
        · have hf := zz_ps hf ci32_3
          have hl : lv_has ls 8 [(6, .ref (q 27)), (0, .ref (q 0)), (1, .int (3 : Int32)), (2, .int u1), (3, .int (3 : Int32)), (4, .int u3), (5, .int u4)] := ci32_3 ▸ hl
          refine zz_ti (y := (3 : Int32)) ci32_3.symm ?_
          refine va_aldq hx hb hK hP 20 12 rfl rfl (show zz_in (3 : Int32) 4 by decide) dX9_copy_32 ?_
          refine W.eq (g2 := F0 m 33 ls [.ref (q 27)]) rfl ?_
          refine lv_astore (lv' := [(7, .ref (q 27)), (6, .ref (q 27)), (0, .ref (q 0)), (1, .int (3 : Int32)), (2, .int u1), (3, .int (3 : Int32)), (4, .int u3), (5, .int u4)]) hx hb dX9_copy_33 hl (by decide) rfl (fun ls hl => ?_)
          refine lv_aload hx hb dX9_copy_35 (lv_at hl 1 rfl) ?_
          refine va_get (D := D) (ci := 5) (v := .int (zz_gI S 17)) (C := RX5) (T := TX5) (N := 4) hx hb hts inX5 hown hK hP 27 rfl rfl 1 (by decide) lk235 (fun _ h9 => h9) rfl dX9_copy_37 ?_
          obtain ⟨j51_321, hj51_321, hf⟩ := zz_lts hf
          have Kj51_321 : ∀  (H : Heap) (locs : List Loc), va_P D vwCl (zw_9 q k S) H → va_D A (zw_9 q k S) → va_S A s.heap H locs → ∀ ls : Array Slot, lv_has ls 8 [(0, .ref (q 0))] → j51_321 () = some (r, o1) → W p l e rmX9_copy s m args below meth c H locs 0 0 Q (F0 m 51 ls []) := by
            intro  H locs hP hD hS ls hl hf
            rw [hj51_321] at hf
            refine lv_aload_n hx hb dX9_copy_51 rfl (lv_at hl 0 rfl) ?_
            refine lv_iconst (v := (1 : Int32)) hx hb dX9_copy_52 (by decide) ?_
            obtain ⟨r322, S323, hc324, hf⟩ := zz_b2s hf
            refine zz_ji0 (va_runV (As := [.int (1 : Int32)]) (rest := []) hfx (zc_X9_found l D tb q k F (1 : Int32) S r322 S323 hc324 H.size) (cwV 1 hts gX9_copy_X9_found rfl rfl rfl (by decide +kernel) ⟨Nat.le_of_ble_eq_true rfl, Nat.le_of_ble_eq_true rfl⟩) (zz_pre0V hK hP hD hS hA hE 0 rfl rfl rfl) rfl rfl hl.1 rfl (lv_room (Nat.le_of_ble_eq_true rfl)) dX9_copy_53 ⟨Nat.zero_le _, Nat.zero_le _⟩) hD hS hA (fun H locs hP hD hS => ?_)
            obtain ⟨rfl, rfl⟩ := zz_e2 hf
            exact hret _ _ _ _ dX9_copy_56 hP hD hS
          refine lv_if_ne (tgt := 51) hx hb dX9_copy_40 (by decide) (fun c40 => ?_) (fun c40 => ?_)
          · have hf := zz_ng hf c40
            exact Kj51_321  _ _ hP hD hS ls (lv_sub hl [2] rfl) hf
          · have hf := zz_ps hf c40
            refine lv_aload hx hb dX9_copy_43 (lv_at hl 0 rfl) ?_
            refine va_get (D := D) (ci := 5) (v := .int (zz_gI S 17)) (C := RX5) (T := TX5) (N := 4) hx hb hts inX5 hown hK hP 27 rfl rfl 1 (by decide) lk235 (fun _ h9 => h9) rfl dX9_copy_45 ?_
            refine lv_if_eq (tgt := 57) hx hb dX9_copy_48 (by decide) (fun c48 => ?_) (fun c48 => ?_)
            · have hf := zz_ps hf c48
              refine lv_aload hx hb dX9_copy_57 (lv_at hl 1 rfl) ?_
              refine va_get (D := D) (ci := 5) (v := .int (zz_gI S 18)) (C := RX5) (T := TX5) (N := 4) hx hb hts inX5 hown hK hP 27 rfl rfl 2 (by decide) lk304 (fun _ h9 => h9) rfl dX9_copy_59 ?_
              refine lv_aload hx hb dX9_copy_62 (lv_at hl 0 rfl) ?_
              refine va_get (D := D) (ci := 5) (v := .int (zz_gI S 18)) (C := RX5) (T := TX5) (N := 4) hx hb hts inX5 hown hK hP 27 rfl rfl 2 (by decide) lk304 (fun _ h9 => h9) rfl dX9_copy_64 ?_
              refine lv_icmp_eq (tgt := 76) hx hb dX9_copy_67 (by decide) (fun c67 => ?_) (fun c67 => ?_)
              · have hf := zz_ps hf c67
                refine lv_aload hx hb dX9_copy_76 (lv_at hl 1 rfl) ?_
                refine lv_iload_n hx hb dX9_copy_78 rfl (lv_at hl 4 rfl) ?_
                refine lv_iload hx hb dX9_copy_79 (lv_at hl 7 rfl) ?_
                obtain ⟨r325, hc326, hf⟩ := zz_b1s hf
                refine zz_ji (va_runV (As := [.int u1, .int u4]) (rest := []) hfx (zc_X5_hasItems l D tb (q 27) (q 28) (k 28) F u1 u4 (zz_gI S 17) (zz_gI S 18) (zz_gI S 19) (zz_gA S 14) r325 hc326 H.size) (cwV 2 hts gX9_copy_X5_hasItems rfl rfl rfl (by decide +kernel) ⟨Nat.le_of_ble_eq_true rfl, Nat.le_of_ble_eq_true rfl⟩) (zz_preV hK hP hD hS hA hE [27, 28] [16] rfl (by decide) rfl 27 rfl rfl rfl) rfl rfl hl.1 rfl (lv_room (Nat.le_of_ble_eq_true rfl)) dX9_copy_81 ⟨Nat.zero_le _, Nat.zero_le _⟩) hP hD hS hA [27, 28] rfl rfl (fun H locs hP hD hS => ?_)
                have hP : va_P D vwCl (zw_9 q k S) H := hP
                have hD : va_D A (zw_9 q k S) := hD
                obtain ⟨j99_327, hj99_327, hf⟩ := zz_lts hf
                have Kj99_327 : ∀  (H : Heap) (locs : List Loc), va_P D vwCl (zw_9 q k S) H → va_D A (zw_9 q k S) → va_S A s.heap H locs → ∀ ls : Array Slot, lv_has ls 8 [(0, .ref (q 0))] → j99_327 () = some (r, o1) → W p l e rmX9_copy s m args below meth c H locs 0 0 Q (F0 m 99 ls []) := by
                  intro  H locs hP hD hS ls hl hf
                  rw [hj99_327] at hf
                  refine lv_aload_n hx hb dX9_copy_99 rfl (lv_at hl 0 rfl) ?_
                  refine lv_iconst (v := (2 : Int32)) hx hb dX9_copy_100 (by decide) ?_
                  obtain ⟨r328, S329, hc330, hf⟩ := zz_b2s hf
                  refine zz_ji0 (va_runV (As := [.int (2 : Int32)]) (rest := []) hfx (zc_X9_found l D tb q k F (2 : Int32) S r328 S329 hc330 H.size) (cwV 1 hts gX9_copy_X9_found rfl rfl rfl (by decide +kernel) ⟨Nat.le_of_ble_eq_true rfl, Nat.le_of_ble_eq_true rfl⟩) (zz_pre0V hK hP hD hS hA hE 0 rfl rfl rfl) rfl rfl hl.1 rfl (lv_room (Nat.le_of_ble_eq_true rfl)) dX9_copy_101 ⟨Nat.zero_le _, Nat.zero_le _⟩) hD hS hA (fun H locs hP hD hS => ?_)
                  obtain ⟨rfl, rfl⟩ := zz_e2 hf
                  exact hret _ _ _ _ dX9_copy_104 hP hD hS
                refine lv_if_eq (tgt := 99) hx hb dX9_copy_84 (by decide) (fun c84 => ?_) (fun c84 => ?_)
                · have hf := zz_ps hf c84
                  exact Kj99_327  _ _ hP hD hS ls (lv_sub hl [2] rfl) hf
                · have hf := zz_ng hf c84
                  refine lv_aload hx hb dX9_copy_87 (lv_at hl 0 rfl) ?_
                  refine lv_iload hx hb dX9_copy_89 (lv_at hl 6 rfl) ?_
                  refine lv_iload hx hb dX9_copy_91 (lv_at hl 7 rfl) ?_
                  obtain ⟨r331, hc332, hf⟩ := zz_b1s hf
                  refine zz_ji (va_runV (As := [.int u3, .int u4]) (rest := []) hfx (zc_X5_hasItems l D tb (q 27) (q 28) (k 28) F u3 u4 (zz_gI S 17) (zz_gI S 18) (zz_gI S 19) (zz_gA S 14) r331 hc332 H.size) (cwV 2 hts gX9_copy_X5_hasItems rfl rfl rfl (by decide +kernel) ⟨Nat.le_of_ble_eq_true rfl, Nat.le_of_ble_eq_true rfl⟩) (zz_preV hK hP hD hS hA hE [27, 28] [16] rfl (by decide) rfl 27 rfl rfl rfl) rfl rfl hl.1 rfl (lv_room (Nat.le_of_ble_eq_true rfl)) dX9_copy_93 ⟨Nat.zero_le _, Nat.zero_le _⟩) hP hD hS hA [27, 28] rfl rfl (fun H locs hP hD hS => ?_)
                  have hP : va_P D vwCl (zw_9 q k S) H := hP
                  have hD : va_D A (zw_9 q k S) := hD
                  refine lv_if_ne (tgt := 105) hx hb dX9_copy_96 (by decide) (fun c96 => ?_) (fun c96 => ?_)
                  · have hf := zz_ng hf c96
                    refine lv_aload hx hb dX9_copy_105 (lv_at hl 1 rfl) ?_
                    refine va_get (D := D) (ci := 5) (v := .ref (q 28)) (C := RX5) (T := TX5) (N := 4) hx hb hts inX5 hown hK hP 27 rfl rfl 0 (by decide) lk301 (fun _ h9 => h9) rfl dX9_copy_107 ?_
                    refine lv_iload_n hx hb dX9_copy_110 rfl (lv_at hl 4 rfl) ?_
                    refine lv_aload hx hb dX9_copy_111 (lv_at hl 0 rfl) ?_
                    refine va_get (D := D) (ci := 5) (v := .ref (q 28)) (C := RX5) (T := TX5) (N := 4) hx hb hts inX5 hown hK hP 27 rfl rfl 0 (by decide) lk301 (fun _ h9 => h9) rfl dX9_copy_113 ?_
                    refine lv_iload hx hb dX9_copy_116 (lv_at hl 6 rfl) ?_
                    refine lv_iload hx hb dX9_copy_118 (lv_at hl 7 rfl) ?_
                    obtain ⟨hg333, hf⟩ := zz_gd hf
                    obtain ⟨hg334, hf⟩ := zz_gd hf
                    obtain ⟨hg335, hf⟩ := zz_gd hf
                    obtain ⟨hg336, hf⟩ := zz_gd hf
                    obtain ⟨hg337, hf⟩ := zz_gd hf
                    obtain ⟨S338, hS338, hf⟩ := zz_lts hf
                    refine va_copyi hx hb (hml.trans hl.1.symm) hown lkm310 (hts (.native arraycopyName) (by decide +kernel)) (hts (.static arraycopyName) (by decide +kernel)) (hts (.initialized "java/lang/System") (by decide +kernel)) hK hP hD hS 28 28 16 16 rfl rfl rfl rfl rfl hg333 hg334 hg335 hg336 hg337 (fun _ _ => rfl) (Nat.le_of_ble_eq_true rfl) (Nat.le_of_ble_eq_true rfl) dX9_copy_120 (fun H locs hP hD hS => ?_)
                    have hP : va_P D vwCl (zw_9 q k S338) H := by rw [hS338]; exact hP
                    have hD : va_D A (zw_9 q k S338) := by rw [hS338]; exact hD
                    refine lv_iconst (v := (1 : Int32)) hx hb dX9_copy_123 (by decide) ?_
                    obtain ⟨rfl, rfl⟩ := zz_e2 hf
                    exact hret _ _ _ _ dX9_copy_124 hP hD hS
                  · have hf := zz_ps hf c96
                    exact Kj99_327  _ _ hP hD hS ls (lv_sub hl [2] rfl) hf
              · have hf := zz_ng hf c67
                refine lv_aload_n hx hb dX9_copy_70 rfl (lv_at hl 2 rfl) ?_
                refine lv_iconst (v := (4 : Int32)) hx hb dX9_copy_71 (by decide) ?_
                obtain ⟨r339, S340, hc341, hf⟩ := zz_b2s hf
                refine zz_ji0 (va_runV (As := [.int (4 : Int32)]) (rest := []) hfx (zc_X9_found l D tb q k F (4 : Int32) S r339 S340 hc341 H.size) (cwV 1 hts gX9_copy_X9_found rfl rfl rfl (by decide +kernel) ⟨Nat.le_of_ble_eq_true rfl, Nat.le_of_ble_eq_true rfl⟩) (zz_pre0V hK hP hD hS hA hE 0 rfl rfl rfl) rfl rfl hl.1 rfl (lv_room (Nat.le_of_ble_eq_true rfl)) dX9_copy_72 ⟨Nat.zero_le _, Nat.zero_le _⟩) hD hS hA (fun H locs hP hD hS => ?_)
                obtain ⟨rfl, rfl⟩ := zz_e2 hf
                exact hret _ _ _ _ dX9_copy_75 hP hD hS
            · have hf := zz_ng hf c48
              exact Kj51_321  _ _ hP hD hS ls (lv_sub hl [2] rfl) hf
        have hf := zz_ng hf ci32_3
        exact nomatch hf
      have hf := zz_ng hf ci24_3
      exact nomatch hf
    · have hf := zz_ps hf c13
      exact Kj16_3  _ _ hP hD hS ls (lv_sub hl [] rfl) hf
