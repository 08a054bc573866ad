def rmX10_safe : Room := { frames := 8, cells := 0, slots := 0, locals := 179 }
set_option maxHeartbeats 4000000 in
set_option maxRecDepth 100000 in
theorem zc_X10_safe (l : Launch) (D : va_G) (tb : Nat → Nat) (q : Nat → Nat) (k : Nat → ClassId) (F : Nat) (u0 : Int32) (S : zz_M) (r : Int32) (o1 : zz_M) (hf : pX10_safe F u0 S = some (r, o1)) : zz_Mi l yX10_safe wsX10_safe rmX10_safe D tb [((k 1), .int), ((k 2), .int), ((k 3), .int), ((k 4), .int), ((k 5), .int), ((k 6), .int), ((k 7), .int), ((k 8), .boolean), ((k 9), .int), ((k 10), .int), ((k 11), .int), ((k 12), .int), ((k 13), .int), ((k 14), .int), ((k 15), .int), ((k 16), .boolean), ((k 17), .int), ((k 18), .int), ((k 19), .int), ((k 20), .int)] [.ref (q 0), .int u0] (zw_10 q k S) (zw_10 q k o1) r := by
  refine zz_ofi (cc := cX10_safe) (maxL := 2) (by decide) rfl (Nat.le_of_ble_eq_true rfl) ?_
  intro p e s m args below meth c A Q hfx hK hA hE hret H locs hP hD hS ls hl
  obtain ⟨hx, hb, hml, hown, hts⟩ := id hfx
  have hl : lv_has ls 2 [(0, .ref (q 0)), (1, .int u0)] := hl
  unfold pX10_safe at hf
  refine lv_iload_n hx hb dX10_safe_0 rfl (lv_at hl 1 rfl) ?_
  refine lv_iconst (v := (0 : Int32)) hx hb dX10_safe_1 (by decide) ?_
  refine lv_iconst (v := (1 : Int32)) hx hb dX10_safe_2 (by decide) ?_
  obtain ⟨r1, hc2, hf⟩ := zz_b1s hf
  refine zz_ji (va_runS (As := [.int u0, .int (0 : Int32), .int (1 : Int32)]) (rest := []) hfx (zc_X10_in l D tb  F u0 (0 : Int32) (1 : Int32)  r1 hc2 H.size) (va_cwS 3 hts gX10_safe_X10_in rfl rfl rfl (by decide +kernel) ⟨Nat.le_of_ble_eq_true rfl, Nat.le_of_ble_eq_true rfl⟩) (zz_preS hK hP hD hS hA hE [] [] rfl (by decide) rfl) rfl rfl hl.1 rfl (lv_room (Nat.le_of_ble_eq_true rfl)) dX10_safe_3 ⟨Nat.zero_le _, Nat.zero_le _⟩) hP hD hS hA [] rfl rfl (fun H locs hP hD hS => ?_)
  have hP : va_P D vwCl (zw_10 q k S) H := hP
  have hD : va_D A (zw_10 q k S) := hD
  obtain ⟨j19_5, hj19_5, hf⟩ := zz_lts hf
  have Kj19_5 : ∀ (y3 : Int32) (z4 : zz_M) (H : Heap) (locs : List Loc), va_P D vwCl (zw_10 q k z4) H → va_D A (zw_10 q k z4) → va_S A s.heap H locs → ∀ ls : Array Slot, lv_has ls 2 [] → j19_5 y3 z4 = some (r, o1) → W p l e rmX10_safe s m args below meth c H locs 0 0 Q (F0 m 19 ls [.int y3]) := by
    intro y3 z4 H locs hP hD hS ls hl hf
    rw [hj19_5] at hf
    obtain ⟨rfl, rfl⟩ := zz_e2 hf
    exact hret _ _ _ _ dX10_safe_19 hP hD hS
  refine lv_if_eq (tgt := 17) hx hb dX10_safe_6 (by decide) (fun c6 => ?_) (fun c6 => ?_)
  · have hf := zz_ps hf c6
    refine lv_bipush (v := (-2 : Int32)) hx hb dX10_safe_17 (by decide) ?_
    exact Kj19_5 (-2 : Int32) S _ _ hP hD hS ls (lv_sub hl [] rfl) hf
  · have hf := zz_ng hf c6
    refine lv_aload_n hx hb dX10_safe_9 rfl (lv_at hl 0 rfl) ?_
    refine lv_iload_n hx hb dX10_safe_10 rfl (lv_at hl 1 rfl) ?_
    obtain ⟨r6, S7, hc8, hf⟩ := zz_b2s hf
    refine zz_ji0 (va_runV (As := [.int u0]) (rest := []) hfx (zc_X10_safeOf l D tb q k F u0 S r6 S7 hc8 H.size) (cwV 1 hts gX10_safe_X10_safeOf rfl rfl rfl (by decide +kernel) ⟨Nat.le_of_ble_eq_true rfl, Nat.le_of_ble_eq_true rfl⟩) (zz_pre0V hK hP hD hS hA hE 0 rfl rfl rfl) rfl rfl hl.1 rfl (lv_room (Nat.le_of_ble_eq_true rfl)) dX10_safe_11 ⟨Nat.zero_le _, Nat.zero_le _⟩) hD hS hA (fun H locs hP hD hS => ?_)
    refine lv_goto (tgt := 19) hx hb dX10_safe_14 (by decide) ?_
    exact Kj19_5 r6 S7 _ _ hP hD hS ls (lv_sub hl [] rfl) hf
def rmX10_lostNow : Room := { frames := 4, cells := 0, slots := 0, locals := 93 }
set_option maxHeartbeats 4000000 in
set_option maxRecDepth 100000 in
theorem zc_X10_lostNow (l : Launch) (D : va_G) (tb : Nat → Nat) (q : Nat → Nat) (k : Nat → ClassId) (F : Nat)  (S : zz_M) (r : Int32) (o1 : zz_M) (hf : pX10_lostNow F S = some (r, o1)) : zz_Mi l yX10_lostNow wsX10_lostNow rmX10_lostNow D tb [((k 1), .int), ((k 2), .int), ((k 3), .int), ((k 4), .int), ((k 5), .int), ((k 6), .int), ((k 7), .int), ((k 8), .boolean), ((k 9), .int), ((k 10), .int), ((k 11), .int), ((k 12), .int), ((k 13), .int), ((k 14), .int), ((k 15), .int), ((k 16), .boolean), ((k 17), .int), ((k 18), .int), ((k 19), .int), ((k 20), .int)] [.ref (q 0)] (zw_10 q k S) (zw_10 q k o1) r := by
  refine zz_ofi (cc := cX10_lostNow) (maxL := 3) (by decide) rfl (Nat.le_of_ble_eq_true rfl) ?_
  intro p e s m args below meth c A Q hfx hK hA hE hret H locs hP hD hS ls hl
  obtain ⟨hx, hb, hml, hown, hts⟩ := id hfx
  have inX10 : ∀ w ∈ u_ws RX10 TX10 34, w ∈ wsX10_lostNow := by decide +kernel
  have lk111 := hts (.fieldLink RX10 111 "CatBeatModel" "thieves" "I") (by decide +kernel)
  have hl : lv_has ls 3 [(0, .ref (q 0))] := hl
  unfold pX10_lostNow at hf
  refine lv_aload_n hx hb dX10_lostNow_0 rfl (lv_at hl 0 rfl) ?_
  obtain ⟨S1, hc2, hf⟩ := zz_b1s hf
  refine zz_jv0 (va_runV (As := []) (rest := []) hfx (zc_X10_walks l D tb q k F  S S1 hc2 H.size) (cwV 0 hts gX10_lostNow_X10_walks rfl rfl rfl (by decide +kernel) ⟨Nat.le_of_ble_eq_true rfl, Nat.le_of_ble_eq_true rfl⟩) (zz_pre0V hK hP hD hS hA hE 0 rfl rfl rfl) rfl rfl hl.1 rfl (lv_room (Nat.le_of_ble_eq_true rfl)) dX10_lostNow_1 ⟨Nat.zero_le _, Nat.zero_le _⟩) hD hS hA (fun H locs hP hD hS => ?_)
  refine lv_iconst (v := (0 : Int32)) hx hb dX10_lostNow_4 (by decide) ?_
  refine lv_istore_n (lv' := [(1, .int (0 : Int32)), (0, .ref (q 0))]) hx hb dX10_lostNow_5 rfl hl (by decide) rfl (fun ls hl => ?_)
  refine lv_iconst (v := (0 : Int32)) hx hb dX10_lostNow_6 (by decide) ?_
  refine lv_istore_n (lv' := [(2, .int (0 : Int32)), (1, .int (0 : Int32)), (0, .ref (q 0))]) hx hb dX10_lostNow_7 rfl hl (by decide) rfl (fun ls hl => ?_)
  have hLkL8_4 : ∀ (n8_4 : Nat) (x3 : Int32) (x4 : Int32) (H : Heap) (locs : List Loc), va_P D vwCl (zw_10 q k S1) H → va_D A (zw_10 q k S1) → va_S A s.heap H locs → ∀ ls : Array Slot, lv_has ls 3 [(0, .ref (q 0)), (1, .int x3), (2, .int x4)] → pX10_lostNow_L8_4 F S1 n8_4 x3 x4 = some (r, o1) → W p l e rmX10_lostNow s m args below meth c H locs 0 0 Q (F0 m 8 ls []) := by
    intro n8_4
    induction n8_4 with
    | zero =>
      intro x3 x4 H locs hP hD hS ls hl hf
      exact nomatch (show (none : Option _) = some _ from hf)
    | succ n8_4 ihkL8_4 =>
      intro x3 x4 H locs hP hD hS ls hl hf
      rw [pX10_lostNow_L8_4] at hf
      refine lv_iload_n hx hb dX10_lostNow_8 rfl (lv_at hl 2 rfl) ?_
      refine lv_aload_n hx hb dX10_lostNow_9 rfl (lv_at hl 0 rfl) ?_
      refine va_get (D := D) (ci := 10) (v := .int (zz_gI S1 4)) (C := RX10) (T := TX10) (N := 34) hx hb hts inX10 hown hK hP 0 rfl rfl 8 (by decide) lk111 (fun _ h9 => h9) rfl dX10_lostNow_10 ?_
      refine lv_icmp_ge (tgt := 39) hx hb dX10_lostNow_13 (by decide) (fun c13 => ?_) (fun c13 => ?_)
      · have hf := zz_ps hf c13
        refine lv_iload_n hx hb dX10_lostNow_39 rfl (lv_at hl 1 rfl) ?_
        obtain ⟨rfl, rfl⟩ := zz_e2 hf
        exact hret _ _ _ _ dX10_lostNow_40 hP hD hS
      · have hf := zz_ng hf c13
        refine lv_iload_n hx hb dX10_lostNow_16 rfl (lv_at hl 1 rfl) ?_
        refine lv_aload_n hx hb dX10_lostNow_17 rfl (lv_at hl 0 rfl) ?_
        refine lv_iload_n hx hb dX10_lostNow_18 rfl (lv_at hl 2 rfl) ?_
        obtain ⟨r6, hc7, hf⟩ := zz_b1s hf
        refine zz_ji0 (va_runV (As := [.int x4]) (rest := [.int x3]) hfx (zc_X10_takesNow l D tb q k F x4 S1 r6 hc7 H.size) (cwV 1 hts gX10_lostNow_X10_takesNow rfl rfl rfl (by decide +kernel) ⟨Nat.le_of_ble_eq_true rfl, Nat.le_of_ble_eq_true rfl⟩) (zz_pre0V hK hP hD hS hA hE 0 rfl rfl rfl) rfl rfl hl.1 rfl (lv_room (Nat.le_of_ble_eq_true rfl)) dX10_lostNow_19 ⟨Nat.zero_le _, Nat.zero_le _⟩) hD hS hA (fun H locs hP hD hS => ?_)
        refine lv_iconst (v := (-1 : Int32)) hx hb dX10_lostNow_22 (by decide) ?_
        obtain ⟨v8, hv8, hf⟩ := zz_lts hf
        have hK9 : ∀ ls : Array Slot, lv_has ls 3 [(0, .ref (q 0)), (2, .int x4)] → W p l e rmX10_lostNow s m args below meth c H locs 0 0 Q (F0 m 31 ls [.int v8, .int x3]) := by
          intro ls hl
          refine lv_iadd hx hb dX10_lostNow_31 ?_
          obtain ⟨v10, hv10, hf⟩ := zz_lts hf
          refine zz_ti hv10 ?_
          refine lv_istore_n (lv' := [(1, .int v10), (0, .ref (q 0)), (2, .int x4)]) hx hb dX10_lostNow_32 rfl hl (by decide) rfl (fun ls hl => ?_)
          obtain ⟨v11, hv11, hf⟩ := zz_lts hf
          refine lv_iinc (v := v11) (lv' := [(2, .int v11), (1, .int v10), (0, .ref (q 0))]) hx hb dX10_lostNow_33 hl (k := 2) rfl (by rw [hv11]; rfl) (by decide) rfl (fun ls hl => ?_)
          refine lv_goto (tgt := 8) hx hb dX10_lostNow_36 (by decide) ?_
          exact ihkL8_4 v10 v11 _ _ hP hD hS ls (lv_sub hl [2, 1, 0] rfl) hf
        refine lv_icmp_eq (tgt := 30) hx hb dX10_lostNow_23 (by decide) (fun c23 => ?_) (fun c23 => ?_)
        · refine lv_iconst (v := (0 : Int32)) hx hb dX10_lostNow_30 (by decide) ?_
          refine zz_ti (show v8 = (0 : Int32) by rw [hv8, if_pos c23]) ?_
          exact hK9 ls (lv_sub hl [0, 2] rfl)
        · refine lv_iconst (v := (1 : Int32)) hx hb dX10_lostNow_26 (by decide) ?_
          refine lv_goto (tgt := 31) hx hb dX10_lostNow_27 (by decide) ?_
          refine zz_ti (show v8 = (1 : Int32) by rw [hv8, if_neg c23]) ?_
          exact hK9 ls (lv_sub hl [0, 2] rfl)
  exact hLkL8_4 F (0 : Int32) (0 : Int32) _ _ hP hD hS ls (lv_sub hl [2, 1, 0] rfl) hf
def rmX10_lostTold : Room := { frames := 6, cells := 0, slots := 0, locals := 136 }
set_option maxHeartbeats 4000000 in
set_option maxRecDepth 100000 in
theorem zc_X10_lostTold (l : Launch) (D : va_G) (tb : Nat → Nat) (q : Nat → Nat) (k : Nat → ClassId) (F : Nat)  (S : zz_M) (r : Int32) (o1 : zz_M) (hf : pX10_lostTold F S = some (r, o1)) : zz_Mi l yX10_lostTold wsX10_lostTold rmX10_lostTold D tb [((k 1), .int), ((k 2), .int), ((k 3), .int), ((k 4), .int), ((k 5), .int), ((k 6), .int), ((k 7), .int), ((k 8), .boolean), ((k 9), .int), ((k 10), .int), ((k 11), .int), ((k 12), .int), ((k 13), .int), ((k 14), .int), ((k 15), .int), ((k 16), .boolean), ((k 17), .int), ((k 18), .int), ((k 19), .int), ((k 20), .int)] [.ref (q 0)] (zw_10 q k S) (zw_10 q k o1) r := by
  refine zz_ofi (cc := cX10_lostTold) (maxL := 1) (by decide) rfl (Nat.le_of_ble_eq_true rfl) ?_
  intro p e s m args below meth c A Q hfx hK hA hE hret H locs hP hD hS ls hl
  obtain ⟨hx, hb, hml, hown, hts⟩ := id hfx
  have hl : lv_has ls 1 [(0, .ref (q 0))] := hl
  unfold pX10_lostTold at hf
  refine lv_aload_n hx hb dX10_lostTold_0 rfl (lv_at hl 0 rfl) ?_
  obtain ⟨S1, hc2, hf⟩ := zz_b1s hf
  refine zz_jv0 (va_runV (As := []) (rest := []) hfx (zc_X10_asTold l D tb q k F  S S1 hc2 H.size) (cwV 0 hts gX10_lostTold_X10_asTold rfl rfl rfl (by decide +kernel) ⟨Nat.le_of_ble_eq_true rfl, Nat.le_of_ble_eq_true rfl⟩) (zz_pre0V hK hP hD hS hA hE 0 rfl rfl rfl) rfl rfl hl.1 rfl (lv_room (Nat.le_of_ble_eq_true rfl)) dX10_lostTold_1 ⟨Nat.zero_le _, Nat.zero_le _⟩) hD hS hA (fun H locs hP hD hS => ?_)
  refine lv_aload_n hx hb dX10_lostTold_4 rfl (lv_at hl 0 rfl) ?_
  obtain ⟨r3, S4, hc5, hf⟩ := zz_b2s hf
  refine zz_ji0 (va_runV (As := []) (rest := []) hfx (zc_X10_lostNow l D tb q k F  S1 r3 S4 hc5 H.size) (cwV 0 hts gX10_lostTold_X10_lostNow rfl rfl rfl (by decide +kernel) ⟨Nat.le_of_ble_eq_true rfl, Nat.le_of_ble_eq_true rfl⟩) (zz_pre0V hK hP hD hS hA hE 0 rfl rfl rfl) rfl rfl hl.1 rfl (lv_room (Nat.le_of_ble_eq_true rfl)) dX10_lostTold_5 ⟨Nat.zero_le _, Nat.zero_le _⟩) hD hS hA (fun H locs hP hD hS => ?_)
  obtain ⟨rfl, rfl⟩ := zz_e2 hf
  exact hret _ _ _ _ dX10_lostTold_8 hP hD hS
def rmX10_lost : Room := { frames := 7, cells := 0, slots := 0, locals := 156 }
set_option maxHeartbeats 4000000 in
set_option maxRecDepth 100000 in
theorem zc_X10_lost (l : Launch) (D : va_G) (tb : Nat → Nat) (q : Nat → Nat) (k : Nat → ClassId) (F : Nat)  (S : zz_M) (r : Int32) (o1 : zz_M) (hf : pX10_lost F S = some (r, o1)) : zz_Mi l yX10_lost wsX10_lost rmX10_lost D tb [((k 1), .int), ((k 2), .int), ((k 3), .int), ((k 4), .int), ((k 5), .int), ((k 6), .int), ((k 7), .int), ((k 8), .boolean), ((k 9), .int), ((k 10), .int), ((k 11), .int), ((k 12), .int), ((k 13), .int), ((k 14), .int), ((k 15), .int), ((k 16), .boolean), ((k 17), .int), ((k 18), .int), ((k 19), .int), ((k 20), .int)] [.ref (q 0)] (zw_10 q k S) (zw_10 q k o1) r := by
  refine zz_ofi (cc := cX10_lost) (maxL := 1) (by decide) rfl (Nat.le_of_ble_eq_true rfl) ?_
  intro p e s m args below meth c A Q hfx hK hA hE hret H locs hP hD hS ls hl
  obtain ⟨hx, hb, hml, hown, hts⟩ := id hfx
  have hl : lv_has ls 1 [(0, .ref (q 0))] := hl
  unfold pX10_lost at hf
  refine lv_aload_n hx hb dX10_lost_0 rfl (lv_at hl 0 rfl) ?_
  obtain ⟨r1, S2, hc3, hf⟩ := zz_b2s hf
  refine zz_ji0 (va_runV (As := []) (rest := []) hfx (zc_X10_lostTold l D tb q k F  S r1 S2 hc3 H.size) (cwV 0 hts gX10_lost_X10_lostTold rfl rfl rfl (by decide +kernel) ⟨Nat.le_of_ble_eq_true rfl, Nat.le_of_ble_eq_true rfl⟩) (zz_pre0V hK hP hD hS hA hE 0 rfl rfl rfl) rfl rfl hl.1 rfl (lv_room (Nat.le_of_ble_eq_true rfl)) dX10_lost_1 ⟨Nat.zero_le _, Nat.zero_le _⟩) hD hS hA (fun H locs hP hD hS => ?_)
  obtain ⟨rfl, rfl⟩ := zz_e2 hf
  exact hret _ _ _ _ dX10_lost_4 hP hD hS
def rmX10_firstNow : Room := { frames := 7, cells := 0, slots := 0, locals := 156 }
set_option maxHeartbeats 4000000 in
set_option maxRecDepth 100000 in
theorem zc_X10_firstNow (l : Launch) (D : va_G) (tb : Nat → Nat) (q : Nat → Nat) (k : Nat → ClassId) (F : Nat)  (S : zz_M) (r : Int32) (o1 : zz_M) (hf : pX10_firstNow F S = some (r, o1)) : zz_Mi l yX10_firstNow wsX10_firstNow rmX10_firstNow D tb [((k 1), .int), ((k 2), .int), ((k 3), .int), ((k 4), .int), ((k 5), .int), ((k 6), .int), ((k 7), .int), ((k 8), .boolean), ((k 9), .int), ((k 10), .int), ((k 11), .int), ((k 12), .int), ((k 13), .int), ((k 14), .int), ((k 15), .int), ((k 16), .boolean), ((k 17), .int), ((k 18), .int), ((k 19), .int), ((k 20), .int)] [.ref (q 0)] (zw_10 q k S) (zw_10 q k o1) r := by
  refine zz_ofi (cc := cX10_firstNow) (maxL := 4) (by decide) rfl (Nat.le_of_ble_eq_true rfl) ?_
  intro p e s m args below meth c A Q hfx hK hA hE hret H locs hP hD hS ls hl
  obtain ⟨hx, hb, hml, hown, hts⟩ := id hfx
  have inX10 : ∀ w ∈ u_ws RX10 TX10 34, w ∈ wsX10_firstNow := by decide +kernel
  have lk111 := hts (.fieldLink RX10 111 "CatBeatModel" "thieves" "I") (by decide +kernel)
  have hl : lv_has ls 4 [(0, .ref (q 0))] := hl
  unfold pX10_firstNow at hf
  refine lv_aload_n hx hb dX10_firstNow_0 rfl (lv_at hl 0 rfl) ?_
  obtain ⟨S1, hc2, hf⟩ := zz_b1s hf
  refine zz_jv0 (va_runV (As := []) (rest := []) hfx (zc_X10_walksTold l D tb q k F  S S1 hc2 H.size) (cwV 0 hts gX10_firstNow_X10_walksTold rfl rfl rfl (by decide +kernel) ⟨Nat.le_of_ble_eq_true rfl, Nat.le_of_ble_eq_true rfl⟩) (zz_pre0V hK hP hD hS hA hE 0 rfl rfl rfl) rfl rfl hl.1 rfl (lv_room (Nat.le_of_ble_eq_true rfl)) dX10_firstNow_1 ⟨Nat.zero_le _, Nat.zero_le _⟩) hD hS hA (fun H locs hP hD hS => ?_)
  refine lv_iconst (v := (-1 : Int32)) hx hb dX10_firstNow_4 (by decide) ?_
  refine lv_istore_n (lv' := [(1, .int (-1 : Int32)), (0, .ref (q 0))]) hx hb dX10_firstNow_5 rfl hl (by decide) rfl (fun ls hl => ?_)
  refine lv_iconst (v := (0 : Int32)) hx hb dX10_firstNow_6 (by decide) ?_
  refine lv_istore_n (lv' := [(2, .int (0 : Int32)), (1, .int (-1 : Int32)), (0, .ref (q 0))]) hx hb dX10_firstNow_7 rfl hl (by decide) rfl (fun ls hl => ?_)
  have hLkL8_4 : ∀ (n8_4 : Nat) (x3 : Int32) (x4 : Int32) (H : Heap) (locs : List Loc), va_P D vwCl (zw_10 q k S1) H → va_D A (zw_10 q k S1) → va_S A s.heap H locs → ∀ ls : Array Slot, lv_has ls 4 [(0, .ref (q 0)), (1, .int x3), (2, .int x4)] → pX10_firstNow_L8_4 F S1 n8_4 x3 x4 = some (r, o1) → W p l e rmX10_firstNow s m args below meth c H locs 0 0 Q (F0 m 8 ls []) := by
    intro n8_4
    induction n8_4 with
    | zero =>
      intro x3 x4 H locs hP hD hS ls hl hf
      exact nomatch (show (none : Option _) = some _ from hf)
    | succ n8_4 ihkL8_4 =>
      intro x3 x4 H locs hP hD hS ls hl hf
      rw [pX10_firstNow_L8_4] at hf
      refine lv_iload_n hx hb dX10_firstNow_8 rfl (lv_at hl 2 rfl) ?_
      refine lv_aload_n hx hb dX10_firstNow_9 rfl (lv_at hl 0 rfl) ?_
      refine va_get (D := D) (ci := 10) (v := .int (zz_gI S1 4)) (C := RX10) (T := TX10) (N := 34) hx hb hts inX10 hown hK hP 0 rfl rfl 8 (by decide) lk111 (fun _ h9 => h9) rfl dX10_firstNow_10 ?_
      refine lv_icmp_ge (tgt := 53) hx hb dX10_firstNow_13 (by decide) (fun c13 => ?_) (fun c13 => ?_)
      · have hf := zz_ps hf c13
        refine lv_iload_n hx hb dX10_firstNow_53 rfl (lv_at hl 1 rfl) ?_
        obtain ⟨rfl, rfl⟩ := zz_e2 hf
        exact hret _ _ _ _ dX10_firstNow_54 hP hD hS
      · have hf := zz_ng hf c13
        refine lv_aload_n hx hb dX10_firstNow_16 rfl (lv_at hl 0 rfl) ?_
        refine lv_iload_n hx hb dX10_firstNow_17 rfl (lv_at hl 2 rfl) ?_
        obtain ⟨r6, hc7, hf⟩ := zz_b1s hf
        refine zz_ji0 (va_runV (As := [.int x4]) (rest := []) hfx (zc_X10_takesNow l D tb q k F x4 S1 r6 hc7 H.size) (cwV 1 hts gX10_firstNow_X10_takesNow rfl rfl rfl (by decide +kernel) ⟨Nat.le_of_ble_eq_true rfl, Nat.le_of_ble_eq_true rfl⟩) (zz_pre0V hK hP hD hS hA hE 0 rfl rfl rfl) rfl rfl hl.1 rfl (lv_room (Nat.le_of_ble_eq_true rfl)) dX10_firstNow_18 ⟨Nat.zero_le _, Nat.zero_le _⟩) hD hS hA (fun H locs hP hD hS => ?_)
        refine lv_istore_n (lv' := [(3, .int r6), (0, .ref (q 0)), (1, .int x3), (2, .int x4)]) hx hb dX10_firstNow_21 rfl hl (by decide) rfl (fun ls hl => ?_)
        refine lv_iload_n hx hb dX10_firstNow_22 rfl (lv_at hl 0 rfl) ?_
        refine lv_iconst (v := (-1 : Int32)) hx hb dX10_firstNow_23 (by decide) ?_
        obtain ⟨j46_9, hj46_9, hf⟩ := zz_lts hf
        have Kj46_9 : ∀ (y8 : Int32) (H : Heap) (locs : List Loc), va_P D vwCl (zw_10 q k S1) H → va_D A (zw_10 q k S1) → va_S A s.heap H locs → ∀ ls : Array Slot, lv_has ls 4 [(0, .ref (q 0)), (2, .int x4)] → j46_9 y8 = some (r, o1) → W p l e rmX10_firstNow s m args below meth c H locs 0 0 Q (F0 m 46 ls [.int y8]) := by
          intro y8 H locs hP hD hS ls hl hf
          rw [hj46_9] at hf
          refine lv_istore_n (lv' := [(1, .int y8), (0, .ref (q 0)), (2, .int x4)]) hx hb dX10_firstNow_46 rfl hl (by decide) rfl (fun ls hl => ?_)
          obtain ⟨v10, hv10, hf⟩ := zz_lts hf
          refine lv_iinc (v := v10) (lv' := [(2, .int v10), (1, .int y8), (0, .ref (q 0))]) hx hb dX10_firstNow_47 hl (k := 2) rfl (by rw [hv10]; rfl) (by decide) rfl (fun ls hl => ?_)
          refine lv_goto (tgt := 8) hx hb dX10_firstNow_50 (by decide) ?_
          exact ihkL8_4 y8 v10 _ _ hP hD hS ls (lv_sub hl [2, 1, 0] rfl) hf
        obtain ⟨j45_11, hj45_11, hf⟩ := zz_lts hf
        have Kj45_11 : ∀  (H : Heap) (locs : List Loc), va_P D vwCl (zw_10 q k S1) H → va_D A (zw_10 q k S1) → va_S A s.heap H locs → ∀ ls : Array Slot, lv_has ls 4 [(0, .ref (q 0)), (1, .int x3), (2, .int x4)] → j45_11 () = some (r, o1) → W p l e rmX10_firstNow s m args below meth c H locs 0 0 Q (F0 m 45 ls []) := by
          intro  H locs hP hD hS ls hl hf
          rw [hj45_11] at hf
          refine lv_iload_n hx hb dX10_firstNow_45 rfl (lv_at hl 1 rfl) ?_
          exact Kj46_9 x3 _ _ hP hD hS ls (lv_sub hl [0, 2] rfl) hf
        refine lv_icmp_eq (tgt := 45) hx hb dX10_firstNow_24 (by decide) (fun c24 => ?_) (fun c24 => ?_)
        · have hf := zz_ps hf c24
          exact Kj45_11  _ _ hP hD hS ls (lv_sub hl [1, 2, 3] rfl) hf
        · have hf := zz_ng hf c24
          refine lv_iload_n hx hb dX10_firstNow_27 rfl (lv_at hl 2 rfl) ?_
          refine lv_iconst (v := (-1 : Int32)) hx hb dX10_firstNow_28 (by decide) ?_
          obtain ⟨j41_12, hj41_12, hf⟩ := zz_lts hf
          have Kj41_12 : ∀  (H : Heap) (locs : List Loc), va_P D vwCl (zw_10 q k S1) H → va_D A (zw_10 q k S1) → va_S A s.heap H locs → ∀ ls : Array Slot, lv_has ls 4 [(0, .ref (q 0)), (2, .int x4)] → j41_12 () = some (r, o1) → W p l e rmX10_firstNow s m args below meth c H locs 0 0 Q (F0 m 41 ls []) := by
            intro  H locs hP hD hS ls hl hf
            rw [hj41_12] at hf
            refine lv_iload_n hx hb dX10_firstNow_41 rfl (lv_at hl 1 rfl) ?_
            refine lv_goto (tgt := 46) hx hb dX10_firstNow_42 (by decide) ?_
            exact Kj46_9 x4 _ _ hP hD hS ls (lv_sub hl [0, 1] rfl) hf
          refine lv_icmp_eq (tgt := 41) hx hb dX10_firstNow_29 (by decide) (fun c29 => ?_) (fun c29 => ?_)
          · have hf := zz_ps hf c29
            exact Kj41_12  _ _ hP hD hS ls (lv_sub hl [1, 3] rfl) hf
          · have hf := zz_ng hf c29
            refine lv_iload_n hx hb dX10_firstNow_32 rfl (lv_at hl 0 rfl) ?_
            refine lv_aload_n hx hb dX10_firstNow_33 rfl (lv_at hl 1 rfl) ?_
            refine lv_iload_n hx hb dX10_firstNow_34 rfl (lv_at hl 2 rfl) ?_
            obtain ⟨r13, hc14, hf⟩ := zz_b1s hf
            refine zz_ji0 (va_runV (As := [.int x3]) (rest := [.int r6]) hfx (zc_X10_takesNow l D tb q k F x3 S1 r13 hc14 H.size) (cwV 1 hts gX10_firstNow_X10_takesNow rfl rfl rfl (by decide +kernel) ⟨Nat.le_of_ble_eq_true rfl, Nat.le_of_ble_eq_true rfl⟩) (zz_pre0V hK hP hD hS hA hE 0 rfl rfl rfl) rfl rfl hl.1 rfl (lv_room (Nat.le_of_ble_eq_true rfl)) dX10_firstNow_35 ⟨Nat.zero_le _, Nat.zero_le _⟩) hD hS hA (fun H locs hP hD hS => ?_)
            refine lv_icmp_ge (tgt := 45) hx hb dX10_firstNow_38 (by decide) (fun c38 => ?_) (fun c38 => ?_)
            · have hf := zz_ps hf c38
              exact Kj45_11  _ _ hP hD hS ls (lv_sub hl [1, 2, 3] rfl) hf
            · have hf := zz_ng hf c38
              exact Kj41_12  _ _ hP hD hS ls (lv_sub hl [1, 3] rfl) hf
  exact hLkL8_4 F (-1 : Int32) (0 : Int32) _ _ hP hD hS ls (lv_sub hl [2, 1, 0] rfl) hf
def rmX10_first : Room := { frames := 8, cells := 0, slots := 0, locals := 179 }
set_option maxHeartbeats 4000000 in
set_option maxRecDepth 100000 in
theorem zc_X10_first (l : Launch) (D : va_G) (tb : Nat → Nat) (q : Nat → Nat) (k : Nat → ClassId) (F : Nat)  (S : zz_M) (r : Int32) (o1 : zz_M) (hf : pX10_first F S = some (r, o1)) : zz_Mi l yX10_first wsX10_first rmX10_first D tb [((k 1), .int), ((k 2), .int), ((k 3), .int), ((k 4), .int), ((k 5), .int), ((k 6), .int), ((k 7), .int), ((k 8), .boolean), ((k 9), .int), ((k 10), .int), ((k 11), .int), ((k 12), .int), ((k 13), .int), ((k 14), .int), ((k 15), .int), ((k 16), .boolean), ((k 17), .int), ((k 18), .int), ((k 19), .int), ((k 20), .int)] [.ref (q 0)] (zw_10 q k S) (zw_10 q k o1) r := by
  refine zz_ofi (cc := cX10_first) (maxL := 1) (by decide) rfl (Nat.le_of_ble_eq_true rfl) ?_
  intro p e s m args below meth c A Q hfx hK hA hE hret H locs hP hD hS ls hl
  obtain ⟨hx, hb, hml, hown, hts⟩ := id hfx
  have hl : lv_has ls 1 [(0, .ref (q 0))] := hl
  unfold pX10_first at hf
  refine lv_aload_n hx hb dX10_first_0 rfl (lv_at hl 0 rfl) ?_
  obtain ⟨r1, S2, hc3, hf⟩ := zz_b2s hf
  refine zz_ji0 (va_runV (As := []) (rest := []) hfx (zc_X10_firstNow l D tb q k F  S r1 S2 hc3 H.size) (cwV 0 hts gX10_first_X10_firstNow rfl rfl rfl (by decide +kernel) ⟨Nat.le_of_ble_eq_true rfl, Nat.le_of_ble_eq_true rfl⟩) (zz_pre0V hK hP hD hS hA hE 0 rfl rfl rfl) rfl rfl hl.1 rfl (lv_room (Nat.le_of_ble_eq_true rfl)) dX10_first_1 ⟨Nat.zero_le _, Nat.zero_le _⟩) hD hS hA (fun H locs hP hD hS => ?_)
  obtain ⟨rfl, rfl⟩ := zz_e2 hf
  exact hret _ _ _ _ dX10_first_4 hP hD hS
def rmX10_without : Room := { frames := 6, cells := 0, slots := 0, locals := 136 }
set_option maxHeartbeats 4000000 in
set_option maxRecDepth 100000 in
theorem zc_X10_without (l : Launch) (D : va_G) (tb : Nat → Nat) (q : Nat → Nat) (k : Nat → ClassId) (F : Nat) (u0 : Int32) (u1 : Int32) (S : zz_M) (o0 : zz_M) (hf : pX10_without F u0 u1 S = some o0) : zz_Mv l yX10_without wsX10_without rmX10_without D tb [((k 1), .int), ((k 2), .int), ((k 3), .int), ((k 4), .int), ((k 5), .int), ((k 6), .int), ((k 7), .int), ((k 8), .boolean), ((k 9), .int), ((k 10), .int), ((k 11), .int), ((k 12), .int), ((k 13), .int), ((k 14), .int), ((k 15), .int), ((k 16), .boolean), ((k 17), .int), ((k 18), .int), ((k 19), .int), ((k 20), .int)] [.ref (q 0), .int u0, .int u1] (zw_10 q k S) (zw_10 q k o0)  := by
  refine zz_ofv (cc := cX10_without) (maxL := 4) (by decide) rfl (Nat.le_of_ble_eq_true rfl) ?_
  intro p e s m args below meth c A Q hfx hK hA hE hret H locs hP hD hS ls hl
  obtain ⟨hx, hb, hml, hown, hts⟩ := id hfx
  have inX10 : ∀ w ∈ u_ws RX10 TX10 34, w ∈ wsX10_without := by decide +kernel
  have lk168 := hts (.fieldLink RX10 168 "CatBeatModel" "round" "I") (by decide +kernel)
  have lk101 := hts (.fieldLink RX10 101 "CatBeatModel" "steps" "I") (by decide +kernel)
  have lk28 := hts (.fieldLink RX10 28 "CatBeatModel" "beatNow" "[I") (by decide +kernel)
  have lk19 := hts (.fieldLink RX10 19 "CatBeatModel" "beatTold" "[I") (by decide +kernel)
  have hl : lv_has ls 4 [(0, .ref (q 0)), (1, .int u0), (2, .int u1)] := hl
  unfold pX10_without at hf
  refine lv_aload_n hx hb dX10_without_0 rfl (lv_at hl 0 rfl) ?_
  obtain ⟨S1, hc2, hf⟩ := zz_b1s hf
  refine zz_jv0 (va_runV (As := []) (rest := []) hfx (zc_X10_asTold l D tb q k F  S S1 hc2 H.size) (cwV 0 hts gX10_without_X10_asTold rfl rfl rfl (by decide +kernel) ⟨Nat.le_of_ble_eq_true rfl, Nat.le_of_ble_eq_true rfl⟩) (zz_pre0V hK hP hD hS hA hE 0 rfl rfl rfl) rfl rfl hl.1 rfl (lv_room (Nat.le_of_ble_eq_true rfl)) dX10_without_1 ⟨Nat.zero_le _, Nat.zero_le _⟩) hD hS hA (fun H locs hP hD hS => ?_)
  refine lv_aload_n hx hb dX10_without_4 rfl (lv_at hl 0 rfl) ?_
  refine lv_iconst (v := (0 : Int32)) hx hb dX10_without_5 (by decide) ?_
  obtain ⟨S3, hS3, hf⟩ := zz_lts hf
  refine va_put (D := D) (ci := 10) (v := .int (0 : Int32)) (ty := .int) (C := RX10) (T := TX10) (N := 34) hx hb hts inX10 tyX10 tyX10_ok nmX10 hown hK hP hD hS 0 rfl rfl 15 (by decide) lk168 (fun _ h9 => h9) rfl (by decide +kernel) rfl rfl (Nat.le_of_ble_eq_true rfl) dX10_without_6 (fun H locs hP hD hS => ?_)
  have hP : va_P D vwCl (zw_10 q k S3) H := by rw [hS3]; exact hP
  have hD : va_D A (zw_10 q k S3) := by rw [hS3]; exact hD
  refine lv_iconst (v := (0 : Int32)) hx hb dX10_without_9 (by decide) ?_
  refine lv_istore_n (lv' := [(3, .int (0 : Int32)), (0, .ref (q 0)), (1, .int u0), (2, .int u1)]) hx hb dX10_without_10 rfl hl (by decide) rfl (fun ls hl => ?_)
  have hLkL11_5 : ∀ (n11_5 : Nat) (x4 : Int32) (z5 : zz_M) (H : Heap) (locs : List Loc), va_P D vwCl (zw_10 q k z5) H → va_D A (zw_10 q k z5) → va_S A s.heap H locs → ∀ ls : Array Slot, lv_has ls 4 [(0, .ref (q 0)), (1, .int u0), (2, .int u1), (3, .int x4)] → pX10_without_L11_5 u0 u1 n11_5 x4 z5 = some o0 → W p l e rmX10_without s m args below meth c H locs 0 0 Q (F0 m 11 ls []) := by
    intro n11_5
    induction n11_5 with
    | zero =>
      intro x4 z5 H locs hP hD hS ls hl hf
      exact nomatch (show (none : Option _) = some _ from hf)
    | succ n11_5 ihkL11_5 =>
      intro x4 z5 H locs hP hD hS ls hl hf
      rw [pX10_without_L11_5] at hf
      refine lv_iload_n hx hb dX10_without_11 rfl (lv_at hl 3 rfl) ?_
      refine lv_aload_n hx hb dX10_without_12 rfl (lv_at hl 0 rfl) ?_
      refine va_get (D := D) (ci := 10) (v := .int (zz_gI z5 3)) (C := RX10) (T := TX10) (N := 34) hx hb hts inX10 hown hK hP 0 rfl rfl 6 (by decide) lk101 (fun _ h9 => h9) rfl dX10_without_13 ?_
      refine lv_icmp_ge (tgt := 60) hx hb dX10_without_16 (by decide) (fun c16 => ?_) (fun c16 => ?_)
      · have hf := zz_ps hf c16
        obtain rfl := zz_e1 hf
        exact hret _ _ _ _ dX10_without_60 hP hD hS
      · have hf := zz_ng hf c16
        refine lv_iload_n hx hb dX10_without_19 rfl (lv_at hl 3 rfl) ?_
        refine lv_iload_n hx hb dX10_without_20 rfl (lv_at hl 1 rfl) ?_
        obtain ⟨j54_8, hj54_8, hf⟩ := zz_lts hf
        have Kj54_8 : ∀ (z7 : zz_M) (H : Heap) (locs : List Loc), va_P D vwCl (zw_10 q k z7) H → va_D A (zw_10 q k z7) → va_S A s.heap H locs → ∀ ls : Array Slot, lv_has ls 4 [(0, .ref (q 0)), (1, .int u0), (2, .int u1), (3, .int x4)] → j54_8 z7 = some o0 → W p l e rmX10_without s m args below meth c H locs 0 0 Q (F0 m 54 ls []) := by
          intro z7 H locs hP hD hS ls hl hf
          rw [hj54_8] at hf
          obtain ⟨v9, hv9, hf⟩ := zz_lts hf
          refine lv_iinc (v := v9) (lv' := [(3, .int v9), (0, .ref (q 0)), (1, .int u0), (2, .int u1)]) hx hb dX10_without_54 hl (k := 3) rfl (by rw [hv9]; rfl) (by decide) rfl (fun ls hl => ?_)
          refine lv_goto (tgt := 11) hx hb dX10_without_57 (by decide) ?_
          exact ihkL11_5 v9 z7 _ _ hP hD hS ls (lv_sub hl [1, 2, 3, 0] rfl) hf
        refine lv_icmp_eq (tgt := 54) hx hb dX10_without_21 (by decide) (fun c21 => ?_) (fun c21 => ?_)
        · have hf := zz_ps hf c21
          exact Kj54_8 z5 _ _ hP hD hS ls (lv_sub hl [0, 1, 2, 3] rfl) hf
        · have hf := zz_ng hf c21
          refine lv_iload_n hx hb dX10_without_24 rfl (lv_at hl 3 rfl) ?_
          refine lv_iload_n hx hb dX10_without_25 rfl (lv_at hl 2 rfl) ?_
          refine lv_icmp_eq (tgt := 54) hx hb dX10_without_26 (by decide) (fun c26 => ?_) (fun c26 => ?_)
          · have hf := zz_ps hf c26
            exact Kj54_8 z5 _ _ hP hD hS ls (lv_sub hl [0, 1, 2, 3] rfl) hf
          · have hf := zz_ng hf c26
            refine lv_aload_n hx hb dX10_without_29 rfl (lv_at hl 0 rfl) ?_
            refine va_get (D := D) (ci := 10) (v := .ref (q 7)) (C := RX10) (T := TX10) (N := 34) hx hb hts inX10 hown hK hP 0 rfl rfl 16 (by decide) lk28 (fun _ h9 => h9) rfl dX10_without_30 ?_
            refine lv_aload_n hx hb dX10_without_33 rfl (lv_at hl 0 rfl) ?_
            refine va_get (D := D) (ci := 10) (v := .int (zz_gI z5 9)) (C := RX10) (T := TX10) (N := 34) hx hb hts inX10 hown hK hP 0 rfl rfl 15 (by decide) lk168 (fun _ h9 => h9) rfl dX10_without_34 ?_
            refine lv_aload_n hx hb dX10_without_37 rfl (lv_at hl 0 rfl) ?_
            refine va_get (D := D) (ci := 10) (v := .ref (q 4)) (C := RX10) (T := TX10) (N := 34) hx hb hts inX10 hown hK hP 0 rfl rfl 7 (by decide) lk19 (fun _ h9 => h9) rfl dX10_without_38 ?_
            refine lv_iload_n hx hb dX10_without_41 rfl (lv_at hl 3 rfl) ?_
            obtain ⟨hg10, hf⟩ := zz_gd hf
            refine va_iald hx hb hK hP 4 3 rfl rfl hg10 dX10_without_42 ?_
            obtain ⟨hg11, hf⟩ := zz_gd hf
            obtain ⟨S12, hS12, hf⟩ := zz_lts hf
            refine va_iast hx hb hK hP hD hS 7 6 rfl rfl hg11 dX10_without_43 (fun H locs hP hD hS => ?_)
            have hP : va_P D vwCl (zw_10 q k S12) H := by rw [hS12]; exact hP
            have hD : va_D A (zw_10 q k S12) := by rw [hS12]; exact hD
            refine lv_aload_n hx hb dX10_without_44 rfl (lv_at hl 0 rfl) ?_
            refine lv_dup hx hb dX10_without_45 rfl ?_
            refine va_get (D := D) (ci := 10) (v := .int (zz_gI S12 9)) (C := RX10) (T := TX10) (N := 34) hx hb hts inX10 hown hK hP 0 rfl rfl 15 (by decide) lk168 (fun _ h9 => h9) rfl dX10_without_46 ?_
            refine lv_iconst (v := (1 : Int32)) hx hb dX10_without_49 (by decide) ?_
            refine lv_iadd hx hb dX10_without_50 ?_
            obtain ⟨S13, hS13, hf⟩ := zz_lts hf
            refine va_put (D := D) (ci := 10) (v := .int ((zz_gI S12 9) + (1 : Int32))) (ty := .int) (C := RX10) (T := TX10) (N := 34) hx hb hts inX10 tyX10 tyX10_ok nmX10 hown hK hP hD hS 0 rfl rfl 15 (by decide) lk168 (fun _ h9 => h9) rfl (by decide +kernel) rfl rfl (Nat.le_of_ble_eq_true rfl) dX10_without_51 (fun H locs hP hD hS => ?_)
            have hP : va_P D vwCl (zw_10 q k S13) H := by rw [hS13]; exact hP
            have hD : va_D A (zw_10 q k S13) := by rw [hS13]; exact hD
            exact Kj54_8 S13 _ _ hP hD hS ls (lv_sub hl [0, 1, 2, 3] rfl) hf
  exact hLkL11_5 F (0 : Int32) S3 _ _ hP hD hS ls (lv_sub hl [1, 2, 3, 0] rfl) hf
def rmX10_lostWithout : Room := { frames := 7, cells := 0, slots := 0, locals := 159 }
set_option maxHeartbeats 4000000 in
set_option maxRecDepth 100000 in
theorem zc_X10_lostWithout (l : Launch) (D : va_G) (tb : Nat → Nat) (q : Nat → Nat) (k : Nat → ClassId) (F : Nat) (u0 : Int32) (u1 : Int32) (S : zz_M) (r : Int32) (o1 : zz_M) (hf : pX10_lostWithout F u0 u1 S = some (r, o1)) : zz_Mi l yX10_lostWithout wsX10_lostWithout rmX10_lostWithout D tb [((k 1), .int), ((k 2), .int), ((k 3), .int), ((k 4), .int), ((k 5), .int), ((k 6), .int), ((k 7), .int), ((k 8), .boolean), ((k 9), .int), ((k 10), .int), ((k 11), .int), ((k 12), .int), ((k 13), .int), ((k 14), .int), ((k 15), .int), ((k 16), .boolean), ((k 17), .int), ((k 18), .int), ((k 19), .int), ((k 20), .int)] [.ref (q 0), .int u0, .int u1] (zw_10 q k S) (zw_10 q k o1) r := by
  refine zz_ofi (cc := cX10_lostWithout) (maxL := 3) (by decide) rfl (Nat.le_of_ble_eq_true rfl) ?_
  intro p e s m args below meth c A Q hfx hK hA hE hret H locs hP hD hS ls hl
  obtain ⟨hx, hb, hml, hown, hts⟩ := id hfx
  have hl : lv_has ls 3 [(0, .ref (q 0)), (1, .int u0), (2, .int u1)] := hl
  unfold pX10_lostWithout at hf
  refine lv_aload_n hx hb dX10_lostWithout_0 rfl (lv_at hl 0 rfl) ?_
  refine lv_iload_n hx hb dX10_lostWithout_1 rfl (lv_at hl 1 rfl) ?_
  refine lv_iload_n hx hb dX10_lostWithout_2 rfl (lv_at hl 2 rfl) ?_
  obtain ⟨S1, hc2, hf⟩ := zz_b1s hf
  refine zz_jv0 (va_runV (As := [.int u0, .int u1]) (rest := []) hfx (zc_X10_without l D tb q k F u0 u1 S S1 hc2 H.size) (cwV 2 hts gX10_lostWithout_X10_without rfl rfl rfl (by decide +kernel) ⟨Nat.le_of_ble_eq_true rfl, Nat.le_of_ble_eq_true rfl⟩) (zz_pre0V hK hP hD hS hA hE 0 rfl rfl rfl) rfl rfl hl.1 rfl (lv_room (Nat.le_of_ble_eq_true rfl)) dX10_lostWithout_3 ⟨Nat.zero_le _, Nat.zero_le _⟩) hD hS hA (fun H locs hP hD hS => ?_)
  refine lv_aload_n hx hb dX10_lostWithout_6 rfl (lv_at hl 0 rfl) ?_
  obtain ⟨r3, S4, hc5, hf⟩ := zz_b2s hf
  refine zz_ji0 (va_runV (As := []) (rest := []) hfx (zc_X10_lostNow l D tb q k F  S1 r3 S4 hc5 H.size) (cwV 0 hts gX10_lostWithout_X10_lostNow rfl rfl rfl (by decide +kernel) ⟨Nat.le_of_ble_eq_true rfl, Nat.le_of_ble_eq_true rfl⟩) (zz_pre0V hK hP hD hS hA hE 0 rfl rfl rfl) rfl rfl hl.1 rfl (lv_room (Nat.le_of_ble_eq_true rfl)) dX10_lostWithout_7 ⟨Nat.zero_le _, Nat.zero_le _⟩) hD hS hA (fun H locs hP hD hS => ?_)
  obtain ⟨rfl, rfl⟩ := zz_e2 hf
  exact hret _ _ _ _ dX10_lostWithout_10 hP hD hS
def rmX10_spareNow : Room := { frames := 8, cells := 0, slots := 0, locals := 181 }
set_option maxHeartbeats 4000000 in
set_option maxRecDepth 100000 in
theorem zc_X10_spareNow (l : Launch) (D : va_G) (tb : Nat → Nat) (q : Nat → Nat) (k : Nat → ClassId) (F : Nat)  (S : zz_M) (r : Int32) (o1 : zz_M) (hf : pX10_spareNow F S = some (r, o1)) : zz_Mi l yX10_spareNow wsX10_spareNow rmX10_spareNow D tb [((k 1), .int), ((k 2), .int), ((k 3), .int), ((k 4), .int), ((k 5), .int), ((k 6), .int), ((k 7), .int), ((k 8), .boolean), ((k 9), .int), ((k 10), .int), ((k 11), .int), ((k 12), .int), ((k 13), .int), ((k 14), .int), ((k 15), .int), ((k 16), .boolean), ((k 17), .int), ((k 18), .int), ((k 19), .int), ((k 20), .int)] [.ref (q 0)] (zw_10 q k S) (zw_10 q k o1) r := by
  refine zz_ofi (cc := cX10_spareNow) (maxL := 4) (by decide) rfl (Nat.le_of_ble_eq_true rfl) ?_
  intro p e s m args below meth c A Q hfx hK hA hE hret H locs hP hD hS ls hl
  obtain ⟨hx, hb, hml, hown, hts⟩ := id hfx
  have inX10 : ∀ w ∈ u_ws RX10 TX10 34, w ∈ wsX10_spareNow := by decide +kernel
  have lk101 := hts (.fieldLink RX10 101 "CatBeatModel" "steps" "I") (by decide +kernel)
  have hl : lv_has ls 4 [(0, .ref (q 0))] := hl
  unfold pX10_spareNow at hf
  refine lv_aload_n hx hb dX10_spareNow_0 rfl (lv_at hl 0 rfl) ?_
  obtain ⟨r1, S2, hc3, hf⟩ := zz_b2s hf
  refine zz_ji0 (va_runV (As := []) (rest := []) hfx (zc_X10_lostTold l D tb q k F  S r1 S2 hc3 H.size) (cwV 0 hts gX10_spareNow_X10_lostTold rfl rfl rfl (by decide +kernel) ⟨Nat.le_of_ble_eq_true rfl, Nat.le_of_ble_eq_true rfl⟩) (zz_pre0V hK hP hD hS hA hE 0 rfl rfl rfl) rfl rfl hl.1 rfl (lv_room (Nat.le_of_ble_eq_true rfl)) dX10_spareNow_1 ⟨Nat.zero_le _, Nat.zero_le _⟩) hD hS hA (fun H locs hP hD hS => ?_)
  refine lv_istore_n (lv' := [(1, .int r1), (0, .ref (q 0))]) hx hb dX10_spareNow_4 rfl hl (by decide) rfl (fun ls hl => ?_)
  refine lv_iconst (v := (0 : Int32)) hx hb dX10_spareNow_5 (by decide) ?_
  refine lv_istore_n (lv' := [(2, .int (0 : Int32)), (1, .int r1), (0, .ref (q 0))]) hx hb dX10_spareNow_6 rfl hl (by decide) rfl (fun ls hl => ?_)
  refine lv_iconst (v := (0 : Int32)) hx hb dX10_spareNow_7 (by decide) ?_
  refine lv_istore_n (lv' := [(3, .int (0 : Int32)), (2, .int (0 : Int32)), (1, .int r1), (0, .ref (q 0))]) hx hb dX10_spareNow_8 rfl hl (by decide) rfl (fun ls hl => ?_)
  have hLkL9_6 : ∀ (n9_6 : Nat) (x4 : Int32) (x5 : Int32) (z6 : zz_M) (H : Heap) (locs : List Loc), va_P D vwCl (zw_10 q k z6) H → va_D A (zw_10 q k z6) → va_S A s.heap H locs → ∀ ls : Array Slot, lv_has ls 4 [(1, .int r1), (0, .ref (q 0)), (2, .int x4), (3, .int x5)] → pX10_spareNow_L9_6 F r1 n9_6 x4 x5 z6 = some (r, o1) → W p l e rmX10_spareNow s m args below meth c H locs 0 0 Q (F0 m 9 ls []) := by
    intro n9_6
    induction n9_6 with
    | zero =>
      intro x4 x5 z6 H locs hP hD hS ls hl hf
      exact nomatch (show (none : Option _) = some _ from hf)
    | succ n9_6 ihkL9_6 =>
      intro x4 x5 z6 H locs hP hD hS ls hl hf
      rw [pX10_spareNow_L9_6] at hf
      refine lv_iload_n hx hb dX10_spareNow_9 rfl (lv_at hl 3 rfl) ?_
      refine lv_aload_n hx hb dX10_spareNow_10 rfl (lv_at hl 1 rfl) ?_
      refine va_get (D := D) (ci := 10) (v := .int (zz_gI z6 3)) (C := RX10) (T := TX10) (N := 34) hx hb hts inX10 hown hK hP 0 rfl rfl 6 (by decide) lk101 (fun _ h9 => h9) rfl dX10_spareNow_11 ?_
      refine lv_icmp_ge (tgt := 43) hx hb dX10_spareNow_14 (by decide) (fun c14 => ?_) (fun c14 => ?_)
      · have hf := zz_ps hf c14
        refine lv_iload_n hx hb dX10_spareNow_43 rfl (lv_at hl 2 rfl) ?_
        obtain ⟨rfl, rfl⟩ := zz_e2 hf
        exact hret _ _ _ _ dX10_spareNow_44 hP hD hS
      · have hf := zz_ng hf c14
        refine lv_iload_n hx hb dX10_spareNow_17 rfl (lv_at hl 2 rfl) ?_
        refine lv_aload_n hx hb dX10_spareNow_18 rfl (lv_at hl 1 rfl) ?_
        refine lv_iload_n hx hb dX10_spareNow_19 rfl (lv_at hl 3 rfl) ?_
        refine lv_iconst (v := (-1 : Int32)) hx hb dX10_spareNow_20 (by decide) ?_
        obtain ⟨r8, S9, hc10, hf⟩ := zz_b2s hf
        refine zz_ji0 (va_runV (As := [.int x5, .int (-1 : Int32)]) (rest := [.int x4]) hfx (zc_X10_lostWithout l D tb q k F x5 (-1 : Int32) z6 r8 S9 hc10 H.size) (cwV 2 hts gX10_spareNow_X10_lostWithout rfl rfl rfl (by decide +kernel) ⟨Nat.le_of_ble_eq_true rfl, Nat.le_of_ble_eq_true rfl⟩) (zz_pre0V hK hP hD hS hA hE 0 rfl rfl rfl) rfl rfl hl.1 rfl (lv_room (Nat.le_of_ble_eq_true rfl)) dX10_spareNow_21 ⟨Nat.zero_le _, Nat.zero_le _⟩) hD hS hA (fun H locs hP hD hS => ?_)
        refine lv_iload_n hx hb dX10_spareNow_24 rfl (lv_at hl 0 rfl) ?_
        obtain ⟨v11, hv11, hf⟩ := zz_lts hf
        have hK12 : ∀ ls : Array Slot, lv_has ls 4 [(1, .int r1), (0, .ref (q 0)), (3, .int x5)] → W p l e rmX10_spareNow s m args below meth c H locs 0 0 Q (F0 m 35 ls [.int v11, .int x4]) := by
          intro ls hl
          refine lv_ior hx hb dX10_spareNow_35 ?_
          obtain ⟨v13, hv13, hf⟩ := zz_lts hf
          refine zz_ti hv13 ?_
          refine lv_istore_n (lv' := [(2, .int v13), (1, .int r1), (0, .ref (q 0)), (3, .int x5)]) hx hb dX10_spareNow_36 rfl hl (by decide) rfl (fun ls hl => ?_)
          obtain ⟨v14, hv14, hf⟩ := zz_lts hf
          refine lv_iinc (v := v14) (lv' := [(3, .int v14), (2, .int v13), (1, .int r1), (0, .ref (q 0))]) hx hb dX10_spareNow_37 hl (k := 3) rfl (by rw [hv14]; rfl) (by decide) rfl (fun ls hl => ?_)
          refine lv_goto (tgt := 9) hx hb dX10_spareNow_40 (by decide) ?_
          exact ihkL9_6 v13 v14 S9 _ _ hP hD hS ls (lv_sub hl [2, 3, 1, 0] rfl) hf
        refine lv_icmp_gt (tgt := 34) hx hb dX10_spareNow_25 (by decide) (fun c25 => ?_) (fun c25 => ?_)
        · refine lv_iconst (v := (0 : Int32)) hx hb dX10_spareNow_34 (by decide) ?_
          refine zz_ti (show v11 = (0 : Int32) by rw [hv11, if_pos c25]) ?_
          exact hK12 ls (lv_sub hl [0, 1, 3] rfl)
        · refine lv_iconst (v := (1 : Int32)) hx hb dX10_spareNow_28 (by decide) ?_
          refine lv_iload_n hx hb dX10_spareNow_29 rfl (lv_at hl 3 rfl) ?_
          refine lv_ishl hx hb dX10_spareNow_30 ?_
          refine lv_goto (tgt := 35) hx hb dX10_spareNow_31 (by decide) ?_
          refine zz_ti (show v11 = ((1 : Int32) <<< (x5 &&& 31)) by rw [hv11, if_neg c25]) ?_
          exact hK12 ls (lv_sub hl [0, 1, 3] rfl)
  exact hLkL9_6 F (0 : Int32) (0 : Int32) S2 _ _ hP hD hS ls (lv_sub hl [2, 3, 1, 0] rfl) hf
def rmX10_spare : Room := { frames := 9, cells := 0, slots := 0, locals := 204 }
set_option maxHeartbeats 4000000 in
set_option maxRecDepth 100000 in
theorem zc_X10_spare (l : Launch) (D : va_G) (tb : Nat → Nat) (q : Nat → Nat) (k : Nat → ClassId) (F : Nat)  (S : zz_M) (r : Int32) (o1 : zz_M) (hf : pX10_spare F S = some (r, o1)) : zz_Mi l yX10_spare wsX10_spare rmX10_spare D tb [((k 1), .int), ((k 2), .int), ((k 3), .int), ((k 4), .int), ((k 5), .int), ((k 6), .int), ((k 7), .int), ((k 8), .boolean), ((k 9), .int), ((k 10), .int), ((k 11), .int), ((k 12), .int), ((k 13), .int), ((k 14), .int), ((k 15), .int), ((k 16), .boolean), ((k 17), .int), ((k 18), .int), ((k 19), .int), ((k 20), .int)] [.ref (q 0)] (zw_10 q k S) (zw_10 q k o1) r := by
  refine zz_ofi (cc := cX10_spare) (maxL := 1) (by decide) rfl (Nat.le_of_ble_eq_true rfl) ?_
  intro p e s m args below meth c A Q hfx hK hA hE hret H locs hP hD hS ls hl
  obtain ⟨hx, hb, hml, hown, hts⟩ := id hfx
  have hl : lv_has ls 1 [(0, .ref (q 0))] := hl
  unfold pX10_spare at hf
  refine lv_aload_n hx hb dX10_spare_0 rfl (lv_at hl 0 rfl) ?_
  obtain ⟨r1, S2, hc3, hf⟩ := zz_b2s hf
  refine zz_ji0 (va_runV (As := []) (rest := []) hfx (zc_X10_spareNow l D tb q k F  S r1 S2 hc3 H.size) (cwV 0 hts gX10_spare_X10_spareNow rfl rfl rfl (by decide +kernel) ⟨Nat.le_of_ble_eq_true rfl, Nat.le_of_ble_eq_true rfl⟩) (zz_pre0V hK hP hD hS hA hE 0 rfl rfl rfl) rfl rfl hl.1 rfl (lv_room (Nat.le_of_ble_eq_true rfl)) dX10_spare_1 ⟨Nat.zero_le _, Nat.zero_le _⟩) hD hS hA (fun H locs hP hD hS => ?_)
  obtain ⟨rfl, rfl⟩ := zz_e2 hf
  exact hret _ _ _ _ dX10_spare_4 hP hD hS
def rmX10_trimBy : Room := { frames := 8, cells := 0, slots := 0, locals := 181 }
set_option maxHeartbeats 4000000 in
set_option maxRecDepth 100000 in
theorem zc_X10_trimBy (l : Launch) (D : va_G) (tb : Nat → Nat) (q : Nat → Nat) (k : Nat → ClassId) (F : Nat)  (S : zz_M) (r : Int32) (o1 : zz_M) (hf : pX10_trimBy F S = some (r, o1)) : zz_Mi l yX10_trimBy wsX10_trimBy rmX10_trimBy D tb [((k 1), .int), ((k 2), .int), ((k 3), .int), ((k 4), .int), ((k 5), .int), ((k 6), .int), ((k 7), .int), ((k 8), .boolean), ((k 9), .int), ((k 10), .int), ((k 11), .int), ((k 12), .int), ((k 13), .int), ((k 14), .int), ((k 15), .int), ((k 16), .boolean), ((k 17), .int), ((k 18), .int), ((k 19), .int), ((k 20), .int)] [.ref (q 0)] (zw_10 q k S) (zw_10 q k o1) r := by
  refine zz_ofi (cc := cX10_trimBy) (maxL := 4) (by decide) rfl (Nat.le_of_ble_eq_true rfl) ?_
  intro p e s m args below meth c A Q hfx hK hA hE hret H locs hP hD hS ls hl
  obtain ⟨hx, hb, hml, hown, hts⟩ := id hfx
  have inX10 : ∀ w ∈ u_ws RX10 TX10 34, w ∈ wsX10_trimBy := by decide +kernel
  have lk101 := hts (.fieldLink RX10 101 "CatBeatModel" "steps" "I") (by decide +kernel)
  have lk44 := hts (.fieldLink RX10 44 "CatBeatModel" "planRow" "[I") (by decide +kernel)
  have hl : lv_has ls 4 [(0, .ref (q 0))] := hl
  unfold pX10_trimBy at hf
  refine lv_aload_n hx hb dX10_trimBy_0 rfl (lv_at hl 0 rfl) ?_
  obtain ⟨r1, S2, hc3, hf⟩ := zz_b2s hf
  refine zz_ji0 (va_runV (As := []) (rest := []) hfx (zc_X10_lostTold l D tb q k F  S r1 S2 hc3 H.size) (cwV 0 hts gX10_trimBy_X10_lostTold rfl rfl rfl (by decide +kernel) ⟨Nat.le_of_ble_eq_true rfl, Nat.le_of_ble_eq_true rfl⟩) (zz_pre0V hK hP hD hS hA hE 0 rfl rfl rfl) rfl rfl hl.1 rfl (lv_room (Nat.le_of_ble_eq_true rfl)) dX10_trimBy_1 ⟨Nat.zero_le _, Nat.zero_le _⟩) hD hS hA (fun H locs hP hD hS => ?_)
  refine lv_istore_n (lv' := [(1, .int r1), (0, .ref (q 0))]) hx hb dX10_trimBy_4 rfl hl (by decide) rfl (fun ls hl => ?_)
  refine lv_iconst (v := (0 : Int32)) hx hb dX10_trimBy_5 (by decide) ?_
  refine lv_istore_n (lv' := [(2, .int (0 : Int32)), (1, .int r1), (0, .ref (q 0))]) hx hb dX10_trimBy_6 rfl hl (by decide) rfl (fun ls hl => ?_)
  have hLkL7_5 : ∀ (n7_5 : Nat) (x4 : Int32) (z5 : zz_M) (H : Heap) (locs : List Loc), va_P D vwCl (zw_10 q k z5) H → va_D A (zw_10 q k z5) → va_S A s.heap H locs → ∀ ls : Array Slot, lv_has ls 4 [(1, .int r1), (0, .ref (q 0)), (2, .int x4)] → pX10_trimBy_L7_5 F r1 n7_5 x4 z5 = some (r, o1) → W p l e rmX10_trimBy s m args below meth c H locs 0 0 Q (F0 m 7 ls []) := by
    intro n7_5
    induction n7_5 with
    | zero =>
      intro x4 z5 H locs hP hD hS ls hl hf
      exact nomatch (show (none : Option _) = some _ from hf)
    | succ n7_5 ihkL7_5 =>
      intro x4 z5 H locs hP hD hS ls hl hf
      rw [pX10_trimBy_L7_5] at hf
      refine lv_iload_n hx hb dX10_trimBy_7 rfl (lv_at hl 2 rfl) ?_
      refine lv_aload_n hx hb dX10_trimBy_8 rfl (lv_at hl 1 rfl) ?_
      refine va_get (D := D) (ci := 10) (v := .int (zz_gI z5 3)) (C := RX10) (T := TX10) (N := 34) hx hb hts inX10 hown hK hP 0 rfl rfl 6 (by decide) lk101 (fun _ h9 => h9) rfl dX10_trimBy_9 ?_
      refine lv_icmp_ge (tgt := 40) hx hb dX10_trimBy_12 (by decide) (fun c12 => ?_) (fun c12 => ?_)
      · have hf := zz_ps hf c12
        refine lv_iconst (v := (0 : Int32)) hx hb dX10_trimBy_40 (by decide) ?_
        refine lv_istore_n (lv' := [(2, .int (0 : Int32)), (1, .int r1), (0, .ref (q 0))]) hx hb dX10_trimBy_41 rfl hl (by decide) rfl (fun ls hl => ?_)
        have hLkL42_8 : ∀ (n42_8 : Nat) (x7 : Int32) (z8 : zz_M) (H : Heap) (locs : List Loc), va_P D vwCl (zw_10 q k z8) H → va_D A (zw_10 q k z8) → va_S A s.heap H locs → ∀ ls : Array Slot, lv_has ls 4 [(1, .int r1), (0, .ref (q 0)), (2, .int x7)] → pX10_trimBy_L42_8 F r1 n42_8 x7 z8 = some (r, o1) → W p l e rmX10_trimBy s m args below meth c H locs 0 0 Q (F0 m 42 ls []) := by
          intro n42_8
          induction n42_8 with
          | zero =>
            intro x7 z8 H locs hP hD hS ls hl hf
            exact nomatch (show (none : Option _) = some _ from hf)
          | succ n42_8 ihkL42_8 =>
            intro x7 z8 H locs hP hD hS ls hl hf
            rw [pX10_trimBy_L42_8] at hf
            refine lv_iload_n hx hb dX10_trimBy_42 rfl (lv_at hl 2 rfl) ?_
            refine lv_aload_n hx hb dX10_trimBy_43 rfl (lv_at hl 1 rfl) ?_
            refine va_get (D := D) (ci := 10) (v := .int (zz_gI z8 3)) (C := RX10) (T := TX10) (N := 34) hx hb hts inX10 hown hK hP 0 rfl rfl 6 (by decide) lk101 (fun _ h9 => h9) rfl dX10_trimBy_44 ?_
            refine lv_icmp_ge (tgt := 100) hx hb dX10_trimBy_47 (by decide) (fun c47 => ?_) (fun c47 => ?_)
            · have hf := zz_ps hf c47
              refine lv_iconst (v := (-1 : Int32)) hx hb dX10_trimBy_100 (by decide) ?_
              obtain ⟨rfl, rfl⟩ := zz_e2 hf
              exact hret _ _ _ _ dX10_trimBy_101 hP hD hS
            · have hf := zz_ng hf c47
              refine lv_iload_n hx hb dX10_trimBy_50 rfl (lv_at hl 2 rfl) ?_
              refine lv_iconst (v := (1 : Int32)) hx hb dX10_trimBy_51 (by decide) ?_
              refine lv_iadd hx hb dX10_trimBy_52 ?_
              obtain ⟨v10, hv10, hf⟩ := zz_lts hf
              refine zz_ti hv10 ?_
              refine lv_istore_n (lv' := [(3, .int v10), (1, .int r1), (0, .ref (q 0)), (2, .int x7)]) hx hb dX10_trimBy_53 rfl hl (by decide) rfl (fun ls hl => ?_)
              have hLkL54_12 : ∀ (n54_12 : Nat) (x11 : Int32) (z12 : zz_M) (H : Heap) (locs : List Loc), va_P D vwCl (zw_10 q k z12) H → va_D A (zw_10 q k z12) → va_S A s.heap H locs → ∀ ls : Array Slot, lv_has ls 4 [(1, .int r1), (0, .ref (q 0)), (2, .int x7), (3, .int x11)] → pX10_trimBy_L54_12 F r1 x7 (fun b0 b1 => pX10_trimBy_L42_8 F r1 n42_8 b0 b1) n54_12 x11 z12 = some (r, o1) → W p l e rmX10_trimBy s m args below meth c H locs 0 0 Q (F0 m 54 ls []) := by
                intro n54_12
                induction n54_12 with
                | zero =>
                  intro x11 z12 H locs hP hD hS ls hl hf
                  exact nomatch (show (none : Option _) = some _ from hf)
                | succ n54_12 ihkL54_12 =>
                  intro x11 z12 H locs hP hD hS ls hl hf
                  rw [pX10_trimBy_L54_12] at hf
                  refine lv_iload_n hx hb dX10_trimBy_54 rfl (lv_at hl 3 rfl) ?_
                  refine lv_aload_n hx hb dX10_trimBy_55 rfl (lv_at hl 1 rfl) ?_
                  refine va_get (D := D) (ci := 10) (v := .int (zz_gI z12 3)) (C := RX10) (T := TX10) (N := 34) hx hb hts inX10 hown hK hP 0 rfl rfl 6 (by decide) lk101 (fun _ h9 => h9) rfl dX10_trimBy_56 ?_
                  refine lv_icmp_ge (tgt := 94) hx hb dX10_trimBy_59 (by decide) (fun c59 => ?_) (fun c59 => ?_)
                  · have hf := zz_ps hf c59
                    obtain ⟨v14, hv14, hf⟩ := zz_lts hf
                    refine lv_iinc (v := v14) (lv' := [(2, .int v14), (1, .int r1), (0, .ref (q 0)), (3, .int x11)]) hx hb dX10_trimBy_94 hl (k := 2) rfl (by rw [hv14]; rfl) (by decide) rfl (fun ls hl => ?_)
                    refine lv_goto (tgt := 42) hx hb dX10_trimBy_97 (by decide) ?_
                    exact ihkL42_8 v14 z12 _ _ hP hD hS ls (lv_sub hl [1, 2, 0] rfl) hf
                  · have hf := zz_ng hf c59
                    refine lv_aload_n hx hb dX10_trimBy_62 rfl (lv_at hl 1 rfl) ?_
                    refine lv_iload_n hx hb dX10_trimBy_63 rfl (lv_at hl 2 rfl) ?_
                    refine lv_iload_n hx hb dX10_trimBy_64 rfl (lv_at hl 3 rfl) ?_
                    obtain ⟨r15, S16, hc17, hf⟩ := zz_b2s hf
                    refine zz_ji0 (va_runV (As := [.int x7, .int x11]) (rest := []) hfx (zc_X10_lostWithout l D tb q k F x7 x11 z12 r15 S16 hc17 H.size) (cwV 2 hts gX10_trimBy_X10_lostWithout rfl rfl rfl (by decide +kernel) ⟨Nat.le_of_ble_eq_true rfl, Nat.le_of_ble_eq_true rfl⟩) (zz_pre0V hK hP hD hS hA hE 0 rfl rfl rfl) rfl rfl hl.1 rfl (lv_room (Nat.le_of_ble_eq_true rfl)) dX10_trimBy_65 ⟨Nat.zero_le _, Nat.zero_le _⟩) hD hS hA (fun H locs hP hD hS => ?_)
                    refine lv_iload_n hx hb dX10_trimBy_68 rfl (lv_at hl 0 rfl) ?_
                    refine lv_icmp_ge (tgt := 88) hx hb dX10_trimBy_69 (by decide) (fun c69 => ?_) (fun c69 => ?_)
                    · have hf := zz_ps hf c69
                      obtain ⟨v18, hv18, hf⟩ := zz_lts hf
                      refine lv_iinc (v := v18) (lv' := [(3, .int v18), (1, .int r1), (0, .ref (q 0)), (2, .int x7)]) hx hb dX10_trimBy_88 hl (k := 3) rfl (by rw [hv18]; rfl) (by decide) rfl (fun ls hl => ?_)
                      refine lv_goto (tgt := 54) hx hb dX10_trimBy_91 (by decide) ?_
                      exact ihkL54_12 v18 S16 _ _ hP hD hS ls (lv_sub hl [1, 2, 3, 0] rfl) hf
                    · have hf := zz_ng hf c69
                      refine lv_aload_n hx hb dX10_trimBy_72 rfl (lv_at hl 1 rfl) ?_
                      refine va_get (D := D) (ci := 10) (v := .ref (q 12)) (C := RX10) (T := TX10) (N := 34) hx hb hts inX10 hown hK hP 0 rfl rfl 23 (by decide) lk44 (fun _ h9 => h9) rfl dX10_trimBy_73 ?_
                      refine lv_iconst (v := (0 : Int32)) hx hb dX10_trimBy_76 (by decide) ?_
                      refine lv_iload_n hx hb dX10_trimBy_77 rfl (lv_at hl 2 rfl) ?_
                      obtain ⟨S19, hS19, hf⟩ := zz_lts hf
                      refine va_iast hx hb hK hP hD hS 12 11 rfl rfl (show zz_in (0 : Int32) 2 by decide) dX10_trimBy_78 (fun H locs hP hD hS => ?_)
                      have hP : va_P D vwCl (zw_10 q k S19) H := by rw [hS19]; exact hP
                      have hD : va_D A (zw_10 q k S19) := by rw [hS19]; exact hD
                      refine lv_aload_n hx hb dX10_trimBy_79 rfl (lv_at hl 1 rfl) ?_
                      refine va_get (D := D) (ci := 10) (v := .ref (q 12)) (C := RX10) (T := TX10) (N := 34) hx hb hts inX10 hown hK hP 0 rfl rfl 23 (by decide) lk44 (fun _ h9 => h9) rfl dX10_trimBy_80 ?_
                      refine lv_iconst (v := (1 : Int32)) hx hb dX10_trimBy_83 (by decide) ?_
                      refine lv_iload_n hx hb dX10_trimBy_84 rfl (lv_at hl 3 rfl) ?_
                      obtain ⟨S20, hS20, hf⟩ := zz_lts hf
                      refine va_iast hx hb hK hP hD hS 12 11 rfl rfl (show zz_in (1 : Int32) 2 by decide) dX10_trimBy_85 (fun H locs hP hD hS => ?_)
                      have hP : va_P D vwCl (zw_10 q k S20) H := by rw [hS20]; exact hP
                      have hD : va_D A (zw_10 q k S20) := by rw [hS20]; exact hD
                      refine lv_iconst (v := (2 : Int32)) hx hb dX10_trimBy_86 (by decide) ?_
                      obtain ⟨rfl, rfl⟩ := zz_e2 hf
                      exact hret _ _ _ _ dX10_trimBy_87 hP hD hS
              exact hLkL54_12 F v10 z8 _ _ hP hD hS ls (lv_sub hl [1, 2, 3, 0] rfl) hf
        exact hLkL42_8 F (0 : Int32) z5 _ _ hP hD hS ls (lv_sub hl [1, 2, 0] rfl) hf
      · have hf := zz_ng hf c12
        refine lv_aload_n hx hb dX10_trimBy_15 rfl (lv_at hl 1 rfl) ?_
        refine lv_iload_n hx hb dX10_trimBy_16 rfl (lv_at hl 2 rfl) ?_
        refine lv_iconst (v := (-1 : Int32)) hx hb dX10_trimBy_17 (by decide) ?_
        obtain ⟨r21, S22, hc23, hf⟩ := zz_b2s hf
        refine zz_ji0 (va_runV (As := [.int x4, .int (-1 : Int32)]) (rest := []) hfx (zc_X10_lostWithout l D tb q k F x4 (-1 : Int32) z5 r21 S22 hc23 H.size) (cwV 2 hts gX10_trimBy_X10_lostWithout rfl rfl rfl (by decide +kernel) ⟨Nat.le_of_ble_eq_true rfl, Nat.le_of_ble_eq_true rfl⟩) (zz_pre0V hK hP hD hS hA hE 0 rfl rfl rfl) rfl rfl hl.1 rfl (lv_room (Nat.le_of_ble_eq_true rfl)) dX10_trimBy_18 ⟨Nat.zero_le _, Nat.zero_le _⟩) hD hS hA (fun H locs hP hD hS => ?_)
        refine lv_iload_n hx hb dX10_trimBy_21 rfl (lv_at hl 0 rfl) ?_
        refine lv_icmp_ge (tgt := 34) hx hb dX10_trimBy_22 (by decide) (fun c22 => ?_) (fun c22 => ?_)
        · have hf := zz_ps hf c22
          obtain ⟨v24, hv24, hf⟩ := zz_lts hf
          refine lv_iinc (v := v24) (lv' := [(2, .int v24), (1, .int r1), (0, .ref (q 0))]) hx hb dX10_trimBy_34 hl (k := 2) rfl (by rw [hv24]; rfl) (by decide) rfl (fun ls hl => ?_)
          refine lv_goto (tgt := 7) hx hb dX10_trimBy_37 (by decide) ?_
          exact ihkL7_5 v24 S22 _ _ hP hD hS ls (lv_sub hl [1, 2, 0] rfl) hf
        · have hf := zz_ng hf c22
          refine lv_aload_n hx hb dX10_trimBy_25 rfl (lv_at hl 1 rfl) ?_
          refine va_get (D := D) (ci := 10) (v := .ref (q 12)) (C := RX10) (T := TX10) (N := 34) hx hb hts inX10 hown hK hP 0 rfl rfl 23 (by decide) lk44 (fun _ h9 => h9) rfl dX10_trimBy_26 ?_
          refine lv_iconst (v := (0 : Int32)) hx hb dX10_trimBy_29 (by decide) ?_
          refine lv_iload_n hx hb dX10_trimBy_30 rfl (lv_at hl 2 rfl) ?_
          obtain ⟨S25, hS25, hf⟩ := zz_lts hf
          refine va_iast hx hb hK hP hD hS 12 11 rfl rfl (show zz_in (0 : Int32) 2 by decide) dX10_trimBy_31 (fun H locs hP hD hS => ?_)
          have hP : va_P D vwCl (zw_10 q k S25) H := by rw [hS25]; exact hP
          have hD : va_D A (zw_10 q k S25) := by rw [hS25]; exact hD
          refine lv_iconst (v := (1 : Int32)) hx hb dX10_trimBy_32 (by decide) ?_
          obtain ⟨rfl, rfl⟩ := zz_e2 hf
          exact hret _ _ _ _ dX10_trimBy_33 hP hD hS
  exact hLkL7_5 F (0 : Int32) S2 _ _ hP hD hS ls (lv_sub hl [1, 2, 0] rfl) hf
def rmX10_ofRow : Room := { frames := 0, cells := 0, slots := 0, locals := 0 }
set_option maxHeartbeats 4000000 in
set_option maxRecDepth 100000 in
theorem zc_X10_ofRow (l : Launch) (D : va_G) (tb : Nat → Nat) (q : Nat → Nat) (k : Nat → ClassId) (F : Nat) (u0 : Int32) (u1 : Int32) (S : zz_M) (r : Int32) (hf : pX10_ofRow F u0 u1 S = some r) : zz_Mi l yX10_ofRow wsX10_ofRow rmX10_ofRow D tb [((k 1), .int), ((k 2), .int), ((k 3), .int), ((k 4), .int), ((k 5), .int), ((k 6), .int), ((k 7), .int), ((k 8), .boolean), ((k 9), .int), ((k 10), .int), ((k 11), .int), ((k 12), .int), ((k 13), .int), ((k 14), .int), ((k 15), .int), ((k 16), .boolean), ((k 17), .int), ((k 18), .int), ((k 19), .int), ((k 20), .int)] [.ref (q 0), .int u0, .int u1] (zw_10 q k S) (zw_10 q k S) r := by
  refine zz_ofi (cc := cX10_ofRow) (maxL := 3) (by decide) rfl (Nat.le_of_ble_eq_true rfl) ?_
  intro p e s m args below meth c A Q hfx hK hA hE hret H locs hP hD hS ls hl
  obtain ⟨hx, hb, hml, hown, hts⟩ := id hfx
  have inX10 : ∀ w ∈ u_ws RX10 TX10 34, w ∈ wsX10_ofRow := by decide +kernel
  have lk44 := hts (.fieldLink RX10 44 "CatBeatModel" "planRow" "[I") (by decide +kernel)
  have hl : lv_has ls 3 [(0, .ref (q 0)), (1, .int u0), (2, .int u1)] := hl
  unfold pX10_ofRow at hf
  refine lv_iload_n hx hb dX10_ofRow_0 rfl (lv_at hl 2 rfl) ?_
  refine lv_iconst (v := (-1 : Int32)) hx hb dX10_ofRow_1 (by decide) ?_
  obtain ⟨j24_2, hj24_2, hf⟩ := zz_lts hf
  have Kj24_2 : ∀ (y1 : Int32) (H : Heap) (locs : List Loc), va_P D vwCl (zw_10 q k S) H → va_D A (zw_10 q k S) → va_S A s.heap H locs → ∀ ls : Array Slot, lv_has ls 3 [] → j24_2 y1 = some r → W p l e rmX10_ofRow s m args below meth c H locs 0 0 Q (F0 m 24 ls [.int y1]) := by
    intro y1 H locs hP hD hS ls hl hf
    rw [hj24_2] at hf
    obtain rfl := zz_e1 hf
    exact hret _ _ _ _ dX10_ofRow_24 hP hD hS
  refine lv_icmp_ne (tgt := 9) hx hb dX10_ofRow_2 (by decide) (fun c2 => ?_) (fun c2 => ?_)
  · have hf := zz_ng hf c2
    refine lv_iload_n hx hb dX10_ofRow_9 rfl (lv_at hl 2 rfl) ?_
    refine lv_iload_n hx hb dX10_ofRow_10 rfl (lv_at hl 1 rfl) ?_
    refine lv_icmp_ge (tgt := 23) hx hb dX10_ofRow_11 (by decide) (fun c11 => ?_) (fun c11 => ?_)
    · have hf := zz_ps hf c11
      refine lv_iconst (v := (-1 : Int32)) hx hb dX10_ofRow_23 (by decide) ?_
      exact Kj24_2 (-1 : Int32) _ _ hP hD hS ls (lv_sub hl [] rfl) hf
    · have hf := zz_ng hf c11
      refine lv_aload_n hx hb dX10_ofRow_14 rfl (lv_at hl 0 rfl) ?_
      refine va_get (D := D) (ci := 10) (v := .ref (q 12)) (C := RX10) (T := TX10) (N := 34) hx hb hts inX10 hown hK hP 0 rfl rfl 23 (by decide) lk44 (fun _ h9 => h9) rfl dX10_ofRow_15 ?_
      refine lv_iload_n hx hb dX10_ofRow_18 rfl (lv_at hl 2 rfl) ?_
      obtain ⟨hg3, hf⟩ := zz_gd hf
      refine va_iald hx hb hK hP 12 11 rfl rfl hg3 dX10_ofRow_19 ?_
      refine lv_goto (tgt := 24) hx hb dX10_ofRow_20 (by decide) ?_
      exact Kj24_2 ((zz_gA S 11) (Int32.toNatClampNeg u1)) _ _ hP hD hS ls (lv_sub hl [] rfl) hf
  · have hf := zz_ps hf c2
    refine lv_iload_n hx hb dX10_ofRow_5 rfl (lv_at hl 1 rfl) ?_
    refine lv_goto (tgt := 24) hx hb dX10_ofRow_6 (by decide) ?_
    exact Kj24_2 u0 _ _ hP hD hS ls (lv_sub hl [] rfl) hf
def rmX10_trim : Room := { frames := 9, cells := 0, slots := 0, locals := 204 }
set_option maxHeartbeats 4000000 in
set_option maxRecDepth 100000 in
theorem zc_X10_trim (l : Launch) (D : va_G) (tb : Nat → Nat) (q : Nat → Nat) (k : Nat → ClassId) (F : Nat) (u0 : Int32) (S : zz_M) (r : Int32) (o1 : zz_M) (hf : pX10_trim F u0 S = some (r, o1)) : zz_Mi l yX10_trim wsX10_trim rmX10_trim D tb [((k 1), .int), ((k 2), .int), ((k 3), .int), ((k 4), .int), ((k 5), .int), ((k 6), .int), ((k 7), .int), ((k 8), .boolean), ((k 9), .int), ((k 10), .int), ((k 11), .int), ((k 12), .int), ((k 13), .int), ((k 14), .int), ((k 15), .int), ((k 16), .boolean), ((k 17), .int), ((k 18), .int), ((k 19), .int), ((k 20), .int)] [.ref (q 0), .int u0] (zw_10 q k S) (zw_10 q k o1) r := by
  refine zz_ofi (cc := cX10_trim) (maxL := 2) (by decide) rfl (Nat.le_of_ble_eq_true rfl) ?_
  intro p e s m args below meth c A Q hfx hK hA hE hret H locs hP hD hS ls hl
  obtain ⟨hx, hb, hml, hown, hts⟩ := id hfx
  have hl : lv_has ls 2 [(0, .ref (q 0)), (1, .int u0)] := hl
  unfold pX10_trim at hf
  refine lv_iload_n hx hb dX10_trim_0 rfl (lv_at hl 1 rfl) ?_
  refine lv_iconst (v := (-1 : Int32)) hx hb dX10_trim_1 (by decide) ?_
  refine lv_iconst (v := (1 : Int32)) hx hb dX10_trim_2 (by decide) ?_
  obtain ⟨r1, hc2, hf⟩ := zz_b1s hf
  refine zz_ji (va_runS (As := [.int u0, .int (-1 : Int32), .int (1 : Int32)]) (rest := []) hfx (zc_X10_in l D tb  F u0 (-1 : Int32) (1 : Int32)  r1 hc2 H.size) (va_cwS 3 hts gX10_trim_X10_in rfl rfl rfl (by decide +kernel) ⟨Nat.le_of_ble_eq_true rfl, Nat.le_of_ble_eq_true rfl⟩) (zz_preS hK hP hD hS hA hE [] [] rfl (by decide) rfl) rfl rfl hl.1 rfl (lv_room (Nat.le_of_ble_eq_true rfl)) dX10_trim_3 ⟨Nat.zero_le _, Nat.zero_le _⟩) hP hD hS hA [] rfl rfl (fun H locs hP hD hS => ?_)
  have hP : va_P D vwCl (zw_10 q k S) H := hP
  have hD : va_D A (zw_10 q k S) := hD
  obtain ⟨j23_5, hj23_5, hf⟩ := zz_lts hf
  have Kj23_5 : ∀ (y3 : Int32) (z4 : zz_M) (H : Heap) (locs : List Loc), va_P D vwCl (zw_10 q k z4) H → va_D A (zw_10 q k z4) → va_S A s.heap H locs → ∀ ls : Array Slot, lv_has ls 2 [] → j23_5 y3 z4 = some (r, o1) → W p l e rmX10_trim s m args below meth c H locs 0 0 Q (F0 m 23 ls [.int y3]) := by
    intro y3 z4 H locs hP hD hS ls hl hf
    rw [hj23_5] at hf
    obtain ⟨rfl, rfl⟩ := zz_e2 hf
    exact hret _ _ _ _ dX10_trim_23 hP hD hS
  refine lv_if_eq (tgt := 21) hx hb dX10_trim_6 (by decide) (fun c6 => ?_) (fun c6 => ?_)
  · have hf := zz_ps hf c6
    refine lv_bipush (v := (-2 : Int32)) hx hb dX10_trim_21 (by decide) ?_
    exact Kj23_5 (-2 : Int32) S _ _ hP hD hS ls (lv_sub hl [] rfl) hf
  · have hf := zz_ng hf c6
    refine lv_aload_n hx hb dX10_trim_9 rfl (lv_at hl 0 rfl) ?_
    refine lv_aload_n hx hb dX10_trim_10 rfl (lv_at hl 0 rfl) ?_
    obtain ⟨r6, S7, hc8, hf⟩ := zz_b2s hf
    refine zz_ji0 (va_runV (As := []) (rest := [.ref (q 0)]) hfx (zc_X10_trimBy l D tb q k F  S r6 S7 hc8 H.size) (cwV 0 hts gX10_trim_X10_trimBy rfl rfl rfl (by decide +kernel) ⟨Nat.le_of_ble_eq_true rfl, Nat.le_of_ble_eq_true rfl⟩) (zz_pre0V hK hP hD hS hA hE 0 rfl rfl rfl) rfl rfl hl.1 rfl (lv_room (Nat.le_of_ble_eq_true rfl)) dX10_trim_11 ⟨Nat.zero_le _, Nat.zero_le _⟩) hD hS hA (fun H locs hP hD hS => ?_)
    refine lv_iload_n hx hb dX10_trim_14 rfl (lv_at hl 1 rfl) ?_
    obtain ⟨r9, hc10, hf⟩ := zz_b1s hf
    refine zz_ji0 (va_runV (As := [.int r6, .int u0]) (rest := []) hfx (zc_X10_ofRow l D tb q k F r6 u0 S7 r9 hc10 H.size) (cwV 2 hts gX10_trim_X10_ofRow rfl rfl rfl (by decide +kernel) ⟨Nat.le_of_ble_eq_true rfl, Nat.le_of_ble_eq_true rfl⟩) (zz_pre0V hK hP hD hS hA hE 0 rfl rfl rfl) rfl rfl hl.1 rfl (lv_room (Nat.le_of_ble_eq_true rfl)) dX10_trim_15 ⟨Nat.zero_le _, Nat.zero_le _⟩) hD hS hA (fun H locs hP hD hS => ?_)
    refine lv_goto (tgt := 23) hx hb dX10_trim_18 (by decide) ?_
    exact Kj23_5 r9 S7 _ _ hP hD hS ls (lv_sub hl [] rfl) hf
def rmX10_beginOf : Room := { frames := 6, cells := 0, slots := 0, locals := 136 }
set_option maxHeartbeats 4000000 in
set_option maxRecDepth 100000 in
theorem zc_X10_beginOf (l : Launch) (D : va_G) (tb : Nat → Nat) (q : Nat → Nat) (k : Nat → ClassId) (F : Nat) (u0 : Int32) (S : zz_M) (r : Int32) (o1 : zz_M) (hf : pX10_beginOf F u0 S = some (r, o1)) : zz_Mi l yX10_beginOf wsX10_beginOf rmX10_beginOf D tb [((k 1), .int), ((k 2), .int), ((k 3), .int), ((k 4), .int), ((k 5), .int), ((k 6), .int), ((k 7), .int), ((k 8), .boolean), ((k 9), .int), ((k 10), .int), ((k 11), .int), ((k 12), .int), ((k 13), .int), ((k 14), .int), ((k 15), .int), ((k 16), .boolean), ((k 17), .int), ((k 18), .int), ((k 19), .int), ((k 20), .int)] [.ref (q 0), .int u0] (zw_10 q k S) (zw_10 q k o1) r := by
  refine zz_ofi (cc := cX10_beginOf) (maxL := 8) (by decide) rfl (Nat.le_of_ble_eq_true rfl) ?_
  intro p e s m args below meth c A Q hfx hK hA hE hret H locs hP hD hS ls hl
  obtain ⟨hx, hb, hml, hown, hts⟩ := id hfx
  have inX10 : ∀ w ∈ u_ws RX10 TX10 34, w ∈ wsX10_beginOf := by decide +kernel
  have lk142 := hts (.fieldLink RX10 142 "CatBeatModel" "startNow" "I") (by decide +kernel)
  have lk88 := hts (.fieldLink RX10 88 "CatBeatModel" "cells" "I") (by decide +kernel)
  have hl : lv_has ls 8 [(0, .ref (q 0)), (1, .int u0)] := hl
  unfold pX10_beginOf at hf
  refine lv_aload_n hx hb dX10_beginOf_0 rfl (lv_at hl 0 rfl) ?_
  obtain ⟨S1, hc2, hf⟩ := zz_b1s hf
  refine zz_jv0 (va_runV (As := []) (rest := []) hfx (zc_X10_asTold l D tb q k F  S S1 hc2 H.size) (cwV 0 hts gX10_beginOf_X10_asTold rfl rfl rfl (by decide +kernel) ⟨Nat.le_of_ble_eq_true rfl, Nat.le_of_ble_eq_true rfl⟩) (zz_pre0V hK hP hD hS hA hE 0 rfl rfl rfl) rfl rfl hl.1 rfl (lv_room (Nat.le_of_ble_eq_true rfl)) dX10_beginOf_1 ⟨Nat.zero_le _, Nat.zero_le _⟩) hD hS hA (fun H locs hP hD hS => ?_)
  refine lv_aload_n hx hb dX10_beginOf_4 rfl (lv_at hl 0 rfl) ?_
  refine va_get (D := D) (ci := 10) (v := .int (zz_gI S1 5)) (C := RX10) (T := TX10) (N := 34) hx hb hts inX10 hown hK hP 0 rfl rfl 11 (by decide) lk142 (fun _ h9 => h9) rfl dX10_beginOf_5 ?_
  obtain ⟨v3, hv3, hf⟩ := zz_lts hf
  refine zz_ti hv3 ?_
  refine lv_istore_n (lv' := [(2, .int v3), (0, .ref (q 0)), (1, .int u0)]) hx hb dX10_beginOf_8 rfl hl (by decide) rfl (fun ls hl => ?_)
  refine lv_iconst (v := (-1 : Int32)) hx hb dX10_beginOf_9 (by decide) ?_
  refine lv_istore_n (lv' := [(3, .int (-1 : Int32)), (2, .int v3), (0, .ref (q 0)), (1, .int u0)]) hx hb dX10_beginOf_10 rfl hl (by decide) rfl (fun ls hl => ?_)
  refine lv_iconst (v := (-1 : Int32)) hx hb dX10_beginOf_11 (by decide) ?_
  refine lv_istore (lv' := [(4, .int (-1 : Int32)), (3, .int (-1 : Int32)), (2, .int v3), (0, .ref (q 0)), (1, .int u0)]) hx hb dX10_beginOf_12 hl (by decide) rfl (fun ls hl => ?_)
  refine lv_iconst (v := (0 : Int32)) hx hb dX10_beginOf_14 (by decide) ?_
  refine lv_istore (lv' := [(5, .int (0 : Int32)), (4, .int (-1 : Int32)), (3, .int (-1 : Int32)), (2, .int v3), (0, .ref (q 0)), (1, .int u0)]) hx hb dX10_beginOf_15 hl (by decide) rfl (fun ls hl => ?_)
  have hLkL17_7 : ∀ (n17_7 : Nat) (x4 : Int32) (x5 : Int32) (x6 : Int32) (z7 : zz_M) (H : Heap) (locs : List Loc), va_P D vwCl (zw_10 q k z7) H → va_D A (zw_10 q k z7) → va_S A s.heap H locs → ∀ ls : Array Slot, lv_has ls 8 [(2, .int v3), (0, .ref (q 0)), (1, .int u0), (3, .int x4), (4, .int x5), (5, .int x6)] → pX10_beginOf_L17_7 u0 F v3 n17_7 x4 x5 x6 z7 = some (r, o1) → W p l e rmX10_beginOf s m args below meth c H locs 0 0 Q (F0 m 17 ls []) := by
    intro n17_7
    induction n17_7 with
    | zero =>
      intro x4 x5 x6 z7 H locs hP hD hS ls hl hf
      exact nomatch (show (none : Option _) = some _ from hf)
    | succ n17_7 ihkL17_7 =>
      intro x4 x5 x6 z7 H locs hP hD hS ls hl hf
      rw [pX10_beginOf_L17_7] at hf
      refine lv_iload hx hb dX10_beginOf_17 (lv_at hl 5 rfl) ?_
      refine lv_aload_n hx hb dX10_beginOf_19 rfl (lv_at hl 1 rfl) ?_
      refine va_get (D := D) (ci := 10) (v := .int (zz_gI z7 2)) (C := RX10) (T := TX10) (N := 34) hx hb hts inX10 hown hK hP 0 rfl rfl 4 (by decide) lk88 (fun _ h9 => h9) rfl dX10_beginOf_20 ?_
      refine lv_icmp_ge (tgt := 98) hx hb dX10_beginOf_23 (by decide) (fun c23 => ?_) (fun c23 => ?_)
      · have hf := zz_ps hf c23
        refine lv_aload_n hx hb dX10_beginOf_98 rfl (lv_at hl 1 rfl) ?_
        refine lv_iload_n hx hb dX10_beginOf_99 rfl (lv_at hl 0 rfl) ?_
        obtain ⟨S9, hS9, hf⟩ := zz_lts hf
        refine va_put (D := D) (ci := 10) (v := .int v3) (ty := .int) (C := RX10) (T := TX10) (N := 34) hx hb hts inX10 tyX10 tyX10_ok nmX10 hown hK hP hD hS 0 rfl rfl 11 (by decide) lk142 (fun _ h9 => h9) rfl (by decide +kernel) rfl rfl (Nat.le_of_ble_eq_true rfl) dX10_beginOf_100 (fun H locs hP hD hS => ?_)
        have hP : va_P D vwCl (zw_10 q k S9) H := by rw [hS9]; exact hP
        have hD : va_D A (zw_10 q k S9) := by rw [hS9]; exact hD
        refine lv_iload_n hx hb dX10_beginOf_103 rfl (lv_at hl 2 rfl) ?_
        obtain ⟨v10, hv10, hf⟩ := zz_lts hf
        have hK11 : ∀ ls : Array Slot, lv_has ls 8 [] → W p l e rmX10_beginOf s m args below meth c H locs 0 0 Q (F0 m 113 ls [.int v10]) := by
          intro ls hl
          obtain ⟨rfl, rfl⟩ := zz_e2 hf
          exact hret _ _ _ _ dX10_beginOf_113 hP hD hS
        refine lv_if_ne (tgt := 111) hx hb dX10_beginOf_104 (by decide) (fun c104 => ?_) (fun c104 => ?_)
        · refine lv_iload hx hb dX10_beginOf_111 (lv_at hl 4 rfl) ?_
          refine zz_ti (show v10 = x5 by rw [hv10, if_neg c104]) ?_
          exact hK11 ls (lv_sub hl [] rfl)
        · refine lv_iload_n hx hb dX10_beginOf_107 rfl (lv_at hl 3 rfl) ?_
          refine lv_goto (tgt := 113) hx hb dX10_beginOf_108 (by decide) ?_
          refine zz_ti (show v10 = x4 by rw [hv10, if_pos c104]) ?_
          exact hK11 ls (lv_sub hl [] rfl)
      · have hf := zz_ng hf c23
        refine lv_aload_n hx hb dX10_beginOf_26 rfl (lv_at hl 1 rfl) ?_
        refine lv_iload hx hb dX10_beginOf_27 (lv_at hl 5 rfl) ?_
        obtain ⟨r12, hc13, hf⟩ := zz_b1s hf
        refine zz_ji0 (va_runV (As := [.int x6]) (rest := []) hfx (zc_X10_isFor l D tb q k F x6 z7 r12 hc13 H.size) (cwV 1 hts gX10_beginOf_X10_isFor rfl rfl rfl (by decide +kernel) ⟨Nat.le_of_ble_eq_true rfl, Nat.le_of_ble_eq_true rfl⟩) (zz_pre0V hK hP hD hS hA hE 0 rfl rfl rfl) rfl rfl hl.1 rfl (lv_room (Nat.le_of_ble_eq_true rfl)) dX10_beginOf_29 ⟨Nat.zero_le _, Nat.zero_le _⟩) hD hS hA (fun H locs hP hD hS => ?_)
        obtain ⟨j92_17, hj92_17, hf⟩ := zz_lts hf
        have Kj92_17 : ∀ (x14 : Int32) (x15 : Int32) (z16 : zz_M) (H : Heap) (locs : List Loc), va_P D vwCl (zw_10 q k z16) H → va_D A (zw_10 q k z16) → va_S A s.heap H locs → ∀ ls : Array Slot, lv_has ls 8 [(2, .int v3), (0, .ref (q 0)), (1, .int u0), (5, .int x6), (3, .int x14), (4, .int x15)] → j92_17 x14 x15 z16 = some (r, o1) → W p l e rmX10_beginOf s m args below meth c H locs 0 0 Q (F0 m 92 ls []) := by
          intro x14 x15 z16 H locs hP hD hS ls hl hf
          rw [hj92_17] at hf
          obtain ⟨v18, hv18, hf⟩ := zz_lts hf
          refine lv_iinc (v := v18) (lv' := [(5, .int v18), (2, .int v3), (0, .ref (q 0)), (1, .int u0), (3, .int x14), (4, .int x15)]) hx hb dX10_beginOf_92 hl (k := 3) rfl (by rw [hv18]; rfl) (by decide) rfl (fun ls hl => ?_)
          refine lv_goto (tgt := 17) hx hb dX10_beginOf_95 (by decide) ?_
          exact ihkL17_7 x14 x15 v18 z16 _ _ hP hD hS ls (lv_sub hl [1, 2, 3, 4, 5, 0] rfl) hf
        refine lv_if_eq (tgt := 92) hx hb dX10_beginOf_32 (by decide) (fun c32 => ?_) (fun c32 => ?_)
        · have hf := zz_ps hf c32
          exact Kj92_17 x4 x5 z7 _ _ hP hD hS ls (lv_sub hl [0, 1, 2, 5, 3, 4] rfl) hf
        · have hf := zz_ng hf c32
          refine lv_aload_n hx hb dX10_beginOf_35 rfl (lv_at hl 1 rfl) ?_
          refine lv_iload hx hb dX10_beginOf_36 (lv_at hl 5 rfl) ?_
          obtain ⟨S19, hS19, hf⟩ := zz_lts hf
          refine va_put (D := D) (ci := 10) (v := .int x6) (ty := .int) (C := RX10) (T := TX10) (N := 34) hx hb hts inX10 tyX10 tyX10_ok nmX10 hown hK hP hD hS 0 rfl rfl 11 (by decide) lk142 (fun _ h9 => h9) rfl (by decide +kernel) rfl rfl (Nat.le_of_ble_eq_true rfl) dX10_beginOf_38 (fun H locs hP hD hS => ?_)
          have hP : va_P D vwCl (zw_10 q k S19) H := by rw [hS19]; exact hP
          have hD : va_D A (zw_10 q k S19) := by rw [hS19]; exact hD
          refine lv_aload_n hx hb dX10_beginOf_41 rfl (lv_at hl 1 rfl) ?_
          obtain ⟨r20, S21, hc22, hf⟩ := zz_b2s hf
          refine zz_ji0 (va_runV (As := []) (rest := []) hfx (zc_X10_lostNow l D tb q k F  S19 r20 S21 hc22 H.size) (cwV 0 hts gX10_beginOf_X10_lostNow rfl rfl rfl (by decide +kernel) ⟨Nat.le_of_ble_eq_true rfl, Nat.le_of_ble_eq_true rfl⟩) (zz_pre0V hK hP hD hS hA hE 0 rfl rfl rfl) rfl rfl hl.1 rfl (lv_room (Nat.le_of_ble_eq_true rfl)) dX10_beginOf_42 ⟨Nat.zero_le _, Nat.zero_le _⟩) hD hS hA (fun H locs hP hD hS => ?_)
          refine lv_istore (lv' := [(6, .int r20), (2, .int v3), (0, .ref (q 0)), (1, .int u0), (3, .int x4), (4, .int x5), (5, .int x6)]) hx hb dX10_beginOf_45 hl (by decide) rfl (fun ls hl => ?_)
          refine lv_iload_n hx hb dX10_beginOf_47 rfl (lv_at hl 4 rfl) ?_
          refine lv_iconst (v := (-1 : Int32)) hx hb dX10_beginOf_48 (by decide) ?_
          obtain ⟨v23, hv23, hf⟩ := zz_lts hf
          have hK24 : ∀ ls : Array Slot, lv_has ls 8 [(6, .int r20), (2, .int v3), (0, .ref (q 0)), (1, .int u0), (3, .int x4), (4, .int x5), (5, .int x6)] → W p l e rmX10_beginOf s m args below meth c H locs 0 0 Q (F0 m 64 ls [.int v23]) := by
            intro ls hl
            refine lv_istore (lv' := [(7, .int v23), (6, .int r20), (2, .int v3), (0, .ref (q 0)), (1, .int u0), (3, .int x4), (4, .int x5), (5, .int x6)]) hx hb dX10_beginOf_64 hl (by decide) rfl (fun ls hl => ?_)
            refine lv_iload hx hb dX10_beginOf_66 (lv_at hl 0 rfl) ?_
            obtain ⟨v25, hv25, hf⟩ := zz_lts hf
            have hK26 : ∀ ls : Array Slot, lv_has ls 8 [(7, .int v23), (6, .int r20), (2, .int v3), (0, .ref (q 0)), (1, .int u0), (4, .int x5), (5, .int x6)] → W p l e rmX10_beginOf s m args below meth c H locs 0 0 Q (F0 m 77 ls [.int v25]) := by
              intro ls hl
              refine lv_istore_n (lv' := [(3, .int v25), (7, .int v23), (6, .int r20), (2, .int v3), (0, .ref (q 0)), (1, .int u0), (4, .int x5), (5, .int x6)]) hx hb dX10_beginOf_77 rfl hl (by decide) rfl (fun ls hl => ?_)
              refine lv_iload hx hb dX10_beginOf_78 (lv_at hl 1 rfl) ?_
              obtain ⟨v27, hv27, hf⟩ := zz_lts hf
              have hK28 : ∀ ls : Array Slot, lv_has ls 8 [(3, .int v25), (2, .int v3), (0, .ref (q 0)), (1, .int u0), (5, .int x6)] → W p l e rmX10_beginOf s m args below meth c H locs 0 0 Q (F0 m 90 ls [.int v27]) := by
                intro ls hl
                refine lv_istore (lv' := [(4, .int v27), (3, .int v25), (2, .int v3), (0, .ref (q 0)), (1, .int u0), (5, .int x6)]) hx hb dX10_beginOf_90 hl (by decide) rfl (fun ls hl => ?_)
                exact Kj92_17 v25 v27 S21 _ _ hP hD hS ls (lv_sub hl [2, 3, 4, 5, 1, 0] rfl) hf
              refine lv_if_eq (tgt := 88) hx hb dX10_beginOf_80 (by decide) (fun c80 => ?_) (fun c80 => ?_)
              · refine lv_iload hx hb dX10_beginOf_88 (lv_at hl 6 rfl) ?_
                refine zz_ti (show v27 = x5 by rw [hv27, if_pos c80]) ?_
                exact hK28 ls (lv_sub hl [0, 3, 4, 5, 7] rfl)
              · refine lv_iload hx hb dX10_beginOf_83 (lv_at hl 2 rfl) ?_
                refine lv_goto (tgt := 90) hx hb dX10_beginOf_85 (by decide) ?_
                refine zz_ti (show v27 = r20 by rw [hv27, if_neg c80]) ?_
                exact hK28 ls (lv_sub hl [0, 3, 4, 5, 7] rfl)
            refine lv_if_eq (tgt := 76) hx hb dX10_beginOf_68 (by decide) (fun c68 => ?_) (fun c68 => ?_)
            · refine lv_iload_n hx hb dX10_beginOf_76 rfl (lv_at hl 5 rfl) ?_
              refine zz_ti (show v25 = x4 by rw [hv25, if_pos c68]) ?_
              exact hK26 ls (lv_sub hl [0, 1, 2, 3, 4, 6, 7] rfl)
            · refine lv_iload hx hb dX10_beginOf_71 (lv_at hl 7 rfl) ?_
              refine lv_goto (tgt := 77) hx hb dX10_beginOf_73 (by decide) ?_
              refine zz_ti (show v25 = x6 by rw [hv25, if_neg c68]) ?_
              exact hK26 ls (lv_sub hl [0, 1, 2, 3, 4, 6, 7] rfl)
          refine lv_icmp_eq (tgt := 59) hx hb dX10_beginOf_49 (by decide) (fun c49 => ?_) (fun c49 => ?_)
          · refine lv_iconst (v := (1 : Int32)) hx hb dX10_beginOf_59 (by decide) ?_
            refine lv_goto (tgt := 64) hx hb dX10_beginOf_60 (by decide) ?_
            refine zz_ti (show v23 = (1 : Int32) by rw [hv23, if_pos c49]) ?_
            exact hK24 ls (lv_sub hl [0, 1, 2, 3, 4, 5, 6] rfl)
          · refine lv_iload hx hb dX10_beginOf_52 (lv_at hl 0 rfl) ?_
            refine lv_iload hx hb dX10_beginOf_54 (lv_at hl 5 rfl) ?_
            refine lv_icmp_ge (tgt := 63) hx hb dX10_beginOf_56 (by decide) (fun c56 => ?_) (fun c56 => ?_)
            · refine lv_iconst (v := (0 : Int32)) hx hb dX10_beginOf_63 (by decide) ?_
              refine zz_ti (show v23 = (0 : Int32) by rw [hv23, if_neg c49, if_pos c56]) ?_
              exact hK24 ls (lv_sub hl [0, 1, 2, 3, 4, 5, 6] rfl)
            · refine lv_iconst (v := (1 : Int32)) hx hb dX10_beginOf_59 (by decide) ?_
              refine lv_goto (tgt := 64) hx hb dX10_beginOf_60 (by decide) ?_
              refine zz_ti (show v23 = (1 : Int32) by rw [hv23, if_neg c49, if_neg c56]) ?_
              exact hK24 ls (lv_sub hl [0, 1, 2, 3, 4, 5, 6] rfl)
  exact hLkL17_7 F (-1 : Int32) (-1 : Int32) (0 : Int32) S1 _ _ hP hD hS ls (lv_sub hl [3, 4, 5, 2, 1, 0] rfl) hf
def rmX10_begin : Room := { frames := 7, cells := 0, slots := 0, locals := 163 }
set_option maxHeartbeats 4000000 in
set_option maxRecDepth 100000 in
theorem zc_X10_begin (l : Launch) (D : va_G) (tb : Nat → Nat) (q : Nat → Nat) (k : Nat → ClassId) (F : Nat) (u0 : Int32) (S : zz_M) (r : Int32) (o1 : zz_M) (hf : pX10_begin F u0 S = some (r, o1)) : zz_Mi l yX10_begin wsX10_begin rmX10_begin D tb [((k 1), .int), ((k 2), .int), ((k 3), .int), ((k 4), .int), ((k 5), .int), ((k 6), .int), ((k 7), .int), ((k 8), .boolean), ((k 9), .int), ((k 10), .int), ((k 11), .int), ((k 12), .int), ((k 13), .int), ((k 14), .int), ((k 15), .int), ((k 16), .boolean), ((k 17), .int), ((k 18), .int), ((k 19), .int), ((k 20), .int)] [.ref (q 0), .int u0] (zw_10 q k S) (zw_10 q k o1) r := by
  refine zz_ofi (cc := cX10_begin) (maxL := 2) (by decide) rfl (Nat.le_of_ble_eq_true rfl) ?_
  intro p e s m args below meth c A Q hfx hK hA hE hret H locs hP hD hS ls hl
  obtain ⟨hx, hb, hml, hown, hts⟩ := id hfx
  have hl : lv_has ls 2 [(0, .ref (q 0)), (1, .int u0)] := hl
  unfold pX10_begin at hf
  refine lv_iload_n hx hb dX10_begin_0 rfl (lv_at hl 1 rfl) ?_
  refine lv_iconst (v := (0 : Int32)) hx hb dX10_begin_1 (by decide) ?_
  refine lv_iconst (v := (1 : Int32)) hx hb dX10_begin_2 (by decide) ?_
  obtain ⟨r1, hc2, hf⟩ := zz_b1s hf
  refine zz_ji (va_runS (As := [.int u0, .int (0 : Int32), .int (1 : Int32)]) (rest := []) hfx (zc_X10_in l D tb  F u0 (0 : Int32) (1 : Int32)  r1 hc2 H.size) (va_cwS 3 hts gX10_begin_X10_in rfl rfl rfl (by decide +kernel) ⟨Nat.le_of_ble_eq_true rfl, Nat.le_of_ble_eq_true rfl⟩) (zz_preS hK hP hD hS hA hE [] [] rfl (by decide) rfl) rfl rfl hl.1 rfl (lv_room (Nat.le_of_ble_eq_true rfl)) dX10_begin_3 ⟨Nat.zero_le _, Nat.zero_le _⟩) hP hD hS hA [] rfl rfl (fun H locs hP hD hS => ?_)
  have hP : va_P D vwCl (zw_10 q k S) H := hP
  have hD : va_D A (zw_10 q k S) := hD
  obtain ⟨j19_5, hj19_5, hf⟩ := zz_lts hf
  have Kj19_5 : ∀ (y3 : Int32) (z4 : zz_M) (H : Heap) (locs : List Loc), va_P D vwCl (zw_10 q k z4) H → va_D A (zw_10 q k z4) → va_S A s.heap H locs → ∀ ls : Array Slot, lv_has ls 2 [] → j19_5 y3 z4 = some (r, o1) → W p l e rmX10_begin s m args below meth c H locs 0 0 Q (F0 m 19 ls [.int y3]) := by
    intro y3 z4 H locs hP hD hS ls hl hf
    rw [hj19_5] at hf
    obtain ⟨rfl, rfl⟩ := zz_e2 hf
    exact hret _ _ _ _ dX10_begin_19 hP hD hS
  refine lv_if_eq (tgt := 17) hx hb dX10_begin_6 (by decide) (fun c6 => ?_) (fun c6 => ?_)
  · have hf := zz_ps hf c6
    refine lv_bipush (v := (-2 : Int32)) hx hb dX10_begin_17 (by decide) ?_
    exact Kj19_5 (-2 : Int32) S _ _ hP hD hS ls (lv_sub hl [] rfl) hf
  · have hf := zz_ng hf c6
    refine lv_aload_n hx hb dX10_begin_9 rfl (lv_at hl 0 rfl) ?_
    refine lv_iload_n hx hb dX10_begin_10 rfl (lv_at hl 1 rfl) ?_
    obtain ⟨r6, S7, hc8, hf⟩ := zz_b2s hf
    refine zz_ji0 (va_runV (As := [.int u0]) (rest := []) hfx (zc_X10_beginOf l D tb q k F u0 S r6 S7 hc8 H.size) (cwV 1 hts gX10_begin_X10_beginOf rfl rfl rfl (by decide +kernel) ⟨Nat.le_of_ble_eq_true rfl, Nat.le_of_ble_eq_true rfl⟩) (zz_pre0V hK hP hD hS hA hE 0 rfl rfl rfl) rfl rfl hl.1 rfl (lv_room (Nat.le_of_ble_eq_true rfl)) dX10_begin_11 ⟨Nat.zero_le _, Nat.zero_le _⟩) hD hS hA (fun H locs hP hD hS => ?_)
    refine lv_goto (tgt := 19) hx hb dX10_begin_14 (by decide) ?_
    exact Kj19_5 r6 S7 _ _ hP hD hS ls (lv_sub hl [] rfl) hf
def rmX10_recruitOf : Room := { frames := 6, cells := 0, slots := 0, locals := 136 }
set_option maxHeartbeats 4000000 in
set_option maxRecDepth 100000 in
theorem zc_X10_recruitOf (l : Launch) (D : va_G) (tb : Nat → Nat) (q : Nat → Nat) (k : Nat → ClassId) (F : Nat) (u0 : Int32) (S : zz_M) (r : Int32) (o1 : zz_M) (hf : pX10_recruitOf F u0 S = some (r, o1)) : zz_Mi l yX10_recruitOf wsX10_recruitOf rmX10_recruitOf D tb [((k 1), .int), ((k 2), .int), ((k 3), .int), ((k 4), .int), ((k 5), .int), ((k 6), .int), ((k 7), .int), ((k 8), .boolean), ((k 9), .int), ((k 10), .int), ((k 11), .int), ((k 12), .int), ((k 13), .int), ((k 14), .int), ((k 15), .int), ((k 16), .boolean), ((k 17), .int), ((k 18), .int), ((k 19), .int), ((k 20), .int)] [.ref (q 0), .int u0] (zw_10 q k S) (zw_10 q k o1) r := by
  refine zz_ofi (cc := cX10_recruitOf) (maxL := 8) (by decide) rfl (Nat.le_of_ble_eq_true rfl) ?_
  intro p e s m args below meth c A Q hfx hK hA hE hret H locs hP hD hS ls hl
  obtain ⟨hx, hb, hml, hown, hts⟩ := id hfx
  have inX10 : ∀ w ∈ u_ws RX10 TX10 34, w ∈ wsX10_recruitOf := by decide +kernel
  have lk71 := hts (.fieldLink RX10 71 "CatBeatModel" "girthNow" "I") (by decide +kernel)
  have hl : lv_has ls 8 [(0, .ref (q 0)), (1, .int u0)] := hl
  unfold pX10_recruitOf at hf
  refine lv_aload_n hx hb dX10_recruitOf_0 rfl (lv_at hl 0 rfl) ?_
  obtain ⟨S1, hc2, hf⟩ := zz_b1s hf
  refine zz_jv0 (va_runV (As := []) (rest := []) hfx (zc_X10_asTold l D tb q k F  S S1 hc2 H.size) (cwV 0 hts gX10_recruitOf_X10_asTold rfl rfl rfl (by decide +kernel) ⟨Nat.le_of_ble_eq_true rfl, Nat.le_of_ble_eq_true rfl⟩) (zz_pre0V hK hP hD hS hA hE 0 rfl rfl rfl) rfl rfl hl.1 rfl (lv_room (Nat.le_of_ble_eq_true rfl)) dX10_recruitOf_1 ⟨Nat.zero_le _, Nat.zero_le _⟩) hD hS hA (fun H locs hP hD hS => ?_)
  refine lv_aload_n hx hb dX10_recruitOf_4 rfl (lv_at hl 0 rfl) ?_
  refine va_get (D := D) (ci := 10) (v := .int (zz_gI S1 6)) (C := RX10) (T := TX10) (N := 34) hx hb hts inX10 hown hK hP 0 rfl rfl 12 (by decide) lk71 (fun _ h9 => h9) rfl dX10_recruitOf_5 ?_
  obtain ⟨v3, hv3, hf⟩ := zz_lts hf
  refine zz_ti hv3 ?_
  refine lv_istore_n (lv' := [(2, .int v3), (0, .ref (q 0)), (1, .int u0)]) hx hb dX10_recruitOf_8 rfl hl (by decide) rfl (fun ls hl => ?_)
  refine lv_iconst (v := (-1 : Int32)) hx hb dX10_recruitOf_9 (by decide) ?_
  refine lv_istore_n (lv' := [(3, .int (-1 : Int32)), (2, .int v3), (0, .ref (q 0)), (1, .int u0)]) hx hb dX10_recruitOf_10 rfl hl (by decide) rfl (fun ls hl => ?_)
  refine lv_iconst (v := (-1 : Int32)) hx hb dX10_recruitOf_11 (by decide) ?_
  refine lv_istore (lv' := [(4, .int (-1 : Int32)), (3, .int (-1 : Int32)), (2, .int v3), (0, .ref (q 0)), (1, .int u0)]) hx hb dX10_recruitOf_12 hl (by decide) rfl (fun ls hl => ?_)
  refine lv_iconst (v := (0 : Int32)) hx hb dX10_recruitOf_14 (by decide) ?_
  refine lv_istore (lv' := [(5, .int (0 : Int32)), (4, .int (-1 : Int32)), (3, .int (-1 : Int32)), (2, .int v3), (0, .ref (q 0)), (1, .int u0)]) hx hb dX10_recruitOf_15 hl (by decide) rfl (fun ls hl => ?_)
  have hLkL17_7 : ∀ (n17_7 : Nat) (x4 : Int32) (x5 : Int32) (x6 : Int32) (z7 : zz_M) (H : Heap) (locs : List Loc), va_P D vwCl (zw_10 q k z7) H → va_D A (zw_10 q k z7) → va_S A s.heap H locs → ∀ ls : Array Slot, lv_has ls 8 [(2, .int v3), (0, .ref (q 0)), (1, .int u0), (3, .int x4), (4, .int x5), (5, .int x6)] → pX10_recruitOf_L17_7 u0 F v3 n17_7 x4 x5 x6 z7 = some (r, o1) → W p l e rmX10_recruitOf s m args below meth c H locs 0 0 Q (F0 m 17 ls []) := by
    intro n17_7
    induction n17_7 with
    | zero =>
      intro x4 x5 x6 z7 H locs hP hD hS ls hl hf
      exact nomatch (show (none : Option _) = some _ from hf)
    | succ n17_7 ihkL17_7 =>
      intro x4 x5 x6 z7 H locs hP hD hS ls hl hf
      rw [pX10_recruitOf_L17_7] at hf
      refine lv_iload hx hb dX10_recruitOf_17 (lv_at hl 5 rfl) ?_
      refine lv_bipush (v := (10 : Int32)) hx hb dX10_recruitOf_19 (by decide) ?_
      refine lv_icmp_ge (tgt := 87) hx hb dX10_recruitOf_21 (by decide) (fun c21 => ?_) (fun c21 => ?_)
      · have hf := zz_ps hf c21
        refine lv_aload_n hx hb dX10_recruitOf_87 rfl (lv_at hl 1 rfl) ?_
        refine lv_iload_n hx hb dX10_recruitOf_88 rfl (lv_at hl 0 rfl) ?_
        obtain ⟨S9, hS9, hf⟩ := zz_lts hf
        refine va_put (D := D) (ci := 10) (v := .int v3) (ty := .int) (C := RX10) (T := TX10) (N := 34) hx hb hts inX10 tyX10 tyX10_ok nmX10 hown hK hP hD hS 0 rfl rfl 12 (by decide) lk71 (fun _ h9 => h9) rfl (by decide +kernel) rfl rfl (Nat.le_of_ble_eq_true rfl) dX10_recruitOf_89 (fun H locs hP hD hS => ?_)
        have hP : va_P D vwCl (zw_10 q k S9) H := by rw [hS9]; exact hP
        have hD : va_D A (zw_10 q k S9) := by rw [hS9]; exact hD
        refine lv_iload_n hx hb dX10_recruitOf_92 rfl (lv_at hl 2 rfl) ?_
        obtain ⟨v10, hv10, hf⟩ := zz_lts hf
        have hK11 : ∀ ls : Array Slot, lv_has ls 8 [] → W p l e rmX10_recruitOf s m args below meth c H locs 0 0 Q (F0 m 102 ls [.int v10]) := by
          intro ls hl
          obtain ⟨rfl, rfl⟩ := zz_e2 hf
          exact hret _ _ _ _ dX10_recruitOf_102 hP hD hS
        refine lv_if_ne (tgt := 100) hx hb dX10_recruitOf_93 (by decide) (fun c93 => ?_) (fun c93 => ?_)
        · refine lv_iload hx hb dX10_recruitOf_100 (lv_at hl 4 rfl) ?_
          refine zz_ti (show v10 = x5 by rw [hv10, if_neg c93]) ?_
          exact hK11 ls (lv_sub hl [] rfl)
        · refine lv_iload_n hx hb dX10_recruitOf_96 rfl (lv_at hl 3 rfl) ?_
          refine lv_goto (tgt := 102) hx hb dX10_recruitOf_97 (by decide) ?_
          refine zz_ti (show v10 = x4 by rw [hv10, if_pos c93]) ?_
          exact hK11 ls (lv_sub hl [] rfl)
      · have hf := zz_ng hf c21
        refine lv_aload_n hx hb dX10_recruitOf_24 rfl (lv_at hl 1 rfl) ?_
        refine lv_iload hx hb dX10_recruitOf_25 (lv_at hl 5 rfl) ?_
        obtain ⟨S12, hS12, hf⟩ := zz_lts hf
        refine va_put (D := D) (ci := 10) (v := .int x6) (ty := .int) (C := RX10) (T := TX10) (N := 34) hx hb hts inX10 tyX10 tyX10_ok nmX10 hown hK hP hD hS 0 rfl rfl 12 (by decide) lk71 (fun _ h9 => h9) rfl (by decide +kernel) rfl rfl (Nat.le_of_ble_eq_true rfl) dX10_recruitOf_27 (fun H locs hP hD hS => ?_)
        have hP : va_P D vwCl (zw_10 q k S12) H := by rw [hS12]; exact hP
        have hD : va_D A (zw_10 q k S12) := by rw [hS12]; exact hD
        refine lv_aload_n hx hb dX10_recruitOf_30 rfl (lv_at hl 1 rfl) ?_
        obtain ⟨r13, S14, hc15, hf⟩ := zz_b2s hf
        refine zz_ji0 (va_runV (As := []) (rest := []) hfx (zc_X10_lostNow l D tb q k F  S12 r13 S14 hc15 H.size) (cwV 0 hts gX10_recruitOf_X10_lostNow rfl rfl rfl (by decide +kernel) ⟨Nat.le_of_ble_eq_true rfl, Nat.le_of_ble_eq_true rfl⟩) (zz_pre0V hK hP hD hS hA hE 0 rfl rfl rfl) rfl rfl hl.1 rfl (lv_room (Nat.le_of_ble_eq_true rfl)) dX10_recruitOf_31 ⟨Nat.zero_le _, Nat.zero_le _⟩) hD hS hA (fun H locs hP hD hS => ?_)
        refine lv_istore (lv' := [(6, .int r13), (2, .int v3), (0, .ref (q 0)), (1, .int u0), (3, .int x4), (4, .int x5), (5, .int x6)]) hx hb dX10_recruitOf_34 hl (by decide) rfl (fun ls hl => ?_)
        refine lv_iload_n hx hb dX10_recruitOf_36 rfl (lv_at hl 4 rfl) ?_
        refine lv_iconst (v := (-1 : Int32)) hx hb dX10_recruitOf_37 (by decide) ?_
        obtain ⟨v16, hv16, hf⟩ := zz_lts hf
        have hK17 : ∀ ls : Array Slot, lv_has ls 8 [(6, .int r13), (2, .int v3), (0, .ref (q 0)), (1, .int u0), (3, .int x4), (4, .int x5), (5, .int x6)] → W p l e rmX10_recruitOf s m args below meth c H locs 0 0 Q (F0 m 53 ls [.int v16]) := by
          intro ls hl
          refine lv_istore (lv' := [(7, .int v16), (6, .int r13), (2, .int v3), (0, .ref (q 0)), (1, .int u0), (3, .int x4), (4, .int x5), (5, .int x6)]) hx hb dX10_recruitOf_53 hl (by decide) rfl (fun ls hl => ?_)
          refine lv_iload hx hb dX10_recruitOf_55 (lv_at hl 0 rfl) ?_
          obtain ⟨v18, hv18, hf⟩ := zz_lts hf
          have hK19 : ∀ ls : Array Slot, lv_has ls 8 [(7, .int v16), (6, .int r13), (2, .int v3), (0, .ref (q 0)), (1, .int u0), (4, .int x5), (5, .int x6)] → W p l e rmX10_recruitOf s m args below meth c H locs 0 0 Q (F0 m 66 ls [.int v18]) := by
            intro ls hl
            refine lv_istore_n (lv' := [(3, .int v18), (7, .int v16), (6, .int r13), (2, .int v3), (0, .ref (q 0)), (1, .int u0), (4, .int x5), (5, .int x6)]) hx hb dX10_recruitOf_66 rfl hl (by decide) rfl (fun ls hl => ?_)
            refine lv_iload hx hb dX10_recruitOf_67 (lv_at hl 1 rfl) ?_
            obtain ⟨v20, hv20, hf⟩ := zz_lts hf
            have hK21 : ∀ ls : Array Slot, lv_has ls 8 [(3, .int v18), (2, .int v3), (0, .ref (q 0)), (1, .int u0), (5, .int x6)] → W p l e rmX10_recruitOf s m args below meth c H locs 0 0 Q (F0 m 79 ls [.int v20]) := by
              intro ls hl
              refine lv_istore (lv' := [(4, .int v20), (3, .int v18), (2, .int v3), (0, .ref (q 0)), (1, .int u0), (5, .int x6)]) hx hb dX10_recruitOf_79 hl (by decide) rfl (fun ls hl => ?_)
              obtain ⟨v22, hv22, hf⟩ := zz_lts hf
              refine lv_iinc (v := v22) (lv' := [(5, .int v22), (4, .int v20), (3, .int v18), (2, .int v3), (0, .ref (q 0)), (1, .int u0)]) hx hb dX10_recruitOf_81 hl (k := 5) rfl (by rw [hv22]; rfl) (by decide) rfl (fun ls hl => ?_)
              refine lv_goto (tgt := 17) hx hb dX10_recruitOf_84 (by decide) ?_
              exact ihkL17_7 v18 v20 v22 S14 _ _ hP hD hS ls (lv_sub hl [3, 4, 5, 2, 1, 0] rfl) hf
            refine lv_if_eq (tgt := 77) hx hb dX10_recruitOf_69 (by decide) (fun c69 => ?_) (fun c69 => ?_)
            · refine lv_iload hx hb dX10_recruitOf_77 (lv_at hl 6 rfl) ?_
              refine zz_ti (show v20 = x5 by rw [hv20, if_pos c69]) ?_
              exact hK21 ls (lv_sub hl [0, 3, 4, 5, 7] rfl)
            · refine lv_iload hx hb dX10_recruitOf_72 (lv_at hl 2 rfl) ?_
              refine lv_goto (tgt := 79) hx hb dX10_recruitOf_74 (by decide) ?_
              refine zz_ti (show v20 = r13 by rw [hv20, if_neg c69]) ?_
              exact hK21 ls (lv_sub hl [0, 3, 4, 5, 7] rfl)
          refine lv_if_eq (tgt := 65) hx hb dX10_recruitOf_57 (by decide) (fun c57 => ?_) (fun c57 => ?_)
          · refine lv_iload_n hx hb dX10_recruitOf_65 rfl (lv_at hl 5 rfl) ?_
            refine zz_ti (show v18 = x4 by rw [hv18, if_pos c57]) ?_
            exact hK19 ls (lv_sub hl [0, 1, 2, 3, 4, 6, 7] rfl)
          · refine lv_iload hx hb dX10_recruitOf_60 (lv_at hl 7 rfl) ?_
            refine lv_goto (tgt := 66) hx hb dX10_recruitOf_62 (by decide) ?_
            refine zz_ti (show v18 = x6 by rw [hv18, if_neg c57]) ?_
            exact hK19 ls (lv_sub hl [0, 1, 2, 3, 4, 6, 7] rfl)
        refine lv_icmp_eq (tgt := 48) hx hb dX10_recruitOf_38 (by decide) (fun c38 => ?_) (fun c38 => ?_)
        · refine lv_iconst (v := (1 : Int32)) hx hb dX10_recruitOf_48 (by decide) ?_
          refine lv_goto (tgt := 53) hx hb dX10_recruitOf_49 (by decide) ?_
          refine zz_ti (show v16 = (1 : Int32) by rw [hv16, if_pos c38]) ?_
          exact hK17 ls (lv_sub hl [0, 1, 2, 3, 4, 5, 6] rfl)
        · refine lv_iload hx hb dX10_recruitOf_41 (lv_at hl 0 rfl) ?_
          refine lv_iload hx hb dX10_recruitOf_43 (lv_at hl 5 rfl) ?_
          refine lv_icmp_ge (tgt := 52) hx hb dX10_recruitOf_45 (by decide) (fun c45 => ?_) (fun c45 => ?_)
          · refine lv_iconst (v := (0 : Int32)) hx hb dX10_recruitOf_52 (by decide) ?_
            refine zz_ti (show v16 = (0 : Int32) by rw [hv16, if_neg c38, if_pos c45]) ?_
            exact hK17 ls (lv_sub hl [0, 1, 2, 3, 4, 5, 6] rfl)
          · refine lv_iconst (v := (1 : Int32)) hx hb dX10_recruitOf_48 (by decide) ?_
            refine lv_goto (tgt := 53) hx hb dX10_recruitOf_49 (by decide) ?_
            refine zz_ti (show v16 = (1 : Int32) by rw [hv16, if_neg c38, if_neg c45]) ?_
            exact hK17 ls (lv_sub hl [0, 1, 2, 3, 4, 5, 6] rfl)
  exact hLkL17_7 F (-1 : Int32) (-1 : Int32) (0 : Int32) S1 _ _ hP hD hS ls (lv_sub hl [3, 4, 5, 2, 1, 0] rfl) hf
def rmX10_recruit : Room := { frames := 7, cells := 0, slots := 0, locals := 163 }
set_option maxHeartbeats 4000000 in
set_option maxRecDepth 100000 in
theorem zc_X10_recruit (l : Launch) (D : va_G) (tb : Nat → Nat) (q : Nat → Nat) (k : Nat → ClassId) (F : Nat) (u0 : Int32) (S : zz_M) (r : Int32) (o1 : zz_M) (hf : pX10_recruit F u0 S = some (r, o1)) : zz_Mi l yX10_recruit wsX10_recruit rmX10_recruit D tb [((k 1), .int), ((k 2), .int), ((k 3), .int), ((k 4), .int), ((k 5), .int), ((k 6), .int), ((k 7), .int), ((k 8), .boolean), ((k 9), .int), ((k 10), .int), ((k 11), .int), ((k 12), .int), ((k 13), .int), ((k 14), .int), ((k 15), .int), ((k 16), .boolean), ((k 17), .int), ((k 18), .int), ((k 19), .int), ((k 20), .int)] [.ref (q 0), .int u0] (zw_10 q k S) (zw_10 q k o1) r := by
  refine zz_ofi (cc := cX10_recruit) (maxL := 2) (by decide) rfl (Nat.le_of_ble_eq_true rfl) ?_
  intro p e s m args below meth c A Q hfx hK hA hE hret H locs hP hD hS ls hl
  obtain ⟨hx, hb, hml, hown, hts⟩ := id hfx
  have hl : lv_has ls 2 [(0, .ref (q 0)), (1, .int u0)] := hl
  unfold pX10_recruit at hf
  refine lv_iload_n hx hb dX10_recruit_0 rfl (lv_at hl 1 rfl) ?_
  refine lv_iconst (v := (0 : Int32)) hx hb dX10_recruit_1 (by decide) ?_
  refine lv_iconst (v := (1 : Int32)) hx hb dX10_recruit_2 (by decide) ?_
  obtain ⟨r1, hc2, hf⟩ := zz_b1s hf
  refine zz_ji (va_runS (As := [.int u0, .int (0 : Int32), .int (1 : Int32)]) (rest := []) hfx (zc_X10_in l D tb  F u0 (0 : Int32) (1 : Int32)  r1 hc2 H.size) (va_cwS 3 hts gX10_recruit_X10_in rfl rfl rfl (by decide +kernel) ⟨Nat.le_of_ble_eq_true rfl, Nat.le_of_ble_eq_true rfl⟩) (zz_preS hK hP hD hS hA hE [] [] rfl (by decide) rfl) rfl rfl hl.1 rfl (lv_room (Nat.le_of_ble_eq_true rfl)) dX10_recruit_3 ⟨Nat.zero_le _, Nat.zero_le _⟩) hP hD hS hA [] rfl rfl (fun H locs hP hD hS => ?_)
  have hP : va_P D vwCl (zw_10 q k S) H := hP
  have hD : va_D A (zw_10 q k S) := hD
  obtain ⟨j19_5, hj19_5, hf⟩ := zz_lts hf
  have Kj19_5 : ∀ (y3 : Int32) (z4 : zz_M) (H : Heap) (locs : List Loc), va_P D vwCl (zw_10 q k z4) H → va_D A (zw_10 q k z4) → va_S A s.heap H locs → ∀ ls : Array Slot, lv_has ls 2 [] → j19_5 y3 z4 = some (r, o1) → W p l e rmX10_recruit s m args below meth c H locs 0 0 Q (F0 m 19 ls [.int y3]) := by
    intro y3 z4 H locs hP hD hS ls hl hf
    rw [hj19_5] at hf
    obtain ⟨rfl, rfl⟩ := zz_e2 hf
    exact hret _ _ _ _ dX10_recruit_19 hP hD hS
  refine lv_if_eq (tgt := 17) hx hb dX10_recruit_6 (by decide) (fun c6 => ?_) (fun c6 => ?_)
  · have hf := zz_ps hf c6
    refine lv_bipush (v := (-2 : Int32)) hx hb dX10_recruit_17 (by decide) ?_
    exact Kj19_5 (-2 : Int32) S _ _ hP hD hS ls (lv_sub hl [] rfl) hf
  · have hf := zz_ng hf c6
    refine lv_aload_n hx hb dX10_recruit_9 rfl (lv_at hl 0 rfl) ?_
    refine lv_iload_n hx hb dX10_recruit_10 rfl (lv_at hl 1 rfl) ?_
    obtain ⟨r6, S7, hc8, hf⟩ := zz_b2s hf
    refine zz_ji0 (va_runV (As := [.int u0]) (rest := []) hfx (zc_X10_recruitOf l D tb q k F u0 S r6 S7 hc8 H.size) (cwV 1 hts gX10_recruit_X10_recruitOf rfl rfl rfl (by decide +kernel) ⟨Nat.le_of_ble_eq_true rfl, Nat.le_of_ble_eq_true rfl⟩) (zz_pre0V hK hP hD hS hA hE 0 rfl rfl rfl) rfl rfl hl.1 rfl (lv_room (Nat.le_of_ble_eq_true rfl)) dX10_recruit_11 ⟨Nat.zero_le _, Nat.zero_le _⟩) hD hS hA (fun H locs hP hD hS => ?_)
    refine lv_goto (tgt := 19) hx hb dX10_recruit_14 (by decide) ?_
    exact Kj19_5 r6 S7 _ _ hP hD hS ls (lv_sub hl [] rfl) hf
def rmX10_missed : Room := { frames := 1, cells := 0, slots := 0, locals := 22 }
set_option maxHeartbeats 4000000 in
set_option maxRecDepth 100000 in
theorem zc_X10_missed (l : Launch) (D : va_G) (tb : Nat → Nat) (q : Nat → Nat) (k : Nat → ClassId) (F : Nat) (u0 : Int32) (u1 : Int32) (S : zz_M) (r : Int32) (o1 : zz_M) (hf : pX10_missed F u0 u1 S = some (r, o1)) : zz_Mi l yX10_missed wsX10_missed rmX10_missed D tb [((k 1), .int), ((k 2), .int), ((k 3), .int), ((k 4), .int), ((k 5), .int), ((k 6), .int), ((k 7), .int), ((k 8), .boolean), ((k 9), .int), ((k 10), .int), ((k 11), .int), ((k 12), .int), ((k 13), .int), ((k 14), .int), ((k 15), .int), ((k 16), .boolean), ((k 17), .int), ((k 18), .int), ((k 19), .int), ((k 20), .int)] [.ref (q 0), .int u0, .int u1] (zw_10 q k S) (zw_10 q k o1) r := by
  refine zz_ofi (cc := cX10_missed) (maxL := 3) (by decide) rfl (Nat.le_of_ble_eq_true rfl) ?_
  intro p e s m args below meth c A Q hfx hK hA hE hret H locs hP hD hS ls hl
  obtain ⟨hx, hb, hml, hown, hts⟩ := id hfx
  have inX10 : ∀ w ∈ u_ws RX10 TX10 34, w ∈ wsX10_missed := by decide +kernel
  have lk241 := hts (.fieldLink RX10 241 "CatBeatModel" "misses" "I") (by decide +kernel)
  have lk47 := hts (.fieldLink RX10 47 "CatBeatModel" "missCell" "[I") (by decide +kernel)
  have lk50 := hts (.fieldLink RX10 50 "CatBeatModel" "missIs" "[I") (by decide +kernel)
  have hl : lv_has ls 3 [(0, .ref (q 0)), (1, .int u0), (2, .int u1)] := hl
  unfold pX10_missed at hf
  refine lv_iload_n hx hb dX10_missed_0 rfl (lv_at hl 1 rfl) ?_
  refine lv_iconst (v := (0 : Int32)) hx hb dX10_missed_1 (by decide) ?_
  refine lv_bipush (v := (35 : Int32)) hx hb dX10_missed_2 (by decide) ?_
  obtain ⟨r1, hc2, hf⟩ := zz_b1s hf
  refine zz_ji (va_runS (As := [.int u0, .int (0 : Int32), .int (35 : Int32)]) (rest := []) hfx (zc_X10_in l D tb  F u0 (0 : Int32) (35 : Int32)  r1 hc2 H.size) (va_cwS 3 hts gX10_missed_X10_in rfl rfl rfl (by decide +kernel) ⟨Nat.le_of_ble_eq_true rfl, Nat.le_of_ble_eq_true rfl⟩) (zz_preS hK hP hD hS hA hE [] [] rfl (by decide) rfl) rfl rfl hl.1 rfl (lv_room (Nat.le_of_ble_eq_true rfl)) dX10_missed_4 ⟨Nat.zero_le _, Nat.zero_le _⟩) hP hD hS hA [] rfl rfl (fun H locs hP hD hS => ?_)
  have hP : va_P D vwCl (zw_10 q k S) H := hP
  have hD : va_D A (zw_10 q k S) := hD
  obtain ⟨j19_3, hj19_3, hf⟩ := zz_lts hf
  have Kj19_3 : ∀  (H : Heap) (locs : List Loc), va_P D vwCl (zw_10 q k S) H → va_D A (zw_10 q k S) → va_S A s.heap H locs → ∀ ls : Array Slot, lv_has ls 3 [] → j19_3 () = some (r, o1) → W p l e rmX10_missed s m args below meth c H locs 0 0 Q (F0 m 19 ls []) := by
    intro  H locs hP hD hS ls hl hf
    rw [hj19_3] at hf
    refine lv_bipush (v := (-2 : Int32)) hx hb dX10_missed_19 (by decide) ?_
    obtain ⟨rfl, rfl⟩ := zz_e2 hf
    exact hret _ _ _ _ dX10_missed_21 hP hD hS
  refine lv_if_eq (tgt := 19) hx hb dX10_missed_7 (by decide) (fun c7 => ?_) (fun c7 => ?_)
  · have hf := zz_ps hf c7
    exact Kj19_3  _ _ hP hD hS ls (lv_sub hl [] rfl) hf
  · have hf := zz_ng hf c7
    refine lv_iload_n hx hb dX10_missed_10 rfl (lv_at hl 2 rfl) ?_
    refine lv_iconst (v := (0 : Int32)) hx hb dX10_missed_11 (by decide) ?_
    refine lv_iconst (v := (1 : Int32)) hx hb dX10_missed_12 (by decide) ?_
    obtain ⟨r4, hc5, hf⟩ := zz_b1s hf
    refine zz_ji (va_runS (As := [.int u1, .int (0 : Int32), .int (1 : Int32)]) (rest := []) hfx (zc_X10_in l D tb  F u1 (0 : Int32) (1 : Int32)  r4 hc5 H.size) (va_cwS 3 hts gX10_missed_X10_in rfl rfl rfl (by decide +kernel) ⟨Nat.le_of_ble_eq_true rfl, Nat.le_of_ble_eq_true rfl⟩) (zz_preS hK hP hD hS hA hE [] [] rfl (by decide) rfl) rfl rfl hl.1 rfl (lv_room (Nat.le_of_ble_eq_true rfl)) dX10_missed_13 ⟨Nat.zero_le _, Nat.zero_le _⟩) hP hD hS hA [] rfl rfl (fun H locs hP hD hS => ?_)
    have hP : va_P D vwCl (zw_10 q k S) H := hP
    have hD : va_D A (zw_10 q k S) := hD
    refine lv_if_ne (tgt := 22) hx hb dX10_missed_16 (by decide) (fun c16 => ?_) (fun c16 => ?_)
    · have hf := zz_ng hf c16
      refine lv_aload_n hx hb dX10_missed_22 rfl (lv_at hl 0 rfl) ?_
      refine va_get (D := D) (ci := 10) (v := .int (zz_gI S 12)) (C := RX10) (T := TX10) (N := 34) hx hb hts inX10 hown hK hP 0 rfl rfl 24 (by decide) lk241 (fun _ h9 => h9) rfl dX10_missed_23 ?_
      refine lv_bipush (v := (8 : Int32)) hx hb dX10_missed_26 (by decide) ?_
      refine lv_icmp_ne (tgt := 34) hx hb dX10_missed_28 (by decide) (fun c28 => ?_) (fun c28 => ?_)
      · have hf := zz_ng hf c28
        refine lv_aload_n hx hb dX10_missed_34 rfl (lv_at hl 0 rfl) ?_
        refine va_get (D := D) (ci := 10) (v := .ref (q 13)) (C := RX10) (T := TX10) (N := 34) hx hb hts inX10 hown hK hP 0 rfl rfl 25 (by decide) lk47 (fun _ h9 => h9) rfl dX10_missed_35 ?_
        refine lv_aload_n hx hb dX10_missed_38 rfl (lv_at hl 0 rfl) ?_
        refine va_get (D := D) (ci := 10) (v := .int (zz_gI S 12)) (C := RX10) (T := TX10) (N := 34) hx hb hts inX10 hown hK hP 0 rfl rfl 24 (by decide) lk241 (fun _ h9 => h9) rfl dX10_missed_39 ?_
        refine lv_iload_n hx hb dX10_missed_42 rfl (lv_at hl 1 rfl) ?_
        obtain ⟨hg6, hf⟩ := zz_gd hf
        obtain ⟨S7, hS7, hf⟩ := zz_lts hf
        refine va_iast hx hb hK hP hD hS 13 12 rfl rfl hg6 dX10_missed_43 (fun H locs hP hD hS => ?_)
        have hP : va_P D vwCl (zw_10 q k S7) H := by rw [hS7]; exact hP
        have hD : va_D A (zw_10 q k S7) := by rw [hS7]; exact hD
        refine lv_aload_n hx hb dX10_missed_44 rfl (lv_at hl 0 rfl) ?_
        refine va_get (D := D) (ci := 10) (v := .ref (q 14)) (C := RX10) (T := TX10) (N := 34) hx hb hts inX10 hown hK hP 0 rfl rfl 26 (by decide) lk50 (fun _ h9 => h9) rfl dX10_missed_45 ?_
        refine lv_aload_n hx hb dX10_missed_48 rfl (lv_at hl 0 rfl) ?_
        refine va_get (D := D) (ci := 10) (v := .int (zz_gI S7 12)) (C := RX10) (T := TX10) (N := 34) hx hb hts inX10 hown hK hP 0 rfl rfl 24 (by decide) lk241 (fun _ h9 => h9) rfl dX10_missed_49 ?_
        refine lv_iload_n hx hb dX10_missed_52 rfl (lv_at hl 2 rfl) ?_
        obtain ⟨hg8, hf⟩ := zz_gd hf
        obtain ⟨S9, hS9, hf⟩ := zz_lts hf
        refine va_iast hx hb hK hP hD hS 14 13 rfl rfl hg8 dX10_missed_53 (fun H locs hP hD hS => ?_)
        have hP : va_P D vwCl (zw_10 q k S9) H := by rw [hS9]; exact hP
        have hD : va_D A (zw_10 q k S9) := by rw [hS9]; exact hD
        refine lv_aload_n hx hb dX10_missed_54 rfl (lv_at hl 0 rfl) ?_
        refine lv_dup hx hb dX10_missed_55 rfl ?_
        refine va_get (D := D) (ci := 10) (v := .int (zz_gI S9 12)) (C := RX10) (T := TX10) (N := 34) hx hb hts inX10 hown hK hP 0 rfl rfl 24 (by decide) lk241 (fun _ h9 => h9) rfl dX10_missed_56 ?_
        refine lv_iconst (v := (1 : Int32)) hx hb dX10_missed_59 (by decide) ?_
        refine lv_iadd hx hb dX10_missed_60 ?_
        obtain ⟨S10, hS10, hf⟩ := zz_lts hf
        refine va_put (D := D) (ci := 10) (v := .int ((zz_gI S9 12) + (1 : Int32))) (ty := .int) (C := RX10) (T := TX10) (N := 34) hx hb hts inX10 tyX10 tyX10_ok nmX10 hown hK hP hD hS 0 rfl rfl 24 (by decide) lk241 (fun _ h9 => h9) rfl (by decide +kernel) rfl rfl (Nat.le_of_ble_eq_true rfl) dX10_missed_61 (fun H locs hP hD hS => ?_)
        have hP : va_P D vwCl (zw_10 q k S10) H := by rw [hS10]; exact hP
        have hD : va_D A (zw_10 q k S10) := by rw [hS10]; exact hD
        refine lv_aload_n hx hb dX10_missed_64 rfl (lv_at hl 0 rfl) ?_
        refine va_get (D := D) (ci := 10) (v := .int (zz_gI S10 12)) (C := RX10) (T := TX10) (N := 34) hx hb hts inX10 hown hK hP 0 rfl rfl 24 (by decide) lk241 (fun _ h9 => h9) rfl dX10_missed_65 ?_
        obtain ⟨rfl, rfl⟩ := zz_e2 hf
        exact hret _ _ _ _ dX10_missed_68 hP hD hS
      · have hf := zz_ps hf c28
        refine lv_bipush (v := (-4 : Int32)) hx hb dX10_missed_31 (by decide) ?_
        obtain ⟨rfl, rfl⟩ := zz_e2 hf
        exact hret _ _ _ _ dX10_missed_33 hP hD hS
    · have hf := zz_ps hf c16
      exact Kj19_3  _ _ hP hD hS ls (lv_sub hl [] rfl) hf
def rmX10_forget : Room := { frames := 0, cells := 0, slots := 0, locals := 0 }
set_option maxHeartbeats 4000000 in
set_option maxRecDepth 100000 in
theorem zc_X10_forget (l : Launch) (D : va_G) (tb : Nat → Nat) (q : Nat → Nat) (k : Nat → ClassId) (F : Nat)  (S : zz_M) (r : Int32) (o1 : zz_M) (hf : pX10_forget F S = some (r, o1)) : zz_Mi l yX10_forget wsX10_forget rmX10_forget D tb [((k 1), .int), ((k 2), .int), ((k 3), .int), ((k 4), .int), ((k 5), .int), ((k 6), .int), ((k 7), .int), ((k 8), .boolean), ((k 9), .int), ((k 10), .int), ((k 11), .int), ((k 12), .int), ((k 13), .int), ((k 14), .int), ((k 15), .int), ((k 16), .boolean), ((k 17), .int), ((k 18), .int), ((k 19), .int), ((k 20), .int)] [.ref (q 0)] (zw_10 q k S) (zw_10 q k o1) r := by
  refine zz_ofi (cc := cX10_forget) (maxL := 2) (by decide) rfl (Nat.le_of_ble_eq_true rfl) ?_
  intro p e s m args below meth c A Q hfx hK hA hE hret H locs hP hD hS ls hl
  obtain ⟨hx, hb, hml, hown, hts⟩ := id hfx
  have inX10 : ∀ w ∈ u_ws RX10 TX10 34, w ∈ wsX10_forget := by decide +kernel
  have lk241 := hts (.fieldLink RX10 241 "CatBeatModel" "misses" "I") (by decide +kernel)
  have hl : lv_has ls 2 [(0, .ref (q 0))] := hl
  unfold pX10_forget at hf
  refine lv_aload_n hx hb dX10_forget_0 rfl (lv_at hl 0 rfl) ?_
  refine va_get (D := D) (ci := 10) (v := .int (zz_gI S 12)) (C := RX10) (T := TX10) (N := 34) hx hb hts inX10 hown hK hP 0 rfl rfl 24 (by decide) lk241 (fun _ h9 => h9) rfl dX10_forget_1 ?_
  obtain ⟨v1, hv1, hf⟩ := zz_lts hf
  refine zz_ti hv1 ?_
  refine lv_istore_n (lv' := [(1, .int v1), (0, .ref (q 0))]) hx hb dX10_forget_4 rfl hl (by decide) rfl (fun ls hl => ?_)
  refine lv_aload_n hx hb dX10_forget_5 rfl (lv_at hl 1 rfl) ?_
  refine lv_iconst (v := (0 : Int32)) hx hb dX10_forget_6 (by decide) ?_
  obtain ⟨S2, hS2, hf⟩ := zz_lts hf
  refine va_put (D := D) (ci := 10) (v := .int (0 : Int32)) (ty := .int) (C := RX10) (T := TX10) (N := 34) hx hb hts inX10 tyX10 tyX10_ok nmX10 hown hK hP hD hS 0 rfl rfl 24 (by decide) lk241 (fun _ h9 => h9) rfl (by decide +kernel) rfl rfl (Nat.le_of_ble_eq_true rfl) dX10_forget_7 (fun H locs hP hD hS => ?_)
  have hP : va_P D vwCl (zw_10 q k S2) H := by rw [hS2]; exact hP
  have hD : va_D A (zw_10 q k S2) := by rw [hS2]; exact hD
  refine lv_iload_n hx hb dX10_forget_10 rfl (lv_at hl 0 rfl) ?_
  obtain ⟨rfl, rfl⟩ := zz_e2 hf
  exact hret _ _ _ _ dX10_forget_11 hP hD hS
def rmX10_isSheet : Room := { frames := 1, cells := 0, slots := 0, locals := 22 }
set_option maxHeartbeats 4000000 in
set_option maxRecDepth 100000 in
theorem zc_X10_isSheet (l : Launch) (D : va_G) (tb : Nat → Nat)  (F : Nat) (u0 : Int32)  (r : Int32) (hf : pX10_isSheet F u0 = some r) : zz_Mi l yX10_isSheet wsX10_isSheet rmX10_isSheet D tb [] [.int u0] zw_none zw_none r := by
  refine zz_ofz (cc := cX10_isSheet) (maxL := 1) (by decide) rfl (Nat.le_of_ble_eq_true rfl) ?_
  intro p e s m args below meth c A Q hfx hK hA hE hret H locs hP hD hS ls hl
  obtain ⟨hx, hb, hml, hown, hts⟩ := id hfx
  have hl : lv_has ls 1 [(0, .int u0)] := hl
  unfold pX10_isSheet at hf
  refine lv_iload_n hx hb dX10_isSheet_0 rfl (lv_at hl 0 rfl) ?_
  refine lv_iconst (v := (0 : Int32)) hx hb dX10_isSheet_1 (by decide) ?_
  refine lv_iconst (v := (3 : Int32)) hx hb dX10_isSheet_2 (by decide) ?_
  obtain ⟨r1, hc2, hf⟩ := zz_b1s hf
  refine zz_ji (va_runS (As := [.int u0, .int (0 : Int32), .int (3 : Int32)]) (rest := []) hfx (zc_X10_in l D tb  F u0 (0 : Int32) (3 : Int32)  r1 hc2 H.size) (va_cwS 3 hts gX10_isSheet_X10_in rfl rfl rfl (by decide +kernel) ⟨Nat.le_of_ble_eq_true rfl, Nat.le_of_ble_eq_true rfl⟩) (zz_preS hK hP hD hS hA hE [] [] rfl (by decide) rfl) rfl rfl hl.1 rfl (lv_room (Nat.le_of_ble_eq_true rfl)) dX10_isSheet_3 ⟨Nat.zero_le _, Nat.zero_le _⟩) hP hD hS hA [] rfl rfl (fun H locs hP hD hS => ?_)
  have hP : va_P D vwCl zw_none H := hP
  have hD : va_D A zw_none := hD
  obtain ⟨hg3, hf⟩ := zz_gd hf
  obtain rfl := zz_e1 hf
  exact hret _ _ _ _ (zz_nb hg3) dX10_isSheet_6 hP hD hS
def rmX10_meets : Room := { frames := 0, cells := 0, slots := 0, locals := 0 }
set_option maxHeartbeats 4000000 in
set_option maxRecDepth 100000 in
theorem zc_X10_meets (l : Launch) (D : va_G) (tb : Nat → Nat) (q : Nat → Nat) (k : Nat → ClassId) (F : Nat) (u0 : Int32) (S : zz_M) (r : Int32) (o1 : zz_M) (hf : pX10_meets F u0 S = some (r, o1)) : zz_Mi l yX10_meets wsX10_meets rmX10_meets D tb [((k 1), .int), ((k 2), .int), ((k 3), .int), ((k 4), .int), ((k 5), .int), ((k 6), .int), ((k 7), .int), ((k 8), .boolean), ((k 9), .int), ((k 10), .int), ((k 11), .int), ((k 12), .int), ((k 13), .int), ((k 14), .int), ((k 15), .int), ((k 16), .boolean), ((k 17), .int), ((k 18), .int), ((k 19), .int), ((k 20), .int)] [.ref (q 0), .int u0] (zw_10 q k S) (zw_10 q k o1) r := by
  refine zz_ofi (cc := cX10_meets) (maxL := 2) (by decide) rfl (Nat.le_of_ble_eq_true rfl) ?_
  intro p e s m args below meth c A Q hfx hK hA hE hret H locs hP hD hS ls hl
  obtain ⟨hx, hb, hml, hown, hts⟩ := id hfx
  have inX10 : ∀ w ∈ u_ws RX10 TX10 34, w ∈ wsX10_meets := by decide +kernel
  have lk283 := hts (.fieldLink RX10 283 "CatBeatModel" "finding" "I") (by decide +kernel)
  have hl : lv_has ls 2 [(0, .ref (q 0)), (1, .int u0)] := hl
  unfold pX10_meets at hf
  refine lv_aload_n hx hb dX10_meets_0 rfl (lv_at hl 0 rfl) ?_
  refine lv_iload_n hx hb dX10_meets_1 rfl (lv_at hl 1 rfl) ?_
  obtain ⟨S1, hS1, hf⟩ := zz_lts hf
  refine va_put (D := D) (ci := 10) (v := .int u0) (ty := .int) (C := RX10) (T := TX10) (N := 34) hx hb hts inX10 tyX10 tyX10_ok nmX10 hown hK hP hD hS 0 rfl rfl 33 (by decide) lk283 (fun _ h9 => h9) rfl (by decide +kernel) rfl rfl (Nat.le_of_ble_eq_true rfl) dX10_meets_2 (fun H locs hP hD hS => ?_)
  have hP : va_P D vwCl (zw_10 q k S1) H := by rw [hS1]; exact hP
  have hD : va_D A (zw_10 q k S1) := by rw [hS1]; exact hD
  refine lv_bipush (v := (-10 : Int32)) hx hb dX10_meets_5 (by decide) ?_
  refine lv_iload_n hx hb dX10_meets_7 rfl (lv_at hl 1 rfl) ?_
  refine lv_isub hx hb dX10_meets_8 ?_
  obtain ⟨rfl, rfl⟩ := zz_e2 hf
  exact hret _ _ _ _ dX10_meets_9 hP hD hS
def rmX10_read : Room := { frames := 2, cells := 0, slots := 0, locals := 44 }
set_option maxHeartbeats 4000000 in
set_option maxRecDepth 100000 in
theorem zc_X10_read (l : Launch) (D : va_G) (tb : Nat → Nat) (q : Nat → Nat) (k : Nat → ClassId) (F : Nat) (u0 : Int32) (S : zz_M) (r : Int32) (o1 : zz_M) (hf : pX10_read F u0 S = some (r, o1)) : zz_Mi l yX10_read wsX10_read rmX10_read D tb [((k 1), .int), ((k 2), .int), ((k 3), .int), ((k 4), .int), ((k 5), .int), ((k 6), .int), ((k 7), .int), ((k 8), .boolean), ((k 9), .int), ((k 10), .int), ((k 11), .int), ((k 12), .int), ((k 13), .int), ((k 14), .int), ((k 15), .int), ((k 16), .boolean), ((k 17), .int), ((k 18), .int), ((k 19), .int), ((k 20), .int)] [.ref (q 0), .int u0] (zw_10 q k S) (zw_10 q k o1) r := by
  refine zz_ofi (cc := cX10_read) (maxL := 3) (by decide) rfl (Nat.le_of_ble_eq_true rfl) ?_
  intro p e s m args below meth c A Q hfx hK hA hE hret H locs hP hD hS ls hl
  obtain ⟨hx, hb, hml, hown, hts⟩ := id hfx
  have inX10 : ∀ w ∈ u_ws RX10 TX10 34, w ∈ wsX10_read := by decide +kernel
  have lk56 := hts (.fieldLink RX10 56 "CatBeatModel" "isThere" "[Z") (by decide +kernel)
  have lk62 := hts (.fieldLink RX10 62 "CatBeatModel" "sizes" "[I") (by decide +kernel)
  have lk65 := hts (.fieldLink RX10 65 "CatBeatModel" "items" "[I") (by decide +kernel)
  have hl : lv_has ls 3 [(0, .ref (q 0)), (1, .int u0)] := hl
  unfold pX10_read at hf
  refine lv_iload_n hx hb dX10_read_0 rfl (lv_at hl 1 rfl) ?_
  obtain ⟨r1, hc2, hf⟩ := zz_b1s hf
  refine zz_ji (va_runS (As := [.int u0]) (rest := []) hfx (zc_X10_isSheet l D tb  F u0  r1 hc2 H.size) (va_cwS 1 hts gX10_read_X10_isSheet rfl rfl rfl (by decide +kernel) ⟨Nat.le_of_ble_eq_true rfl, Nat.le_of_ble_eq_true rfl⟩) (zz_preS hK hP hD hS hA hE [] [] rfl (by decide) rfl) rfl rfl hl.1 rfl (lv_room (Nat.le_of_ble_eq_true rfl)) dX10_read_1 ⟨Nat.zero_le _, Nat.zero_le _⟩) hP hD hS hA [] rfl rfl (fun H locs hP hD hS => ?_)
  have hP : va_P D vwCl (zw_10 q k S) H := hP
  have hD : va_D A (zw_10 q k S) := hD
  refine lv_if_ne (tgt := 10) hx hb dX10_read_4 (by decide) (fun c4 => ?_) (fun c4 => ?_)
  · have hf := zz_ng hf c4
    refine lv_aload_n hx hb dX10_read_10 rfl (lv_at hl 0 rfl) ?_
    refine va_get (D := D) (ci := 10) (v := .ref (q 16)) (C := RX10) (T := TX10) (N := 34) hx hb hts inX10 hown hK hP 0 rfl rfl 28 (by decide) lk56 (fun _ h9 => h9) rfl dX10_read_11 ?_
    refine lv_iload_n hx hb dX10_read_14 rfl (lv_at hl 1 rfl) ?_
    obtain ⟨hg3, hf⟩ := zz_gd hf
    refine va_zald hx hb hK hP 16 15 rfl rfl hg3 dX10_read_15 ?_
    refine lv_if_ne (tgt := 25) hx hb dX10_read_16 (by decide) (fun c16 => ?_) (fun c16 => ?_)
    · have hf := zz_ng hf c16
      refine lv_iconst (v := (0 : Int32)) hx hb dX10_read_25 (by decide) ?_
      refine lv_istore_n (lv' := [(2, .int (0 : Int32)), (0, .ref (q 0)), (1, .int u0)]) hx hb dX10_read_26 rfl hl (by decide) rfl (fun ls hl => ?_)
      have hLkL27_5 : ∀ (n27_5 : Nat) (x4 : Int32) (z5 : zz_M) (H : Heap) (locs : List Loc), va_P D vwCl (zw_10 q k z5) H → va_D A (zw_10 q k z5) → va_S A s.heap H locs → ∀ ls : Array Slot, lv_has ls 3 [(0, .ref (q 0)), (1, .int u0), (2, .int x4)] → pX10_read_L27_5 u0 F n27_5 x4 z5 = some (r, o1) → W p l e rmX10_read s m args below meth c H locs 0 0 Q (F0 m 27 ls []) := by
        intro n27_5
        induction n27_5 with
        | zero =>
          intro x4 z5 H locs hP hD hS ls hl hf
          exact nomatch (show (none : Option _) = some _ from hf)
        | succ n27_5 ihkL27_5 =>
          intro x4 z5 H locs hP hD hS ls hl hf
          rw [pX10_read_L27_5] at hf
          refine lv_iconst (v := (2 : Int32)) hx hb dX10_read_27 (by decide) ?_
          refine lv_iload_n hx hb dX10_read_28 rfl (lv_at hl 2 rfl) ?_
          refine lv_imul hx hb dX10_read_29 ?_
          refine lv_iconst (v := (1 : Int32)) hx hb dX10_read_30 (by decide) ?_
          refine lv_iadd hx hb dX10_read_31 ?_
          refine lv_aload_n hx hb dX10_read_32 rfl (lv_at hl 0 rfl) ?_
          refine va_get (D := D) (ci := 10) (v := .ref (q 18)) (C := RX10) (T := TX10) (N := 34) hx hb hts inX10 hown hK hP 0 rfl rfl 30 (by decide) lk62 (fun _ h9 => h9) rfl dX10_read_33 ?_
          refine lv_iload_n hx hb dX10_read_36 rfl (lv_at hl 1 rfl) ?_
          obtain ⟨hg7, hf⟩ := zz_gd hf
          refine va_iald hx hb hK hP 18 17 rfl rfl hg7 dX10_read_37 ?_
          obtain ⟨j82_9, hj82_9, hf⟩ := zz_lts hf
          have Kj82_9 : ∀ (z8 : zz_M) (H : Heap) (locs : List Loc), va_P D vwCl (zw_10 q k z8) H → va_D A (zw_10 q k z8) → va_S A s.heap H locs → ∀ ls : Array Slot, lv_has ls 3 [(2, .int x4)] → j82_9 z8 = some (r, o1) → W p l e rmX10_read s m args below meth c H locs 0 0 Q (F0 m 82 ls []) := by
            intro z8 H locs hP hD hS ls hl hf
            rw [hj82_9] at hf
            refine lv_iload_n hx hb dX10_read_82 rfl (lv_at hl 0 rfl) ?_
            obtain ⟨rfl, rfl⟩ := zz_e2 hf
            exact hret _ _ _ _ dX10_read_83 hP hD hS
          refine lv_icmp_ge (tgt := 82) hx hb dX10_read_38 (by decide) (fun c38 => ?_) (fun c38 => ?_)
          · have hf := zz_ps hf c38
            exact Kj82_9 z5 _ _ hP hD hS ls (lv_sub hl [2] rfl) hf
          · have hf := zz_ng hf c38
            refine lv_aload_n hx hb dX10_read_41 rfl (lv_at hl 0 rfl) ?_
            refine lv_aload_n hx hb dX10_read_42 rfl (lv_at hl 0 rfl) ?_
            refine va_get (D := D) (ci := 10) (v := .ref (q 19)) (C := RX10) (T := TX10) (N := 34) hx hb hts inX10 hown hK hP 0 rfl rfl 31 (by decide) lk65 (fun _ h9 => h9) rfl dX10_read_43 ?_
            refine lv_bipush (v := (60 : Int32)) hx hb dX10_read_46 (by decide) ?_
            refine lv_iload_n hx hb dX10_read_48 rfl (lv_at hl 1 rfl) ?_
            refine lv_imul hx hb dX10_read_49 ?_
            refine lv_iconst (v := (2 : Int32)) hx hb dX10_read_50 (by decide) ?_
            refine lv_iload_n hx hb dX10_read_51 rfl (lv_at hl 2 rfl) ?_
            refine lv_imul hx hb dX10_read_52 ?_
            refine lv_iadd hx hb dX10_read_53 ?_
            obtain ⟨hg10, hf⟩ := zz_gd hf
            refine va_iald hx hb hK hP 19 18 rfl rfl hg10 dX10_read_54 ?_
            refine lv_aload_n hx hb dX10_read_55 rfl (lv_at hl 0 rfl) ?_
            refine va_get (D := D) (ci := 10) (v := .ref (q 19)) (C := RX10) (T := TX10) (N := 34) hx hb hts inX10 hown hK hP 0 rfl rfl 31 (by decide) lk65 (fun _ h9 => h9) rfl dX10_read_56 ?_
            refine lv_bipush (v := (60 : Int32)) hx hb dX10_read_59 (by decide) ?_
            refine lv_iload_n hx hb dX10_read_61 rfl (lv_at hl 1 rfl) ?_
            refine lv_imul hx hb dX10_read_62 ?_
            refine lv_iconst (v := (2 : Int32)) hx hb dX10_read_63 (by decide) ?_
            refine lv_iload_n hx hb dX10_read_64 rfl (lv_at hl 2 rfl) ?_
            refine lv_imul hx hb dX10_read_65 ?_
            refine lv_iadd hx hb dX10_read_66 ?_
            refine lv_iconst (v := (1 : Int32)) hx hb dX10_read_67 (by decide) ?_
            refine lv_iadd hx hb dX10_read_68 ?_
            obtain ⟨hg11, hf⟩ := zz_gd hf
            refine va_iald hx hb hK hP 19 18 rfl rfl hg11 dX10_read_69 ?_
            obtain ⟨r12, S13, hc14, hf⟩ := zz_b2s hf
            refine zz_ji0 (va_runV (As := [.int ((zz_gA z5 18) (Int32.toNatClampNeg (((60 : Int32) * u0) + ((2 : Int32) * x4)))), .int ((zz_gA z5 18) (Int32.toNatClampNeg ((((60 : Int32) * u0) + ((2 : Int32) * x4)) + (1 : Int32))))]) (rest := []) hfx (zc_X10_missed l D tb q k F ((zz_gA z5 18) (Int32.toNatClampNeg (((60 : Int32) * u0) + ((2 : Int32) * x4)))) ((zz_gA z5 18) (Int32.toNatClampNeg ((((60 : Int32) * u0) + ((2 : Int32) * x4)) + (1 : Int32)))) z5 r12 S13 hc14 H.size) (cwV 2 hts gX10_read_X10_missed rfl rfl rfl (by decide +kernel) ⟨Nat.le_of_ble_eq_true rfl, Nat.le_of_ble_eq_true rfl⟩) (zz_pre0V hK hP hD hS hA hE 0 rfl rfl rfl) rfl rfl hl.1 rfl (lv_room (Nat.le_of_ble_eq_true rfl)) dX10_read_70 ⟨Nat.zero_le _, Nat.zero_le _⟩) hD hS hA (fun H locs hP hD hS => ?_)
            refine lv_if_le (tgt := 82) hx hb dX10_read_73 (by decide) (fun c73 => ?_) (fun c73 => ?_)
            · have hf := zz_ps hf c73
              exact Kj82_9 S13 _ _ hP hD hS ls (lv_sub hl [2] rfl) hf
            · have hf := zz_ng hf c73
              obtain ⟨v15, hv15, hf⟩ := zz_lts hf
              refine lv_iinc (v := v15) (lv' := [(2, .int v15), (0, .ref (q 0)), (1, .int u0)]) hx hb dX10_read_76 hl (k := 2) rfl (by rw [hv15]; rfl) (by decide) rfl (fun ls hl => ?_)
              refine lv_goto (tgt := 27) hx hb dX10_read_79 (by decide) ?_
              exact ihkL27_5 v15 S13 _ _ hP hD hS ls (lv_sub hl [1, 2, 0] rfl) hf
      exact hLkL27_5 F (0 : Int32) S _ _ hP hD hS ls (lv_sub hl [1, 2, 0] rfl) hf
    · have hf := zz_ps hf c16
      refine lv_aload_n hx hb dX10_read_19 rfl (lv_at hl 0 rfl) ?_
      refine lv_iconst (v := (1 : Int32)) hx hb dX10_read_20 (by decide) ?_
      obtain ⟨r16, S17, hc18, hf⟩ := zz_b2s hf
      refine zz_ji0 (va_runV (As := [.int (1 : Int32)]) (rest := []) hfx (zc_X10_meets l D tb q k F (1 : Int32) S r16 S17 hc18 H.size) (cwV 1 hts gX10_read_X10_meets rfl rfl rfl (by decide +kernel) ⟨Nat.le_of_ble_eq_true rfl, Nat.le_of_ble_eq_true rfl⟩) (zz_pre0V hK hP hD hS hA hE 0 rfl rfl rfl) rfl rfl hl.1 rfl (lv_room (Nat.le_of_ble_eq_true rfl)) dX10_read_21 ⟨Nat.zero_le _, Nat.zero_le _⟩) hD hS hA (fun H locs hP hD hS => ?_)
      obtain ⟨rfl, rfl⟩ := zz_e2 hf
      exact hret _ _ _ _ dX10_read_24 hP hD hS
  · have hf := zz_ps hf c4
    refine lv_bipush (v := (-2 : Int32)) hx hb dX10_read_7 (by decide) ?_
    obtain ⟨rfl, rfl⟩ := zz_e2 hf
    exact hret _ _ _ _ dX10_read_9 hP hD hS
def rmX10_isMissed : Room := { frames := 4, cells := 0, slots := 0, locals := 90 }
set_option maxHeartbeats 4000000 in
set_option maxRecDepth 100000 in
theorem zc_X10_isMissed (l : Launch) (D : va_G) (tb : Nat → Nat) (q : Nat → Nat) (k : Nat → ClassId) (F : Nat)  (S : zz_M) (r : Int32) (hf : pX10_isMissed F S = some r) : zz_Mi l yX10_isMissed wsX10_isMissed rmX10_isMissed D tb [((k 1), .int), ((k 2), .int), ((k 3), .int), ((k 4), .int), ((k 5), .int), ((k 6), .int), ((k 7), .int), ((k 8), .boolean), ((k 9), .int), ((k 10), .int), ((k 11), .int), ((k 12), .int), ((k 13), .int), ((k 14), .int), ((k 15), .int), ((k 16), .boolean), ((k 17), .int), ((k 18), .int), ((k 19), .int), ((k 20), .int)] [.ref (q 0)] (zw_10 q k S) (zw_10 q k S) r := by
  refine zz_ofz (cc := cX10_isMissed) (maxL := 3) (by decide) rfl (Nat.le_of_ble_eq_true rfl) ?_
  intro p e s m args below meth c A Q hfx hK hA hE hret H locs hP hD hS ls hl
  obtain ⟨hx, hb, hml, hown, hts⟩ := id hfx
  have inX10 : ∀ w ∈ u_ws RX10 TX10 34, w ∈ wsX10_isMissed := by decide +kernel
  have lk241 := hts (.fieldLink RX10 241 "CatBeatModel" "misses" "I") (by decide +kernel)
  have lk47 := hts (.fieldLink RX10 47 "CatBeatModel" "missCell" "[I") (by decide +kernel)
  have lk50 := hts (.fieldLink RX10 50 "CatBeatModel" "missIs" "[I") (by decide +kernel)
  have hl : lv_has ls 3 [(0, .ref (q 0))] := hl
  unfold pX10_isMissed at hf
  refine lv_iconst (v := (1 : Int32)) hx hb dX10_isMissed_0 (by decide) ?_
  refine lv_istore_n (lv' := [(1, .int (1 : Int32)), (0, .ref (q 0))]) hx hb dX10_isMissed_1 rfl hl (by decide) rfl (fun ls hl => ?_)
  refine lv_iconst (v := (0 : Int32)) hx hb dX10_isMissed_2 (by decide) ?_
  refine lv_istore_n (lv' := [(2, .int (0 : Int32)), (1, .int (1 : Int32)), (0, .ref (q 0))]) hx hb dX10_isMissed_3 rfl hl (by decide) rfl (fun ls hl => ?_)
  have hLkL4_2 : ∀ (n4_2 : Nat) (x1 : Int32) (x2 : Int32) (H : Heap) (locs : List Loc), va_P D vwCl (zw_10 q k S) H → va_D A (zw_10 q k S) → va_S A s.heap H locs → ∀ ls : Array Slot, lv_has ls 3 [(0, .ref (q 0)), (1, .int x1), (2, .int x2)] → pX10_isMissed_L4_2 F S n4_2 x1 x2 = some r → W p l e rmX10_isMissed s m args below meth c H locs 0 0 Q (F0 m 4 ls []) := by
    intro n4_2
    induction n4_2 with
    | zero =>
      intro x1 x2 H locs hP hD hS ls hl hf
      exact nomatch (show (none : Option _) = some _ from hf)
    | succ n4_2 ihkL4_2 =>
      intro x1 x2 H locs hP hD hS ls hl hf
      rw [pX10_isMissed_L4_2] at hf
      refine lv_iload_n hx hb dX10_isMissed_4 rfl (lv_at hl 2 rfl) ?_
      refine lv_aload_n hx hb dX10_isMissed_5 rfl (lv_at hl 0 rfl) ?_
      refine va_get (D := D) (ci := 10) (v := .int (zz_gI S 12)) (C := RX10) (T := TX10) (N := 34) hx hb hts inX10 hown hK hP 0 rfl rfl 24 (by decide) lk241 (fun _ h9 => h9) rfl dX10_isMissed_6 ?_
      obtain ⟨j56_4, hj56_4, hf⟩ := zz_lts hf
      have Kj56_4 : ∀  (H : Heap) (locs : List Loc), va_P D vwCl (zw_10 q k S) H → va_D A (zw_10 q k S) → va_S A s.heap H locs → ∀ ls : Array Slot, lv_has ls 3 [(1, .int x1)] → j56_4 () = some r → W p l e rmX10_isMissed s m args below meth c H locs 0 0 Q (F0 m 56 ls []) := by
        intro  H locs hP hD hS ls hl hf
        rw [hj56_4] at hf
        refine lv_iload_n hx hb dX10_isMissed_56 rfl (lv_at hl 0 rfl) ?_
        obtain ⟨hg5, hf⟩ := zz_gd hf
        obtain rfl := zz_e1 hf
        exact hret _ _ _ _ (zz_nb hg5) dX10_isMissed_57 hP hD hS
      refine lv_icmp_ge (tgt := 56) hx hb dX10_isMissed_9 (by decide) (fun c9 => ?_) (fun c9 => ?_)
      · have hf := zz_ps hf c9
        exact Kj56_4  _ _ hP hD hS ls (lv_sub hl [1] rfl) hf
      · have hf := zz_ng hf c9
        refine lv_iload_n hx hb dX10_isMissed_12 rfl (lv_at hl 1 rfl) ?_
        refine lv_if_eq (tgt := 56) hx hb dX10_isMissed_13 (by decide) (fun c13 => ?_) (fun c13 => ?_)
        · have hf := zz_ps hf c13
          exact Kj56_4  _ _ hP hD hS ls (lv_sub hl [1] rfl) hf
        · have hf := zz_ng hf c13
          refine lv_aload_n hx hb dX10_isMissed_16 rfl (lv_at hl 0 rfl) ?_
          refine lv_aload_n hx hb dX10_isMissed_17 rfl (lv_at hl 0 rfl) ?_
          refine va_get (D := D) (ci := 10) (v := .ref (q 13)) (C := RX10) (T := TX10) (N := 34) hx hb hts inX10 hown hK hP 0 rfl rfl 25 (by decide) lk47 (fun _ h9 => h9) rfl dX10_isMissed_18 ?_
          refine lv_iload_n hx hb dX10_isMissed_21 rfl (lv_at hl 2 rfl) ?_
          obtain ⟨hg6, hf⟩ := zz_gd hf
          refine va_iald hx hb hK hP 13 12 rfl rfl hg6 dX10_isMissed_22 ?_
          obtain ⟨r7, hc8, hf⟩ := zz_b1s hf
          refine zz_ji0 (va_runV (As := [.int ((zz_gA S 12) (Int32.toNatClampNeg x2))]) (rest := []) hfx (zc_X10_isTaken l D tb q k F ((zz_gA S 12) (Int32.toNatClampNeg x2)) S r7 hc8 H.size) (cwV 1 hts gX10_isMissed_X10_isTaken rfl rfl rfl (by decide +kernel) ⟨Nat.le_of_ble_eq_true rfl, Nat.le_of_ble_eq_true rfl⟩) (zz_pre0V hK hP hD hS hA hE 0 rfl rfl rfl) rfl rfl hl.1 rfl (lv_room (Nat.le_of_ble_eq_true rfl)) dX10_isMissed_23 ⟨Nat.zero_le _, Nat.zero_le _⟩) hD hS hA (fun H locs hP hD hS => ?_)
          refine lv_aload_n hx hb dX10_isMissed_26 rfl (lv_at hl 0 rfl) ?_
          refine va_get (D := D) (ci := 10) (v := .ref (q 14)) (C := RX10) (T := TX10) (N := 34) hx hb hts inX10 hown hK hP 0 rfl rfl 26 (by decide) lk50 (fun _ h9 => h9) rfl dX10_isMissed_27 ?_
          refine lv_iload_n hx hb dX10_isMissed_30 rfl (lv_at hl 2 rfl) ?_
          obtain ⟨hg9, hf⟩ := zz_gd hf
          refine va_iald hx hb hK hP 14 13 rfl rfl hg9 dX10_isMissed_31 ?_
          refine lv_iconst (v := (1 : Int32)) hx hb dX10_isMissed_32 (by decide) ?_
          obtain ⟨v10, hv10, hf⟩ := zz_lts hf
          have hK11 : ∀ ls : Array Slot, lv_has ls 3 [(0, .ref (q 0)), (2, .int x2)] → W p l e rmX10_isMissed s m args below meth c H locs 0 0 Q (F0 m 41 ls [.int v10, .int r7]) := by
            intro ls hl
            obtain ⟨v12, hv12, hf⟩ := zz_lts hf
            have hK13 : ∀ ls : Array Slot, lv_has ls 3 [(0, .ref (q 0)), (2, .int x2)] → W p l e rmX10_isMissed s m args below meth c H locs 0 0 Q (F0 m 49 ls [.int v12]) := by
              intro ls hl
              refine lv_istore_n (lv' := [(1, .int v12), (0, .ref (q 0)), (2, .int x2)]) hx hb dX10_isMissed_49 rfl hl (by decide) rfl (fun ls hl => ?_)
              obtain ⟨v14, hv14, hf⟩ := zz_lts hf
              refine lv_iinc (v := v14) (lv' := [(2, .int v14), (1, .int v12), (0, .ref (q 0))]) hx hb dX10_isMissed_50 hl (k := 2) rfl (by rw [hv14]; rfl) (by decide) rfl (fun ls hl => ?_)
              refine lv_goto (tgt := 4) hx hb dX10_isMissed_53 (by decide) ?_
              exact ihkL4_2 v12 v14 _ _ hP hD hS ls (lv_sub hl [2, 1, 0] rfl) hf
            refine lv_icmp_ne (tgt := 48) hx hb dX10_isMissed_41 (by decide) (fun c41 => ?_) (fun c41 => ?_)
            · refine lv_iconst (v := (0 : Int32)) hx hb dX10_isMissed_48 (by decide) ?_
              refine zz_ti (show v12 = (0 : Int32) by rw [hv12, if_neg c41]) ?_
              exact hK13 ls (lv_sub hl [0, 1] rfl)
            · refine lv_iconst (v := (1 : Int32)) hx hb dX10_isMissed_44 (by decide) ?_
              refine lv_goto (tgt := 49) hx hb dX10_isMissed_45 (by decide) ?_
              refine zz_ti (show v12 = (1 : Int32) by rw [hv12, if_pos c41]) ?_
              exact hK13 ls (lv_sub hl [0, 1] rfl)
          refine lv_icmp_ne (tgt := 40) hx hb dX10_isMissed_33 (by decide) (fun c33 => ?_) (fun c33 => ?_)
          · refine lv_iconst (v := (0 : Int32)) hx hb dX10_isMissed_40 (by decide) ?_
            refine zz_ti (show v10 = (0 : Int32) by rw [hv10, if_neg c33]) ?_
            exact hK11 ls (lv_sub hl [0, 2] rfl)
          · refine lv_iconst (v := (1 : Int32)) hx hb dX10_isMissed_36 (by decide) ?_
            refine lv_goto (tgt := 41) hx hb dX10_isMissed_37 (by decide) ?_
            refine zz_ti (show v10 = (1 : Int32) by rw [hv10, if_pos c33]) ?_
            exact hK11 ls (lv_sub hl [0, 2] rfl)
  exact hLkL4_2 F (1 : Int32) (0 : Int32) _ _ hP hD hS ls (lv_sub hl [2, 1, 0] rfl) hf
def rmX10_omittedNow : Room := { frames := 7, cells := 0, slots := 0, locals := 159 }
set_option maxHeartbeats 4000000 in
set_option maxRecDepth 100000 in
theorem zc_X10_omittedNow (l : Launch) (D : va_G) (tb : Nat → Nat) (q : Nat → Nat) (k : Nat → ClassId) (F : Nat)  (S : zz_M) (r : Int32) (o1 : zz_M) (hf : pX10_omittedNow F S = some (r, o1)) : zz_Mi l yX10_omittedNow wsX10_omittedNow rmX10_omittedNow D tb [((k 1), .int), ((k 2), .int), ((k 3), .int), ((k 4), .int), ((k 5), .int), ((k 6), .int), ((k 7), .int), ((k 8), .boolean), ((k 9), .int), ((k 10), .int), ((k 11), .int), ((k 12), .int), ((k 13), .int), ((k 14), .int), ((k 15), .int), ((k 16), .boolean), ((k 17), .int), ((k 18), .int), ((k 19), .int), ((k 20), .int)] [.ref (q 0)] (zw_10 q k S) (zw_10 q k o1) r := by
  refine zz_ofi (cc := cX10_omittedNow) (maxL := 3) (by decide) rfl (Nat.le_of_ble_eq_true rfl) ?_
  intro p e s m args below meth c A Q hfx hK hA hE hret H locs hP hD hS ls hl
  obtain ⟨hx, hb, hml, hown, hts⟩ := id hfx
  have inX10 : ∀ w ∈ u_ws RX10 TX10 34, w ∈ wsX10_omittedNow := by decide +kernel
  have lk101 := hts (.fieldLink RX10 101 "CatBeatModel" "steps" "I") (by decide +kernel)
  have hl : lv_has ls 3 [(0, .ref (q 0))] := hl
  unfold pX10_omittedNow at hf
  refine lv_aload_n hx hb dX10_omittedNow_0 rfl (lv_at hl 0 rfl) ?_
  obtain ⟨S1, hc2, hf⟩ := zz_b1s hf
  refine zz_jv0 (va_runV (As := []) (rest := []) hfx (zc_X10_reads l D tb q k F  S S1 hc2 H.size) (cwV 0 hts gX10_omittedNow_X10_reads rfl rfl rfl (by decide +kernel) ⟨Nat.le_of_ble_eq_true rfl, Nat.le_of_ble_eq_true rfl⟩) (zz_pre0V hK hP hD hS hA hE 0 rfl rfl rfl) rfl rfl hl.1 rfl (lv_room (Nat.le_of_ble_eq_true rfl)) dX10_omittedNow_1 ⟨Nat.zero_le _, Nat.zero_le _⟩) hD hS hA (fun H locs hP hD hS => ?_)
  refine lv_iconst (v := (0 : Int32)) hx hb dX10_omittedNow_4 (by decide) ?_
  refine lv_istore_n (lv' := [(1, .int (0 : Int32)), (0, .ref (q 0))]) hx hb dX10_omittedNow_5 rfl hl (by decide) rfl (fun ls hl => ?_)
  refine lv_iconst (v := (0 : Int32)) hx hb dX10_omittedNow_6 (by decide) ?_
  refine lv_istore_n (lv' := [(2, .int (0 : Int32)), (1, .int (0 : Int32)), (0, .ref (q 0))]) hx hb dX10_omittedNow_7 rfl hl (by decide) rfl (fun ls hl => ?_)
  have hLkL8_5 : ∀ (n8_5 : Nat) (x3 : Int32) (x4 : Int32) (z5 : zz_M) (H : Heap) (locs : List Loc), va_P D vwCl (zw_10 q k z5) H → va_D A (zw_10 q k z5) → va_S A s.heap H locs → ∀ ls : Array Slot, lv_has ls 3 [(0, .ref (q 0)), (1, .int x3), (2, .int x4)] → pX10_omittedNow_L8_5 F n8_5 x3 x4 z5 = some (r, o1) → W p l e rmX10_omittedNow s m args below meth c H locs 0 0 Q (F0 m 8 ls []) := by
    intro n8_5
    induction n8_5 with
    | zero =>
      intro x3 x4 z5 H locs hP hD hS ls hl hf
      exact nomatch (show (none : Option _) = some _ from hf)
    | succ n8_5 ihkL8_5 =>
      intro x3 x4 z5 H locs hP hD hS ls hl hf
      rw [pX10_omittedNow_L8_5] at hf
      refine lv_iload_n hx hb dX10_omittedNow_8 rfl (lv_at hl 2 rfl) ?_
      refine lv_aload_n hx hb dX10_omittedNow_9 rfl (lv_at hl 0 rfl) ?_
      refine va_get (D := D) (ci := 10) (v := .int (zz_gI z5 3)) (C := RX10) (T := TX10) (N := 34) hx hb hts inX10 hown hK hP 0 rfl rfl 6 (by decide) lk101 (fun _ h9 => h9) rfl dX10_omittedNow_10 ?_
      refine lv_icmp_ge (tgt := 49) hx hb dX10_omittedNow_13 (by decide) (fun c13 => ?_) (fun c13 => ?_)
      · have hf := zz_ps hf c13
        refine lv_iload_n hx hb dX10_omittedNow_49 rfl (lv_at hl 1 rfl) ?_
        obtain ⟨rfl, rfl⟩ := zz_e2 hf
        exact hret _ _ _ _ dX10_omittedNow_50 hP hD hS
      · have hf := zz_ng hf c13
        refine lv_aload_n hx hb dX10_omittedNow_16 rfl (lv_at hl 0 rfl) ?_
        refine lv_iload_n hx hb dX10_omittedNow_17 rfl (lv_at hl 2 rfl) ?_
        refine lv_iconst (v := (-1 : Int32)) hx hb dX10_omittedNow_18 (by decide) ?_
        obtain ⟨S7, hc8, hf⟩ := zz_b1s hf
        refine zz_jv0 (va_runV (As := [.int x4, .int (-1 : Int32)]) (rest := []) hfx (zc_X10_without l D tb q k F x4 (-1 : Int32) z5 S7 hc8 H.size) (cwV 2 hts gX10_omittedNow_X10_without rfl rfl rfl (by decide +kernel) ⟨Nat.le_of_ble_eq_true rfl, Nat.le_of_ble_eq_true rfl⟩) (zz_pre0V hK hP hD hS hA hE 0 rfl rfl rfl) rfl rfl hl.1 rfl (lv_room (Nat.le_of_ble_eq_true rfl)) dX10_omittedNow_19 ⟨Nat.zero_le _, Nat.zero_le _⟩) hD hS hA (fun H locs hP hD hS => ?_)
        refine lv_aload_n hx hb dX10_omittedNow_22 rfl (lv_at hl 0 rfl) ?_
        obtain ⟨S9, hc10, hf⟩ := zz_b1s hf
        refine zz_jv0 (va_runV (As := []) (rest := []) hfx (zc_X10_walks l D tb q k F  S7 S9 hc10 H.size) (cwV 0 hts gX10_omittedNow_X10_walks rfl rfl rfl (by decide +kernel) ⟨Nat.le_of_ble_eq_true rfl, Nat.le_of_ble_eq_true rfl⟩) (zz_pre0V hK hP hD hS hA hE 0 rfl rfl rfl) rfl rfl hl.1 rfl (lv_room (Nat.le_of_ble_eq_true rfl)) dX10_omittedNow_23 ⟨Nat.zero_le _, Nat.zero_le _⟩) hD hS hA (fun H locs hP hD hS => ?_)
        refine lv_iload_n hx hb dX10_omittedNow_26 rfl (lv_at hl 1 rfl) ?_
        refine lv_aload_n hx hb dX10_omittedNow_27 rfl (lv_at hl 0 rfl) ?_
        obtain ⟨r11, hc12, hf⟩ := zz_b1s hf
        refine zz_ji0 (va_runV (As := []) (rest := [.int x3]) hfx (zc_X10_isMissed l D tb q k F  S9 r11 hc12 H.size) (cwV 0 hts gX10_omittedNow_X10_isMissed rfl rfl rfl (by decide +kernel) ⟨Nat.le_of_ble_eq_true rfl, Nat.le_of_ble_eq_true rfl⟩) (zz_pre0V hK hP hD hS hA hE 0 rfl rfl rfl) rfl rfl hl.1 rfl (lv_room (Nat.le_of_ble_eq_true rfl)) dX10_omittedNow_28 ⟨Nat.zero_le _, Nat.zero_le _⟩) hD hS hA (fun H locs hP hD hS => ?_)
        obtain ⟨v13, hv13, hf⟩ := zz_lts hf
        have hK14 : ∀ ls : Array Slot, lv_has ls 3 [(0, .ref (q 0)), (2, .int x4)] → W p l e rmX10_omittedNow s m args below meth c H locs 0 0 Q (F0 m 41 ls [.int v13, .int x3]) := by
          intro ls hl
          refine lv_ior hx hb dX10_omittedNow_41 ?_
          obtain ⟨v15, hv15, hf⟩ := zz_lts hf
          refine zz_ti hv15 ?_
          refine lv_istore_n (lv' := [(1, .int v15), (0, .ref (q 0)), (2, .int x4)]) hx hb dX10_omittedNow_42 rfl hl (by decide) rfl (fun ls hl => ?_)
          obtain ⟨v16, hv16, hf⟩ := zz_lts hf
          refine lv_iinc (v := v16) (lv' := [(2, .int v16), (1, .int v15), (0, .ref (q 0))]) hx hb dX10_omittedNow_43 hl (k := 2) rfl (by rw [hv16]; rfl) (by decide) rfl (fun ls hl => ?_)
          refine lv_goto (tgt := 8) hx hb dX10_omittedNow_46 (by decide) ?_
          exact ihkL8_5 v15 v16 S9 _ _ hP hD hS ls (lv_sub hl [2, 1, 0] rfl) hf
        refine lv_if_eq (tgt := 40) hx hb dX10_omittedNow_31 (by decide) (fun c31 => ?_) (fun c31 => ?_)
        · refine lv_iconst (v := (0 : Int32)) hx hb dX10_omittedNow_40 (by decide) ?_
          refine zz_ti (show v13 = (0 : Int32) by rw [hv13, if_pos c31]) ?_
          exact hK14 ls (lv_sub hl [0, 2] rfl)
        · refine lv_iconst (v := (1 : Int32)) hx hb dX10_omittedNow_34 (by decide) ?_
          refine lv_iload_n hx hb dX10_omittedNow_35 rfl (lv_at hl 2 rfl) ?_
          refine lv_ishl hx hb dX10_omittedNow_36 ?_
          refine lv_goto (tgt := 41) hx hb dX10_omittedNow_37 (by decide) ?_
          refine zz_ti (show v13 = ((1 : Int32) <<< (x4 &&& 31)) by rw [hv13, if_neg c31]) ?_
          exact hK14 ls (lv_sub hl [0, 2] rfl)
  exact hLkL8_5 F (0 : Int32) (0 : Int32) S1 _ _ hP hD hS ls (lv_sub hl [2, 1, 0] rfl) hf
def rmX10_omitted : Room := { frames := 8, cells := 0, slots := 0, locals := 181 }
set_option maxHeartbeats 4000000 in
set_option maxRecDepth 100000 in
theorem zc_X10_omitted (l : Launch) (D : va_G) (tb : Nat → Nat) (q : Nat → Nat) (k : Nat → ClassId) (F : Nat)  (S : zz_M) (r : Int32) (o1 : zz_M) (hf : pX10_omitted F S = some (r, o1)) : zz_Mi l yX10_omitted wsX10_omitted rmX10_omitted D tb [((k 1), .int), ((k 2), .int), ((k 3), .int), ((k 4), .int), ((k 5), .int), ((k 6), .int), ((k 7), .int), ((k 8), .boolean), ((k 9), .int), ((k 10), .int), ((k 11), .int), ((k 12), .int), ((k 13), .int), ((k 14), .int), ((k 15), .int), ((k 16), .boolean), ((k 17), .int), ((k 18), .int), ((k 19), .int), ((k 20), .int)] [.ref (q 0)] (zw_10 q k S) (zw_10 q k o1) r := by
  refine zz_ofi (cc := cX10_omitted) (maxL := 1) (by decide) rfl (Nat.le_of_ble_eq_true rfl) ?_
  intro p e s m args below meth c A Q hfx hK hA hE hret H locs hP hD hS ls hl
  obtain ⟨hx, hb, hml, hown, hts⟩ := id hfx
  have hl : lv_has ls 1 [(0, .ref (q 0))] := hl
  unfold pX10_omitted at hf
  refine lv_aload_n hx hb dX10_omitted_0 rfl (lv_at hl 0 rfl) ?_
  obtain ⟨r1, S2, hc3, hf⟩ := zz_b2s hf
  refine zz_ji0 (va_runV (As := []) (rest := []) hfx (zc_X10_omittedNow l D tb q k F  S r1 S2 hc3 H.size) (cwV 0 hts gX10_omitted_X10_omittedNow rfl rfl rfl (by decide +kernel) ⟨Nat.le_of_ble_eq_true rfl, Nat.le_of_ble_eq_true rfl⟩) (zz_pre0V hK hP hD hS hA hE 0 rfl rfl rfl) rfl rfl hl.1 rfl (lv_room (Nat.le_of_ble_eq_true rfl)) dX10_omitted_1 ⟨Nat.zero_le _, Nat.zero_le _⟩) hD hS hA (fun H locs hP hD hS => ?_)
  obtain ⟨rfl, rfl⟩ := zz_e2 hf
  exact hret _ _ _ _ dX10_omitted_4 hP hD hS
def rmX10_meantOf : Room := { frames := 7, cells := 0, slots := 0, locals := 156 }
set_option maxHeartbeats 4000000 in
set_option maxRecDepth 100000 in
theorem zc_X10_meantOf (l : Launch) (D : va_G) (tb : Nat → Nat) (q : Nat → Nat) (k : Nat → ClassId) (F : Nat) (u0 : Int32) (u1 : Int32) (S : zz_M) (r : Int32) (o1 : zz_M) (hf : pX10_meantOf F u0 u1 S = some (r, o1)) : zz_Mi l yX10_meantOf wsX10_meantOf rmX10_meantOf D tb [((k 1), .int), ((k 2), .int), ((k 3), .int), ((k 4), .int), ((k 5), .int), ((k 6), .int), ((k 7), .int), ((k 8), .boolean), ((k 9), .int), ((k 10), .int), ((k 11), .int), ((k 12), .int), ((k 13), .int), ((k 14), .int), ((k 15), .int), ((k 16), .boolean), ((k 17), .int), ((k 18), .int), ((k 19), .int), ((k 20), .int)] [.ref (q 0), .int u0, .int u1] (zw_10 q k S) (zw_10 q k o1) r := by
  refine zz_ofi (cc := cX10_meantOf) (maxL := 8) (by decide) rfl (Nat.le_of_ble_eq_true rfl) ?_
  intro p e s m args below meth c A Q hfx hK hA hE hret H locs hP hD hS ls hl
  obtain ⟨hx, hb, hml, hown, hts⟩ := id hfx
  have inX10 : ∀ w ∈ u_ws RX10 TX10 34, w ∈ wsX10_meantOf := by decide +kernel
  have lk22 := hts (.fieldLink RX10 22 "CatBeatModel" "wants" "[I") (by decide +kernel)
  have lk88 := hts (.fieldLink RX10 88 "CatBeatModel" "cells" "I") (by decide +kernel)
  have hl : lv_has ls 8 [(0, .ref (q 0)), (1, .int u0), (2, .int u1)] := hl
  unfold pX10_meantOf at hf
  refine lv_aload_n hx hb dX10_meantOf_0 rfl (lv_at hl 0 rfl) ?_
  obtain ⟨S1, hc2, hf⟩ := zz_b1s hf
  refine zz_jv0 (va_runV (As := []) (rest := []) hfx (zc_X10_walksTold l D tb q k F  S S1 hc2 H.size) (cwV 0 hts gX10_meantOf_X10_walksTold rfl rfl rfl (by decide +kernel) ⟨Nat.le_of_ble_eq_true rfl, Nat.le_of_ble_eq_true rfl⟩) (zz_pre0V hK hP hD hS hA hE 0 rfl rfl rfl) rfl rfl hl.1 rfl (lv_room (Nat.le_of_ble_eq_true rfl)) dX10_meantOf_1 ⟨Nat.zero_le _, Nat.zero_le _⟩) hD hS hA (fun H locs hP hD hS => ?_)
  refine lv_aload_n hx hb dX10_meantOf_4 rfl (lv_at hl 0 rfl) ?_
  refine va_get (D := D) (ci := 10) (v := .ref (q 5)) (C := RX10) (T := TX10) (N := 34) hx hb hts inX10 hown hK hP 0 rfl rfl 9 (by decide) lk22 (fun _ h9 => h9) rfl dX10_meantOf_5 ?_
  refine lv_iload_n hx hb dX10_meantOf_8 rfl (lv_at hl 1 rfl) ?_
  obtain ⟨hg3, hf⟩ := zz_gd hf
  refine va_iald hx hb hK hP 5 4 rfl rfl hg3 dX10_meantOf_9 ?_
  obtain ⟨v4, hv4, hf⟩ := zz_lts hf
  refine zz_ti hv4 ?_
  refine lv_istore_n (lv' := [(3, .int v4), (0, .ref (q 0)), (1, .int u0), (2, .int u1)]) hx hb dX10_meantOf_10 rfl hl (by decide) rfl (fun ls hl => ?_)
  refine lv_iconst (v := (0 : Int32)) hx hb dX10_meantOf_11 (by decide) ?_
  refine lv_istore (lv' := [(4, .int (0 : Int32)), (3, .int v4), (0, .ref (q 0)), (1, .int u0), (2, .int u1)]) hx hb dX10_meantOf_12 hl (by decide) rfl (fun ls hl => ?_)
  refine lv_iconst (v := (-1 : Int32)) hx hb dX10_meantOf_14 (by decide) ?_
  refine lv_istore (lv' := [(5, .int (-1 : Int32)), (4, .int (0 : Int32)), (3, .int v4), (0, .ref (q 0)), (1, .int u0), (2, .int u1)]) hx hb dX10_meantOf_15 hl (by decide) rfl (fun ls hl => ?_)
  refine lv_iconst (v := (0 : Int32)) hx hb dX10_meantOf_17 (by decide) ?_
  refine lv_istore (lv' := [(6, .int (0 : Int32)), (5, .int (-1 : Int32)), (4, .int (0 : Int32)), (3, .int v4), (0, .ref (q 0)), (1, .int u0), (2, .int u1)]) hx hb dX10_meantOf_18 hl (by decide) rfl (fun ls hl => ?_)
  have hLkL20_8 : ∀ (n20_8 : Nat) (x5 : Int32) (x6 : Int32) (x7 : Int32) (z8 : zz_M) (H : Heap) (locs : List Loc), va_P D vwCl (zw_10 q k z8) H → va_D A (zw_10 q k z8) → va_S A s.heap H locs → ∀ ls : Array Slot, lv_has ls 8 [(3, .int v4), (0, .ref (q 0)), (1, .int u0), (2, .int u1), (4, .int x5), (5, .int x6), (6, .int x7)] → pX10_meantOf_L20_8 u0 u1 F v4 n20_8 x5 x6 x7 z8 = some (r, o1) → W p l e rmX10_meantOf s m args below meth c H locs 0 0 Q (F0 m 20 ls []) := by
    intro n20_8
    induction n20_8 with
    | zero =>
      intro x5 x6 x7 z8 H locs hP hD hS ls hl hf
      exact nomatch (show (none : Option _) = some _ from hf)
    | succ n20_8 ihkL20_8 =>
      intro x5 x6 x7 z8 H locs hP hD hS ls hl hf
      rw [pX10_meantOf_L20_8] at hf
      refine lv_iload hx hb dX10_meantOf_20 (lv_at hl 6 rfl) ?_
      refine lv_aload_n hx hb dX10_meantOf_22 rfl (lv_at hl 1 rfl) ?_
      refine va_get (D := D) (ci := 10) (v := .int (zz_gI z8 2)) (C := RX10) (T := TX10) (N := 34) hx hb hts inX10 hown hK hP 0 rfl rfl 4 (by decide) lk88 (fun _ h9 => h9) rfl dX10_meantOf_23 ?_
      refine lv_icmp_ge (tgt := 84) hx hb dX10_meantOf_26 (by decide) (fun c26 => ?_) (fun c26 => ?_)
      · have hf := zz_ps hf c26
        refine lv_aload_n hx hb dX10_meantOf_84 rfl (lv_at hl 1 rfl) ?_
        refine va_get (D := D) (ci := 10) (v := .ref (q 5)) (C := RX10) (T := TX10) (N := 34) hx hb hts inX10 hown hK hP 0 rfl rfl 9 (by decide) lk22 (fun _ h9 => h9) rfl dX10_meantOf_85 ?_
        refine lv_iload_n hx hb dX10_meantOf_88 rfl (lv_at hl 2 rfl) ?_
        refine lv_iload_n hx hb dX10_meantOf_89 rfl (lv_at hl 0 rfl) ?_
        obtain ⟨hg10, hf⟩ := zz_gd hf
        obtain ⟨S11, hS11, hf⟩ := zz_lts hf
        refine va_iast hx hb hK hP hD hS 5 4 rfl rfl hg10 dX10_meantOf_90 (fun H locs hP hD hS => ?_)
        have hP : va_P D vwCl (zw_10 q k S11) H := by rw [hS11]; exact hP
        have hD : va_D A (zw_10 q k S11) := by rw [hS11]; exact hD
        refine lv_iload_n hx hb dX10_meantOf_91 rfl (lv_at hl 3 rfl) ?_
        refine lv_iconst (v := (-1 : Int32)) hx hb dX10_meantOf_92 (by decide) ?_
        obtain ⟨v12, hv12, hf⟩ := zz_lts hf
        have hK13 : ∀ ls : Array Slot, lv_has ls 8 [] → W p l e rmX10_meantOf s m args below meth c H locs 0 0 Q (F0 m 103 ls [.int v12]) := by
          intro ls hl
          obtain ⟨rfl, rfl⟩ := zz_e2 hf
          exact hret _ _ _ _ dX10_meantOf_103 hP hD hS
        refine lv_icmp_ne (tgt := 101) hx hb dX10_meantOf_93 (by decide) (fun c93 => ?_) (fun c93 => ?_)
        · refine lv_iload hx hb dX10_meantOf_101 (lv_at hl 5 rfl) ?_
          refine zz_ti (show v12 = x6 by rw [hv12, if_neg c93]) ?_
          exact hK13 ls (lv_sub hl [] rfl)
        · refine lv_iload hx hb dX10_meantOf_96 (lv_at hl 4 rfl) ?_
          refine lv_goto (tgt := 103) hx hb dX10_meantOf_98 (by decide) ?_
          refine zz_ti (show v12 = x5 by rw [hv12, if_pos c93]) ?_
          exact hK13 ls (lv_sub hl [] rfl)
      · have hf := zz_ng hf c26
        refine lv_aload_n hx hb dX10_meantOf_29 rfl (lv_at hl 1 rfl) ?_
        refine va_get (D := D) (ci := 10) (v := .ref (q 5)) (C := RX10) (T := TX10) (N := 34) hx hb hts inX10 hown hK hP 0 rfl rfl 9 (by decide) lk22 (fun _ h9 => h9) rfl dX10_meantOf_30 ?_
        refine lv_iload_n hx hb dX10_meantOf_33 rfl (lv_at hl 2 rfl) ?_
        refine lv_iload hx hb dX10_meantOf_34 (lv_at hl 6 rfl) ?_
        obtain ⟨hg14, hf⟩ := zz_gd hf
        obtain ⟨S15, hS15, hf⟩ := zz_lts hf
        refine va_iast hx hb hK hP hD hS 5 4 rfl rfl hg14 dX10_meantOf_36 (fun H locs hP hD hS => ?_)
        have hP : va_P D vwCl (zw_10 q k S15) H := by rw [hS15]; exact hP
        have hD : va_D A (zw_10 q k S15) := by rw [hS15]; exact hD
        refine lv_aload_n hx hb dX10_meantOf_37 rfl (lv_at hl 1 rfl) ?_
        obtain ⟨r16, hc17, hf⟩ := zz_b1s hf
        refine zz_ji0 (va_runV (As := []) (rest := []) hfx (zc_X10_isMissed l D tb q k F  S15 r16 hc17 H.size) (cwV 0 hts gX10_meantOf_X10_isMissed rfl rfl rfl (by decide +kernel) ⟨Nat.le_of_ble_eq_true rfl, Nat.le_of_ble_eq_true rfl⟩) (zz_pre0V hK hP hD hS hA hE 0 rfl rfl rfl) rfl rfl hl.1 rfl (lv_room (Nat.le_of_ble_eq_true rfl)) dX10_meantOf_38 ⟨Nat.zero_le _, Nat.zero_le _⟩) hD hS hA (fun H locs hP hD hS => ?_)
        refine lv_istore (lv' := [(7, .int r16), (3, .int v4), (0, .ref (q 0)), (1, .int u0), (2, .int u1), (4, .int x5), (5, .int x6), (6, .int x7)]) hx hb dX10_meantOf_41 hl (by decide) rfl (fun ls hl => ?_)
        refine lv_iload hx hb dX10_meantOf_43 (lv_at hl 0 rfl) ?_
        obtain ⟨v18, hv18, hf⟩ := zz_lts hf
        have hK19 : ∀ ls : Array Slot, lv_has ls 8 [(7, .int r16), (3, .int v4), (0, .ref (q 0)), (1, .int u0), (2, .int u1), (4, .int x5), (6, .int x7)] → W p l e rmX10_meantOf s m args below meth c H locs 0 0 Q (F0 m 61 ls [.int v18]) := by
          intro ls hl
          refine lv_istore (lv' := [(5, .int v18), (7, .int r16), (3, .int v4), (0, .ref (q 0)), (1, .int u0), (2, .int u1), (4, .int x5), (6, .int x7)]) hx hb dX10_meantOf_61 hl (by decide) rfl (fun ls hl => ?_)
          refine lv_iload hx hb dX10_meantOf_63 (lv_at hl 6 rfl) ?_
          refine lv_iload hx hb dX10_meantOf_65 (lv_at hl 1 rfl) ?_
          obtain ⟨v20, hv20, hf⟩ := zz_lts hf
          have hK21 : ∀ ls : Array Slot, lv_has ls 8 [(5, .int v18), (3, .int v4), (0, .ref (q 0)), (1, .int u0), (2, .int u1), (6, .int x7)] → W p l e rmX10_meantOf s m args below meth c H locs 0 0 Q (F0 m 75 ls [.int v20, .int x5]) := by
            intro ls hl
            refine lv_iadd hx hb dX10_meantOf_75 ?_
            obtain ⟨v22, hv22, hf⟩ := zz_lts hf
            refine zz_ti hv22 ?_
            refine lv_istore (lv' := [(4, .int v22), (5, .int v18), (3, .int v4), (0, .ref (q 0)), (1, .int u0), (2, .int u1), (6, .int x7)]) hx hb dX10_meantOf_76 hl (by decide) rfl (fun ls hl => ?_)
            obtain ⟨v23, hv23, hf⟩ := zz_lts hf
            refine lv_iinc (v := v23) (lv' := [(6, .int v23), (4, .int v22), (5, .int v18), (3, .int v4), (0, .ref (q 0)), (1, .int u0), (2, .int u1)]) hx hb dX10_meantOf_78 hl (k := 6) rfl (by rw [hv23]; rfl) (by decide) rfl (fun ls hl => ?_)
            refine lv_goto (tgt := 20) hx hb dX10_meantOf_81 (by decide) ?_
            exact ihkL20_8 v22 v18 v23 S15 _ _ hP hD hS ls (lv_sub hl [3, 4, 5, 6, 1, 2, 0] rfl) hf
          refine lv_if_eq (tgt := 74) hx hb dX10_meantOf_67 (by decide) (fun c67 => ?_) (fun c67 => ?_)
          · refine lv_iconst (v := (0 : Int32)) hx hb dX10_meantOf_74 (by decide) ?_
            refine zz_ti (show v20 = (0 : Int32) by rw [hv20, if_pos c67]) ?_
            exact hK21 ls (lv_sub hl [0, 2, 3, 4, 5, 7] rfl)
          · refine lv_iconst (v := (1 : Int32)) hx hb dX10_meantOf_70 (by decide) ?_
            refine lv_goto (tgt := 75) hx hb dX10_meantOf_71 (by decide) ?_
            refine zz_ti (show v20 = (1 : Int32) by rw [hv20, if_neg c67]) ?_
            exact hK21 ls (lv_sub hl [0, 2, 3, 4, 5, 7] rfl)
        refine lv_if_eq (tgt := 59) hx hb dX10_meantOf_45 (by decide) (fun c45 => ?_) (fun c45 => ?_)
        · refine lv_iload hx hb dX10_meantOf_59 (lv_at hl 6 rfl) ?_
          refine zz_ti (show v18 = x6 by rw [hv18, if_pos c45]) ?_
          exact hK19 ls (lv_sub hl [0, 1, 2, 3, 4, 5, 7] rfl)
        · refine lv_iload hx hb dX10_meantOf_48 (lv_at hl 5 rfl) ?_
          refine lv_iload_n hx hb dX10_meantOf_50 rfl (lv_at hl 4 rfl) ?_
          refine lv_icmp_ne (tgt := 59) hx hb dX10_meantOf_51 (by decide) (fun c51 => ?_) (fun c51 => ?_)
          · refine lv_iload hx hb dX10_meantOf_59 (lv_at hl 6 rfl) ?_
            refine zz_ti (show v18 = x6 by rw [hv18, if_neg c45, if_neg c51]) ?_
            exact hK19 ls (lv_sub hl [0, 1, 2, 3, 4, 5, 7] rfl)
          · refine lv_iload hx hb dX10_meantOf_54 (lv_at hl 7 rfl) ?_
            refine lv_goto (tgt := 61) hx hb dX10_meantOf_56 (by decide) ?_
            refine zz_ti (show v18 = x7 by rw [hv18, if_neg c45, if_pos c51]) ?_
            exact hK19 ls (lv_sub hl [0, 1, 2, 3, 4, 5, 7] rfl)
  exact hLkL20_8 F (0 : Int32) (-1 : Int32) (0 : Int32) S1 _ _ hP hD hS ls (lv_sub hl [3, 4, 5, 6, 2, 1, 0] rfl) hf
def rmX10_meant : Room := { frames := 8, cells := 0, slots := 0, locals := 183 }
set_option maxHeartbeats 4000000 in
set_option maxRecDepth 100000 in
theorem zc_X10_meant (l : Launch) (D : va_G) (tb : Nat → Nat) (q : Nat → Nat) (k : Nat → ClassId) (F : Nat) (u0 : Int32) (u1 : Int32) (S : zz_M) (r : Int32) (o1 : zz_M) (hf : pX10_meant F u0 u1 S = some (r, o1)) : zz_Mi l yX10_meant wsX10_meant rmX10_meant D tb [((k 1), .int), ((k 2), .int), ((k 3), .int), ((k 4), .int), ((k 5), .int), ((k 6), .int), ((k 7), .int), ((k 8), .boolean), ((k 9), .int), ((k 10), .int), ((k 11), .int), ((k 12), .int), ((k 13), .int), ((k 14), .int), ((k 15), .int), ((k 16), .boolean), ((k 17), .int), ((k 18), .int), ((k 19), .int), ((k 20), .int)] [.ref (q 0), .int u0, .int u1] (zw_10 q k S) (zw_10 q k o1) r := by
  refine zz_ofi (cc := cX10_meant) (maxL := 3) (by decide) rfl (Nat.le_of_ble_eq_true rfl) ?_
  intro p e s m args below meth c A Q hfx hK hA hE hret H locs hP hD hS ls hl
  obtain ⟨hx, hb, hml, hown, hts⟩ := id hfx
  have hl : lv_has ls 3 [(0, .ref (q 0)), (1, .int u0), (2, .int u1)] := hl
  unfold pX10_meant at hf
  refine lv_aload_n hx hb dX10_meant_0 rfl (lv_at hl 0 rfl) ?_
  refine lv_iload_n hx hb dX10_meant_1 rfl (lv_at hl 1 rfl) ?_
  obtain ⟨r1, S2, hc3, hf⟩ := zz_b2s hf
  refine zz_ji0 (va_runV (As := [.int u0]) (rest := []) hfx (zc_X10_isThief l D tb q k F u0 S r1 S2 hc3 H.size) (cwV 1 hts gX10_meant_X10_isThief rfl rfl rfl (by decide +kernel) ⟨Nat.le_of_ble_eq_true rfl, Nat.le_of_ble_eq_true rfl⟩) (zz_pre0V hK hP hD hS hA hE 0 rfl rfl rfl) rfl rfl hl.1 rfl (lv_room (Nat.le_of_ble_eq_true rfl)) dX10_meant_2 ⟨Nat.zero_le _, Nat.zero_le _⟩) hD hS hA (fun H locs hP hD hS => ?_)
  obtain ⟨j29_6, hj29_6, hf⟩ := zz_lts hf
  have Kj29_6 : ∀ (y4 : Int32) (z5 : zz_M) (H : Heap) (locs : List Loc), va_P D vwCl (zw_10 q k z5) H → va_D A (zw_10 q k z5) → va_S A s.heap H locs → ∀ ls : Array Slot, lv_has ls 3 [] → j29_6 y4 z5 = some (r, o1) → W p l e rmX10_meant s m args below meth c H locs 0 0 Q (F0 m 29 ls [.int y4]) := by
    intro y4 z5 H locs hP hD hS ls hl hf
    rw [hj29_6] at hf
    obtain ⟨rfl, rfl⟩ := zz_e2 hf
    exact hret _ _ _ _ dX10_meant_29 hP hD hS
  obtain ⟨j27_7, hj27_7, hf⟩ := zz_lts hf
  have Kj27_7 : ∀  (H : Heap) (locs : List Loc), va_P D vwCl (zw_10 q k S2) H → va_D A (zw_10 q k S2) → va_S A s.heap H locs → ∀ ls : Array Slot, lv_has ls 3 [] → j27_7 () = some (r, o1) → W p l e rmX10_meant s m args below meth c H locs 0 0 Q (F0 m 27 ls []) := by
    intro  H locs hP hD hS ls hl hf
    rw [hj27_7] at hf
    refine lv_bipush (v := (-2 : Int32)) hx hb dX10_meant_27 (by decide) ?_
    exact Kj29_6 (-2 : Int32) S2 _ _ hP hD hS ls (lv_sub hl [] rfl) hf
  refine lv_if_eq (tgt := 27) hx hb dX10_meant_5 (by decide) (fun c5 => ?_) (fun c5 => ?_)
  · have hf := zz_ps hf c5
    exact Kj27_7  _ _ hP hD hS ls (lv_sub hl [] rfl) hf
  · have hf := zz_ng hf c5
    refine lv_iload_n hx hb dX10_meant_8 rfl (lv_at hl 2 rfl) ?_
    refine lv_iconst (v := (-1 : Int32)) hx hb dX10_meant_9 (by decide) ?_
    refine lv_bipush (v := (35 : Int32)) hx hb dX10_meant_10 (by decide) ?_
    obtain ⟨r8, hc9, hf⟩ := zz_b1s hf
    refine zz_ji (va_runS (As := [.int u1, .int (-1 : Int32), .int (35 : Int32)]) (rest := []) hfx (zc_X10_in l D tb  F u1 (-1 : Int32) (35 : Int32)  r8 hc9 H.size) (va_cwS 3 hts gX10_meant_X10_in rfl rfl rfl (by decide +kernel) ⟨Nat.le_of_ble_eq_true rfl, Nat.le_of_ble_eq_true rfl⟩) (zz_preS hK hP hD hS hA hE [] [] rfl (by decide) rfl) rfl rfl hl.1 rfl (lv_room (Nat.le_of_ble_eq_true rfl)) dX10_meant_12 ⟨Nat.zero_le _, Nat.zero_le _⟩) hP hD hS hA [] rfl rfl (fun H locs hP hD hS => ?_)
    have hP : va_P D vwCl (zw_10 q k S2) H := hP
    have hD : va_D A (zw_10 q k S2) := hD
    refine lv_if_eq (tgt := 27) hx hb dX10_meant_15 (by decide) (fun c15 => ?_) (fun c15 => ?_)
    · have hf := zz_ps hf c15
      exact Kj27_7  _ _ hP hD hS ls (lv_sub hl [] rfl) hf
    · have hf := zz_ng hf c15
      refine lv_aload_n hx hb dX10_meant_18 rfl (lv_at hl 0 rfl) ?_
      refine lv_iload_n hx hb dX10_meant_19 rfl (lv_at hl 1 rfl) ?_
      refine lv_iload_n hx hb dX10_meant_20 rfl (lv_at hl 2 rfl) ?_
      obtain ⟨r10, S11, hc12, hf⟩ := zz_b2s hf
      refine zz_ji0 (va_runV (As := [.int u0, .int u1]) (rest := []) hfx (zc_X10_meantOf l D tb q k F u0 u1 S2 r10 S11 hc12 H.size) (cwV 2 hts gX10_meant_X10_meantOf rfl rfl rfl (by decide +kernel) ⟨Nat.le_of_ble_eq_true rfl, Nat.le_of_ble_eq_true rfl⟩) (zz_pre0V hK hP hD hS hA hE 0 rfl rfl rfl) rfl rfl hl.1 rfl (lv_room (Nat.le_of_ble_eq_true rfl)) dX10_meant_21 ⟨Nat.zero_le _, Nat.zero_le _⟩) hD hS hA (fun H locs hP hD hS => ?_)
      refine lv_goto (tgt := 29) hx hb dX10_meant_24 (by decide) ?_
      exact Kj29_6 r10 S11 _ _ hP hD hS ls (lv_sub hl [] rfl) hf
def rmX10_askNow : Room := { frames := 8, cells := 0, slots := 0, locals := 181 }
set_option maxHeartbeats 4000000 in
set_option maxRecDepth 100000 in
theorem zc_X10_askNow (l : Launch) (D : va_G) (tb : Nat → Nat) (q : Nat → Nat) (k : Nat → ClassId) (F : Nat)  (S : zz_M) (r : Int32) (o1 : zz_M) (hf : pX10_askNow F S = some (r, o1)) : zz_Mi l yX10_askNow wsX10_askNow rmX10_askNow D tb [((k 1), .int), ((k 2), .int), ((k 3), .int), ((k 4), .int), ((k 5), .int), ((k 6), .int), ((k 7), .int), ((k 8), .boolean), ((k 9), .int), ((k 10), .int), ((k 11), .int), ((k 12), .int), ((k 13), .int), ((k 14), .int), ((k 15), .int), ((k 16), .boolean), ((k 17), .int), ((k 18), .int), ((k 19), .int), ((k 20), .int)] [.ref (q 0)] (zw_10 q k S) (zw_10 q k o1) r := by
  refine zz_ofi (cc := cX10_askNow) (maxL := 8) (by decide) rfl (Nat.le_of_ble_eq_true rfl) ?_
  intro p e s m args below meth c A Q hfx hK hA hE hret H locs hP hD hS ls hl
  obtain ⟨hx, hb, hml, hown, hts⟩ := id hfx
  have inX10 : ∀ w ∈ u_ws RX10 TX10 34, w ∈ wsX10_askNow := by decide +kernel
  have lk101 := hts (.fieldLink RX10 101 "CatBeatModel" "steps" "I") (by decide +kernel)
  have lk88 := hts (.fieldLink RX10 88 "CatBeatModel" "cells" "I") (by decide +kernel)
  have lk16 := hts (.fieldLink RX10 16 "CatBeatModel" "kinds" "[I") (by decide +kernel)
  have lk53 := hts (.fieldLink RX10 53 "CatBeatModel" "takenBy" "[I") (by decide +kernel)
  have hl : lv_has ls 8 [(0, .ref (q 0))] := hl
  unfold pX10_askNow at hf
  refine lv_aload_n hx hb dX10_askNow_0 rfl (lv_at hl 0 rfl) ?_
  obtain ⟨r1, S2, hc3, hf⟩ := zz_b2s hf
  refine zz_ji0 (va_runV (As := []) (rest := []) hfx (zc_X10_omittedNow l D tb q k F  S r1 S2 hc3 H.size) (cwV 0 hts gX10_askNow_X10_omittedNow rfl rfl rfl (by decide +kernel) ⟨Nat.le_of_ble_eq_true rfl, Nat.le_of_ble_eq_true rfl⟩) (zz_pre0V hK hP hD hS hA hE 0 rfl rfl rfl) rfl rfl hl.1 rfl (lv_room (Nat.le_of_ble_eq_true rfl)) dX10_askNow_1 ⟨Nat.zero_le _, Nat.zero_le _⟩) hD hS hA (fun H locs hP hD hS => ?_)
  refine lv_istore_n (lv' := [(1, .int r1), (0, .ref (q 0))]) hx hb dX10_askNow_4 rfl hl (by decide) rfl (fun ls hl => ?_)
  refine lv_iconst (v := (0 : Int32)) hx hb dX10_askNow_5 (by decide) ?_
  refine lv_istore_n (lv' := [(2, .int (0 : Int32)), (1, .int r1), (0, .ref (q 0))]) hx hb dX10_askNow_6 rfl hl (by decide) rfl (fun ls hl => ?_)
  refine lv_iconst (v := (0 : Int32)) hx hb dX10_askNow_7 (by decide) ?_
  refine lv_istore_n (lv' := [(3, .int (0 : Int32)), (2, .int (0 : Int32)), (1, .int r1), (0, .ref (q 0))]) hx hb dX10_askNow_8 rfl hl (by decide) rfl (fun ls hl => ?_)
  have hLkL9_5 : ∀ (n9_5 : Nat) (x4 : Int32) (z5 : zz_M) (H : Heap) (locs : List Loc), va_P D vwCl (zw_10 q k z5) H → va_D A (zw_10 q k z5) → va_S A s.heap H locs → ∀ ls : Array Slot, lv_has ls 8 [(2, .int (0 : Int32)), (1, .int r1), (0, .ref (q 0)), (3, .int x4)] → pX10_askNow_L9_5 F r1 n9_5 x4 z5 = some (r, o1) → W p l e rmX10_askNow s m args below meth c H locs 0 0 Q (F0 m 9 ls []) := by
    intro n9_5
    induction n9_5 with
    | zero =>
      intro x4 z5 H locs hP hD hS ls hl hf
      exact nomatch (show (none : Option _) = some _ from hf)
    | succ n9_5 ihkL9_5 =>
      intro x4 z5 H locs hP hD hS ls hl hf
      rw [pX10_askNow_L9_5] at hf
      refine lv_iload_n hx hb dX10_askNow_9 rfl (lv_at hl 3 rfl) ?_
      refine lv_bipush (v := (36 : Int32)) hx hb dX10_askNow_10 (by decide) ?_
      refine lv_icmp_ge (tgt := 28) hx hb dX10_askNow_12 (by decide) (fun c12 => ?_) (fun c12 => ?_)
      · have hf := zz_ps hf c12
        refine lv_aload_n hx hb dX10_askNow_28 rfl (lv_at hl 2 rfl) ?_
        obtain ⟨S7, hc8, hf⟩ := zz_b1s hf
        refine zz_jv0 (va_runV (As := []) (rest := []) hfx (zc_X10_reads l D tb q k F  z5 S7 hc8 H.size) (cwV 0 hts gX10_askNow_X10_reads rfl rfl rfl (by decide +kernel) ⟨Nat.le_of_ble_eq_true rfl, Nat.le_of_ble_eq_true rfl⟩) (zz_pre0V hK hP hD hS hA hE 0 rfl rfl rfl) rfl rfl hl.1 rfl (lv_room (Nat.le_of_ble_eq_true rfl)) dX10_askNow_29 ⟨Nat.zero_le _, Nat.zero_le _⟩) hD hS hA (fun H locs hP hD hS => ?_)
        refine lv_iconst (v := (0 : Int32)) hx hb dX10_askNow_32 (by decide) ?_
        refine lv_istore_n (lv' := [(3, .int (0 : Int32)), (2, .int (0 : Int32)), (1, .int r1), (0, .ref (q 0))]) hx hb dX10_askNow_33 rfl hl (by decide) rfl (fun ls hl => ?_)
        have hLkL34_11 : ∀ (n34_11 : Nat) (x9 : Int32) (x10 : Int32) (z11 : zz_M) (H : Heap) (locs : List Loc), va_P D vwCl (zw_10 q k z11) H → va_D A (zw_10 q k z11) → va_S A s.heap H locs → ∀ ls : Array Slot, lv_has ls 8 [(1, .int r1), (0, .ref (q 0)), (2, .int x9), (3, .int x10)] → pX10_askNow_L34_11 F r1 n34_11 x9 x10 z11 = some (r, o1) → W p l e rmX10_askNow s m args below meth c H locs 0 0 Q (F0 m 34 ls []) := by
          intro n34_11
          induction n34_11 with
          | zero =>
            intro x9 x10 z11 H locs hP hD hS ls hl hf
            exact nomatch (show (none : Option _) = some _ from hf)
          | succ n34_11 ihkL34_11 =>
            intro x9 x10 z11 H locs hP hD hS ls hl hf
            rw [pX10_askNow_L34_11] at hf
            refine lv_iload_n hx hb dX10_askNow_34 rfl (lv_at hl 3 rfl) ?_
            refine lv_aload_n hx hb dX10_askNow_35 rfl (lv_at hl 1 rfl) ?_
            refine va_get (D := D) (ci := 10) (v := .int (zz_gI z11 3)) (C := RX10) (T := TX10) (N := 34) hx hb hts inX10 hown hK hP 0 rfl rfl 6 (by decide) lk101 (fun _ h9 => h9) rfl dX10_askNow_36 ?_
            refine lv_icmp_ge (tgt := 111) hx hb dX10_askNow_39 (by decide) (fun c39 => ?_) (fun c39 => ?_)
            · have hf := zz_ps hf c39
              refine lv_iconst (v := (-1 : Int32)) hx hb dX10_askNow_111 (by decide) ?_
              refine lv_istore_n (lv' := [(3, .int (-1 : Int32)), (1, .int r1), (0, .ref (q 0)), (2, .int x9)]) hx hb dX10_askNow_112 rfl hl (by decide) rfl (fun ls hl => ?_)
              refine lv_iconst (v := (0 : Int32)) hx hb dX10_askNow_113 (by decide) ?_
              refine lv_istore (lv' := [(4, .int (0 : Int32)), (3, .int (-1 : Int32)), (1, .int r1), (0, .ref (q 0)), (2, .int x9)]) hx hb dX10_askNow_114 hl (by decide) rfl (fun ls hl => ?_)
              refine lv_iconst (v := (0 : Int32)) hx hb dX10_askNow_116 (by decide) ?_
              refine lv_istore (lv' := [(5, .int (0 : Int32)), (4, .int (0 : Int32)), (3, .int (-1 : Int32)), (1, .int r1), (0, .ref (q 0)), (2, .int x9)]) hx hb dX10_askNow_117 hl (by decide) rfl (fun ls hl => ?_)
              have hLkL119_15 : ∀ (n119_15 : Nat) (x13 : Int32) (x14 : Int32) (x15 : Int32) (H : Heap) (locs : List Loc), va_P D vwCl (zw_10 q k z11) H → va_D A (zw_10 q k z11) → va_S A s.heap H locs → ∀ ls : Array Slot, lv_has ls 8 [(0, .ref (q 0)), (2, .int x9), (3, .int x13), (4, .int x14), (5, .int x15)] → pX10_askNow_L119_15 x9 z11 n119_15 x13 x14 x15 = some (r, o1) → W p l e rmX10_askNow s m args below meth c H locs 0 0 Q (F0 m 119 ls []) := by
                intro n119_15
                induction n119_15 with
                | zero =>
                  intro x13 x14 x15 H locs hP hD hS ls hl hf
                  exact nomatch (show (none : Option _) = some _ from hf)
                | succ n119_15 ihkL119_15 =>
                  intro x13 x14 x15 H locs hP hD hS ls hl hf
                  rw [pX10_askNow_L119_15] at hf
                  refine lv_iload hx hb dX10_askNow_119 (lv_at hl 4 rfl) ?_
                  refine lv_aload_n hx hb dX10_askNow_121 rfl (lv_at hl 0 rfl) ?_
                  refine va_get (D := D) (ci := 10) (v := .int (zz_gI z11 2)) (C := RX10) (T := TX10) (N := 34) hx hb hts inX10 hown hK hP 0 rfl rfl 4 (by decide) lk88 (fun _ h9 => h9) rfl dX10_askNow_122 ?_
                  refine lv_icmp_ge (tgt := 230) hx hb dX10_askNow_125 (by decide) (fun c125 => ?_) (fun c125 => ?_)
                  · have hf := zz_ps hf c125
                    refine lv_iload_n hx hb dX10_askNow_230 rfl (lv_at hl 2 rfl) ?_
                    obtain ⟨rfl, rfl⟩ := zz_e2 hf
                    exact hret _ _ _ _ dX10_askNow_231 hP hD hS
                  · have hf := zz_ng hf c125
                    refine lv_aload_n hx hb dX10_askNow_128 rfl (lv_at hl 0 rfl) ?_
                    refine va_get (D := D) (ci := 10) (v := .ref (q 3)) (C := RX10) (T := TX10) (N := 34) hx hb hts inX10 hown hK hP 0 rfl rfl 5 (by decide) lk16 (fun _ h9 => h9) rfl dX10_askNow_129 ?_
                    refine lv_iload hx hb dX10_askNow_132 (lv_at hl 4 rfl) ?_
                    obtain ⟨hg17, hf⟩ := zz_gd hf
                    refine va_iald hx hb hK hP 3 2 rfl rfl hg17 dX10_askNow_134 ?_
                    refine lv_iconst (v := (2 : Int32)) hx hb dX10_askNow_135 (by decide) ?_
                    obtain ⟨j224_20, hj224_20, hf⟩ := zz_lts hf
                    have Kj224_20 : ∀ (x18 : Int32) (x19 : Int32) (H : Heap) (locs : List Loc), va_P D vwCl (zw_10 q k z11) H → va_D A (zw_10 q k z11) → va_S A s.heap H locs → ∀ ls : Array Slot, lv_has ls 8 [(0, .ref (q 0)), (2, .int x9), (5, .int x15), (3, .int x18), (4, .int x19)] → j224_20 x18 x19 = some (r, o1) → W p l e rmX10_askNow s m args below meth c H locs 0 0 Q (F0 m 224 ls []) := by
                      intro x18 x19 H locs hP hD hS ls hl hf
                      rw [hj224_20] at hf
                      obtain ⟨v21, hv21, hf⟩ := zz_lts hf
                      refine lv_iinc (v := v21) (lv' := [(5, .int v21), (0, .ref (q 0)), (2, .int x9), (3, .int x18), (4, .int x19)]) hx hb dX10_askNow_224 hl (k := 2) rfl (by rw [hv21]; rfl) (by decide) rfl (fun ls hl => ?_)
                      refine lv_goto (tgt := 119) hx hb dX10_askNow_227 (by decide) ?_
                      exact ihkL119_15 x18 x19 v21 _ _ hP hD hS ls (lv_sub hl [1, 2, 3, 4, 0] rfl) hf
                    refine lv_icmp_ne (tgt := 224) hx hb dX10_askNow_136 (by decide) (fun c136 => ?_) (fun c136 => ?_)
                    · have hf := zz_ng hf c136
                      exact Kj224_20 x13 x14 _ _ hP hD hS ls (lv_sub hl [0, 1, 4, 2, 3] rfl) hf
                    · have hf := zz_ps hf c136
                      refine lv_aload_n hx hb dX10_askNow_139 rfl (lv_at hl 0 rfl) ?_
                      refine va_get (D := D) (ci := 10) (v := .ref (q 15)) (C := RX10) (T := TX10) (N := 34) hx hb hts inX10 hown hK hP 0 rfl rfl 27 (by decide) lk53 (fun _ h9 => h9) rfl dX10_askNow_140 ?_
                      refine lv_iload hx hb dX10_askNow_143 (lv_at hl 4 rfl) ?_
                      obtain ⟨hg22, hf⟩ := zz_gd hf
                      refine va_iald hx hb hK hP 15 14 rfl rfl hg22 dX10_askNow_145 ?_
                      refine lv_iload_n hx hb dX10_askNow_146 rfl (lv_at hl 1 rfl) ?_
                      refine lv_aload_n hx hb dX10_askNow_147 rfl (lv_at hl 0 rfl) ?_
                      refine va_get (D := D) (ci := 10) (v := .ref (q 15)) (C := RX10) (T := TX10) (N := 34) hx hb hts inX10 hown hK hP 0 rfl rfl 27 (by decide) lk53 (fun _ h9 => h9) rfl dX10_askNow_148 ?_
                      refine lv_iload hx hb dX10_askNow_151 (lv_at hl 4 rfl) ?_
                      obtain ⟨hg23, hf⟩ := zz_gd hf
                      refine va_iald hx hb hK hP 15 14 rfl rfl hg23 dX10_askNow_153 ?_
                      refine lv_isub hx hb dX10_askNow_154 ?_
                      obtain ⟨j177_25, hj177_25, hf⟩ := zz_lts hf
                      have Kj177_25 : ∀ (y24 : Int32) (H : Heap) (locs : List Loc), va_P D vwCl (zw_10 q k z11) H → va_D A (zw_10 q k z11) → va_S A s.heap H locs → ∀ ls : Array Slot, lv_has ls 8 [(0, .ref (q 0)), (2, .int x9), (3, .int x13), (4, .int x14), (5, .int x15)] → j177_25 y24 = some (r, o1) → W p l e rmX10_askNow s m args below meth c H locs 0 0 Q (F0 m 177 ls [.int y24]) := by
                        intro y24 H locs hP hD hS ls hl hf
                        rw [hj177_25] at hf
                        refine lv_istore (lv' := [(6, .int y24), (0, .ref (q 0)), (2, .int x9), (3, .int x13), (4, .int x14), (5, .int x15)]) hx hb dX10_askNow_177 hl (by decide) rfl (fun ls hl => ?_)
                        refine lv_iload_n hx hb dX10_askNow_179 rfl (lv_at hl 3 rfl) ?_
                        refine lv_iconst (v := (-1 : Int32)) hx hb dX10_askNow_180 (by decide) ?_
                        obtain ⟨v26, hv26, hf⟩ := zz_lts hf
                        have hK27 : ∀ ls : Array Slot, lv_has ls 8 [(6, .int y24), (0, .ref (q 0)), (2, .int x9), (3, .int x13), (4, .int x14), (5, .int x15)] → W p l e rmX10_askNow s m args below meth c H locs 0 0 Q (F0 m 196 ls [.int v26]) := by
                          intro ls hl
                          refine lv_istore (lv' := [(7, .int v26), (6, .int y24), (0, .ref (q 0)), (2, .int x9), (3, .int x13), (4, .int x14), (5, .int x15)]) hx hb dX10_askNow_196 hl (by decide) rfl (fun ls hl => ?_)
                          refine lv_iload hx hb dX10_askNow_198 (lv_at hl 0 rfl) ?_
                          obtain ⟨v28, hv28, hf⟩ := zz_lts hf
                          have hK29 : ∀ ls : Array Slot, lv_has ls 8 [(7, .int v26), (6, .int y24), (0, .ref (q 0)), (2, .int x9), (4, .int x14), (5, .int x15)] → W p l e rmX10_askNow s m args below meth c H locs 0 0 Q (F0 m 209 ls [.int v28]) := by
                            intro ls hl
                            refine lv_istore_n (lv' := [(3, .int v28), (7, .int v26), (6, .int y24), (0, .ref (q 0)), (2, .int x9), (4, .int x14), (5, .int x15)]) hx hb dX10_askNow_209 rfl hl (by decide) rfl (fun ls hl => ?_)
                            refine lv_iload hx hb dX10_askNow_210 (lv_at hl 1 rfl) ?_
                            obtain ⟨v30, hv30, hf⟩ := zz_lts hf
                            have hK31 : ∀ ls : Array Slot, lv_has ls 8 [(3, .int v28), (0, .ref (q 0)), (2, .int x9), (5, .int x15)] → W p l e rmX10_askNow s m args below meth c H locs 0 0 Q (F0 m 222 ls [.int v30]) := by
                              intro ls hl
                              refine lv_istore (lv' := [(4, .int v30), (3, .int v28), (0, .ref (q 0)), (2, .int x9), (5, .int x15)]) hx hb dX10_askNow_222 hl (by decide) rfl (fun ls hl => ?_)
                              exact Kj224_20 v28 v30 _ _ hP hD hS ls (lv_sub hl [2, 3, 4, 1, 0] rfl) hf
                            refine lv_if_eq (tgt := 220) hx hb dX10_askNow_212 (by decide) (fun c212 => ?_) (fun c212 => ?_)
                            · refine lv_iload hx hb dX10_askNow_220 (lv_at hl 5 rfl) ?_
                              refine zz_ti (show v30 = x14 by rw [hv30, if_pos c212]) ?_
                              exact hK31 ls (lv_sub hl [0, 3, 4, 6] rfl)
                            · refine lv_iload hx hb dX10_askNow_215 (lv_at hl 2 rfl) ?_
                              refine lv_goto (tgt := 222) hx hb dX10_askNow_217 (by decide) ?_
                              refine zz_ti (show v30 = y24 by rw [hv30, if_neg c212]) ?_
                              exact hK31 ls (lv_sub hl [0, 3, 4, 6] rfl)
                          refine lv_if_eq (tgt := 208) hx hb dX10_askNow_200 (by decide) (fun c200 => ?_) (fun c200 => ?_)
                          · refine lv_iload_n hx hb dX10_askNow_208 rfl (lv_at hl 4 rfl) ?_
                            refine zz_ti (show v28 = x13 by rw [hv28, if_pos c200]) ?_
                            exact hK29 ls (lv_sub hl [0, 1, 2, 3, 5, 6] rfl)
                          · refine lv_iload hx hb dX10_askNow_203 (lv_at hl 6 rfl) ?_
                            refine lv_goto (tgt := 209) hx hb dX10_askNow_205 (by decide) ?_
                            refine zz_ti (show v28 = x15 by rw [hv28, if_neg c200]) ?_
                            exact hK29 ls (lv_sub hl [0, 1, 2, 3, 5, 6] rfl)
                        refine lv_icmp_eq (tgt := 191) hx hb dX10_askNow_181 (by decide) (fun c181 => ?_) (fun c181 => ?_)
                        · refine lv_iconst (v := (1 : Int32)) hx hb dX10_askNow_191 (by decide) ?_
                          refine lv_goto (tgt := 196) hx hb dX10_askNow_192 (by decide) ?_
                          refine zz_ti (show v26 = (1 : Int32) by rw [hv26, if_pos c181]) ?_
                          exact hK27 ls (lv_sub hl [0, 1, 2, 3, 4, 5] rfl)
                        · refine lv_iload hx hb dX10_askNow_184 (lv_at hl 0 rfl) ?_
                          refine lv_iload hx hb dX10_askNow_186 (lv_at hl 4 rfl) ?_
                          refine lv_icmp_ge (tgt := 195) hx hb dX10_askNow_188 (by decide) (fun c188 => ?_) (fun c188 => ?_)
                          · refine lv_iconst (v := (0 : Int32)) hx hb dX10_askNow_195 (by decide) ?_
                            refine zz_ti (show v26 = (0 : Int32) by rw [hv26, if_neg c181, if_pos c188]) ?_
                            exact hK27 ls (lv_sub hl [0, 1, 2, 3, 4, 5] rfl)
                          · refine lv_iconst (v := (1 : Int32)) hx hb dX10_askNow_191 (by decide) ?_
                            refine lv_goto (tgt := 196) hx hb dX10_askNow_192 (by decide) ?_
                            refine zz_ti (show v26 = (1 : Int32) by rw [hv26, if_neg c181, if_neg c188]) ?_
                            exact hK27 ls (lv_sub hl [0, 1, 2, 3, 4, 5] rfl)
                      refine lv_icmp_le (tgt := 168) hx hb dX10_askNow_155 (by decide) (fun c155 => ?_) (fun c155 => ?_)
                      · have hf := zz_ps hf c155
                        refine lv_iload_n hx hb dX10_askNow_168 rfl (lv_at hl 1 rfl) ?_
                        refine lv_aload_n hx hb dX10_askNow_169 rfl (lv_at hl 0 rfl) ?_
                        refine va_get (D := D) (ci := 10) (v := .ref (q 15)) (C := RX10) (T := TX10) (N := 34) hx hb hts inX10 hown hK hP 0 rfl rfl 27 (by decide) lk53 (fun _ h9 => h9) rfl dX10_askNow_170 ?_
                        refine lv_iload hx hb dX10_askNow_173 (lv_at hl 4 rfl) ?_
                        obtain ⟨hg32, hf⟩ := zz_gd hf
                        refine va_iald hx hb hK hP 15 14 rfl rfl hg32 dX10_askNow_175 ?_
                        refine lv_isub hx hb dX10_askNow_176 ?_
                        exact Kj177_25 (x9 - ((zz_gA z11 14) (Int32.toNatClampNeg x15))) _ _ hP hD hS ls (lv_sub hl [0, 1, 2, 3, 4] rfl) hf
                      · have hf := zz_ng hf c155
                        refine lv_aload_n hx hb dX10_askNow_158 rfl (lv_at hl 0 rfl) ?_
                        refine va_get (D := D) (ci := 10) (v := .ref (q 15)) (C := RX10) (T := TX10) (N := 34) hx hb hts inX10 hown hK hP 0 rfl rfl 27 (by decide) lk53 (fun _ h9 => h9) rfl dX10_askNow_159 ?_
                        refine lv_iload hx hb dX10_askNow_162 (lv_at hl 4 rfl) ?_
                        obtain ⟨hg33, hf⟩ := zz_gd hf
                        refine va_iald hx hb hK hP 15 14 rfl rfl hg33 dX10_askNow_164 ?_
                        refine lv_goto (tgt := 177) hx hb dX10_askNow_165 (by decide) ?_
                        exact Kj177_25 ((zz_gA z11 14) (Int32.toNatClampNeg x15)) _ _ hP hD hS ls (lv_sub hl [0, 1, 2, 3, 4] rfl) hf
              exact hLkL119_15 F (-1 : Int32) (0 : Int32) (0 : Int32) _ _ hP hD hS ls (lv_sub hl [4, 5, 2, 1, 0] rfl) hf
            · have hf := zz_ng hf c39
              refine lv_iload_n hx hb dX10_askNow_42 rfl (lv_at hl 0 rfl) ?_
              refine lv_iload_n hx hb dX10_askNow_43 rfl (lv_at hl 3 rfl) ?_
              obtain ⟨r34, hc35, hf⟩ := zz_b1s hf
              refine zz_ji (va_runS (As := [.int r1, .int x10]) (rest := []) hfx (zc_X10_isIn l D tb  F r1 x10  r34 hc35 H.size) (va_cwS 2 hts gX10_askNow_X10_isIn rfl rfl rfl (by decide +kernel) ⟨Nat.le_of_ble_eq_true rfl, Nat.le_of_ble_eq_true rfl⟩) (zz_preS hK hP hD hS hA hE [] [] rfl (by decide) rfl) rfl rfl hl.1 rfl (lv_room (Nat.le_of_ble_eq_true rfl)) dX10_askNow_44 ⟨Nat.zero_le _, Nat.zero_le _⟩) hP hD hS hA [] rfl rfl (fun H locs hP hD hS => ?_)
              have hP : va_P D vwCl (zw_10 q k z11) H := hP
              have hD : va_D A (zw_10 q k z11) := hD
              obtain ⟨j105_38, hj105_38, hf⟩ := zz_lts hf
              have Kj105_38 : ∀ (x36 : Int32) (z37 : zz_M) (H : Heap) (locs : List Loc), va_P D vwCl (zw_10 q k z37) H → va_D A (zw_10 q k z37) → va_S A s.heap H locs → ∀ ls : Array Slot, lv_has ls 8 [(1, .int r1), (0, .ref (q 0)), (3, .int x10), (2, .int x36)] → j105_38 x36 z37 = some (r, o1) → W p l e rmX10_askNow s m args below meth c H locs 0 0 Q (F0 m 105 ls []) := by
                intro x36 z37 H locs hP hD hS ls hl hf
                rw [hj105_38] at hf
                obtain ⟨v39, hv39, hf⟩ := zz_lts hf
                refine lv_iinc (v := v39) (lv' := [(3, .int v39), (1, .int r1), (0, .ref (q 0)), (2, .int x36)]) hx hb dX10_askNow_105 hl (k := 2) rfl (by rw [hv39]; rfl) (by decide) rfl (fun ls hl => ?_)
                refine lv_goto (tgt := 34) hx hb dX10_askNow_108 (by decide) ?_
                exact ihkL34_11 x36 v39 z37 _ _ hP hD hS ls (lv_sub hl [1, 2, 3, 0] rfl) hf
              refine lv_if_eq (tgt := 105) hx hb dX10_askNow_47 (by decide) (fun c47 => ?_) (fun c47 => ?_)
              · have hf := zz_ps hf c47
                exact Kj105_38 x9 z11 _ _ hP hD hS ls (lv_sub hl [0, 1, 3, 2] rfl) hf
              · have hf := zz_ng hf c47
                refine lv_aload_n hx hb dX10_askNow_50 rfl (lv_at hl 1 rfl) ?_
                refine lv_iload_n hx hb dX10_askNow_51 rfl (lv_at hl 3 rfl) ?_
                refine lv_iconst (v := (-1 : Int32)) hx hb dX10_askNow_52 (by decide) ?_
                obtain ⟨S40, hc41, hf⟩ := zz_b1s hf
                refine zz_jv0 (va_runV (As := [.int x10, .int (-1 : Int32)]) (rest := []) hfx (zc_X10_without l D tb q k F x10 (-1 : Int32) z11 S40 hc41 H.size) (cwV 2 hts gX10_askNow_X10_without rfl rfl rfl (by decide +kernel) ⟨Nat.le_of_ble_eq_true rfl, Nat.le_of_ble_eq_true rfl⟩) (zz_pre0V hK hP hD hS hA hE 0 rfl rfl rfl) rfl rfl hl.1 rfl (lv_room (Nat.le_of_ble_eq_true rfl)) dX10_askNow_53 ⟨Nat.zero_le _, Nat.zero_le _⟩) hD hS hA (fun H locs hP hD hS => ?_)
                refine lv_aload_n hx hb dX10_askNow_56 rfl (lv_at hl 1 rfl) ?_
                obtain ⟨S42, hc43, hf⟩ := zz_b1s hf
                refine zz_jv0 (va_runV (As := []) (rest := []) hfx (zc_X10_walks l D tb q k F  S40 S42 hc43 H.size) (cwV 0 hts gX10_askNow_X10_walks rfl rfl rfl (by decide +kernel) ⟨Nat.le_of_ble_eq_true rfl, Nat.le_of_ble_eq_true rfl⟩) (zz_pre0V hK hP hD hS hA hE 0 rfl rfl rfl) rfl rfl hl.1 rfl (lv_room (Nat.le_of_ble_eq_true rfl)) dX10_askNow_57 ⟨Nat.zero_le _, Nat.zero_le _⟩) hD hS hA (fun H locs hP hD hS => ?_)
                obtain ⟨v44, hv44, hf⟩ := zz_lts hf
                refine lv_iinc (v := v44) (lv' := [(2, .int v44), (1, .int r1), (0, .ref (q 0)), (3, .int x10)]) hx hb dX10_askNow_60 hl (k := 2) rfl (by rw [hv44]; rfl) (by decide) rfl (fun ls hl => ?_)
                refine lv_iconst (v := (0 : Int32)) hx hb dX10_askNow_63 (by decide) ?_
                refine lv_istore (lv' := [(4, .int (0 : Int32)), (2, .int v44), (1, .int r1), (0, .ref (q 0)), (3, .int x10)]) hx hb dX10_askNow_64 hl (by decide) rfl (fun ls hl => ?_)
                have hLkL66_46 : ∀ (n66_46 : Nat) (x45 : Int32) (z46 : zz_M) (H : Heap) (locs : List Loc), va_P D vwCl (zw_10 q k z46) H → va_D A (zw_10 q k z46) → va_S A s.heap H locs → ∀ ls : Array Slot, lv_has ls 8 [(2, .int v44), (1, .int r1), (0, .ref (q 0)), (3, .int x10), (4, .int x45)] → pX10_askNow_L66_46 F j105_38 v44 n66_46 x45 z46 = some (r, o1) → W p l e rmX10_askNow s m args below meth c H locs 0 0 Q (F0 m 66 ls []) := by
                  intro n66_46
                  induction n66_46 with
                  | zero =>
                    intro x45 z46 H locs hP hD hS ls hl hf
                    exact nomatch (show (none : Option _) = some _ from hf)
                  | succ n66_46 ihkL66_46 =>
                    intro x45 z46 H locs hP hD hS ls hl hf
                    rw [pX10_askNow_L66_46] at hf
                    refine lv_iload hx hb dX10_askNow_66 (lv_at hl 4 rfl) ?_
                    refine lv_aload_n hx hb dX10_askNow_68 rfl (lv_at hl 2 rfl) ?_
                    refine va_get (D := D) (ci := 10) (v := .int (zz_gI z46 2)) (C := RX10) (T := TX10) (N := 34) hx hb hts inX10 hown hK hP 0 rfl rfl 4 (by decide) lk88 (fun _ h9 => h9) rfl dX10_askNow_69 ?_
                    refine lv_icmp_ge (tgt := 105) hx hb dX10_askNow_72 (by decide) (fun c72 => ?_) (fun c72 => ?_)
                    · have hf := zz_ps hf c72
                      exact Kj105_38 v44 z46 _ _ hP hD hS ls (lv_sub hl [1, 2, 3, 0] rfl) hf
                    · have hf := zz_ng hf c72
                      refine lv_aload_n hx hb dX10_askNow_75 rfl (lv_at hl 2 rfl) ?_
                      refine va_get (D := D) (ci := 10) (v := .ref (q 15)) (C := RX10) (T := TX10) (N := 34) hx hb hts inX10 hown hK hP 0 rfl rfl 27 (by decide) lk53 (fun _ h9 => h9) rfl dX10_askNow_76 ?_
                      refine lv_iload hx hb dX10_askNow_79 (lv_at hl 4 rfl) ?_
                      refine lv_dup2_11 hx hb dX10_askNow_81 rfl rfl ?_
                      obtain ⟨hg48, hf⟩ := zz_gd hf
                      refine va_iald hx hb hK hP 15 14 rfl rfl hg48 dX10_askNow_82 ?_
                      refine lv_aload_n hx hb dX10_askNow_83 rfl (lv_at hl 2 rfl) ?_
                      refine lv_iload hx hb dX10_askNow_84 (lv_at hl 4 rfl) ?_
                      obtain ⟨r49, hc50, hf⟩ := zz_b1s hf
                      refine zz_ji0 (va_runV (As := [.int x45]) (rest := [.int ((zz_gA z46 14) (Int32.toNatClampNeg x45)), .int x45, .ref (q 15)]) hfx (zc_X10_isTaken l D tb q k F x45 z46 r49 hc50 H.size) (cwV 1 hts gX10_askNow_X10_isTaken rfl rfl rfl (by decide +kernel) ⟨Nat.le_of_ble_eq_true rfl, Nat.le_of_ble_eq_true rfl⟩) (zz_pre0V hK hP hD hS hA hE 0 rfl rfl rfl) rfl rfl hl.1 rfl (lv_room (Nat.le_of_ble_eq_true rfl)) dX10_askNow_86 ⟨Nat.zero_le _, Nat.zero_le _⟩) hD hS hA (fun H locs hP hD hS => ?_)
                      obtain ⟨v51, hv51, hf⟩ := zz_lts hf
                      have hK52 : ∀ ls : Array Slot, lv_has ls 8 [(2, .int v44), (1, .int r1), (0, .ref (q 0)), (3, .int x10), (4, .int x45)] → W p l e rmX10_askNow s m args below meth c H locs 0 0 Q (F0 m 97 ls [.int v51, .int ((zz_gA z46 14) (Int32.toNatClampNeg x45)), .int x45, .ref (q 15)]) := by
                        intro ls hl
                        refine lv_iadd hx hb dX10_askNow_97 ?_
                        obtain ⟨hg53, hf⟩ := zz_gd hf
                        obtain ⟨S54, hS54, hf⟩ := zz_lts hf
                        refine va_iast hx hb hK hP hD hS 15 14 rfl rfl hg53 dX10_askNow_98 (fun H locs hP hD hS => ?_)
                        have hP : va_P D vwCl (zw_10 q k S54) H := by rw [hS54]; exact hP
                        have hD : va_D A (zw_10 q k S54) := by rw [hS54]; exact hD
                        obtain ⟨v55, hv55, hf⟩ := zz_lts hf
                        refine lv_iinc (v := v55) (lv' := [(4, .int v55), (2, .int v44), (1, .int r1), (0, .ref (q 0)), (3, .int x10)]) hx hb dX10_askNow_99 hl (k := 4) rfl (by rw [hv55]; rfl) (by decide) rfl (fun ls hl => ?_)
                        refine lv_goto (tgt := 66) hx hb dX10_askNow_102 (by decide) ?_
                        exact ihkL66_46 v55 S54 _ _ hP hD hS ls (lv_sub hl [1, 2, 3, 4, 0] rfl) hf
                      refine lv_if_eq (tgt := 96) hx hb dX10_askNow_89 (by decide) (fun c89 => ?_) (fun c89 => ?_)
                      · refine lv_iconst (v := (0 : Int32)) hx hb dX10_askNow_96 (by decide) ?_
                        refine zz_ti (show v51 = (0 : Int32) by rw [hv51, if_pos c89]) ?_
                        exact hK52 ls (lv_sub hl [0, 1, 2, 3, 4] rfl)
                      · refine lv_iconst (v := (1 : Int32)) hx hb dX10_askNow_92 (by decide) ?_
                        refine lv_goto (tgt := 97) hx hb dX10_askNow_93 (by decide) ?_
                        refine zz_ti (show v51 = (1 : Int32) by rw [hv51, if_neg c89]) ?_
                        exact hK52 ls (lv_sub hl [0, 1, 2, 3, 4] rfl)
                exact hLkL66_46 F (0 : Int32) S42 _ _ hP hD hS ls (lv_sub hl [1, 2, 3, 4, 0] rfl) hf
        exact hLkL34_11 F (0 : Int32) (0 : Int32) S7 _ _ hP hD hS ls (lv_sub hl [2, 3, 1, 0] rfl) hf
      · have hf := zz_ng hf c12
        refine lv_aload_n hx hb dX10_askNow_15 rfl (lv_at hl 2 rfl) ?_
        refine va_get (D := D) (ci := 10) (v := .ref (q 15)) (C := RX10) (T := TX10) (N := 34) hx hb hts inX10 hown hK hP 0 rfl rfl 27 (by decide) lk53 (fun _ h9 => h9) rfl dX10_askNow_16 ?_
        refine lv_iload_n hx hb dX10_askNow_19 rfl (lv_at hl 3 rfl) ?_
        refine lv_iconst (v := (0 : Int32)) hx hb dX10_askNow_20 (by decide) ?_
        obtain ⟨hg56, hf⟩ := zz_gd hf
        obtain ⟨S57, hS57, hf⟩ := zz_lts hf
        refine va_iast hx hb hK hP hD hS 15 14 rfl rfl hg56 dX10_askNow_21 (fun H locs hP hD hS => ?_)
        have hP : va_P D vwCl (zw_10 q k S57) H := by rw [hS57]; exact hP
        have hD : va_D A (zw_10 q k S57) := by rw [hS57]; exact hD
        obtain ⟨v58, hv58, hf⟩ := zz_lts hf
        refine lv_iinc (v := v58) (lv' := [(3, .int v58), (2, .int (0 : Int32)), (1, .int r1), (0, .ref (q 0))]) hx hb dX10_askNow_22 hl (k := 3) rfl (by rw [hv58]; rfl) (by decide) rfl (fun ls hl => ?_)
        refine lv_goto (tgt := 9) hx hb dX10_askNow_25 (by decide) ?_
        exact ihkL9_5 v58 S57 _ _ hP hD hS ls (lv_sub hl [1, 2, 3, 0] rfl) hf
  exact hLkL9_5 F (0 : Int32) S2 _ _ hP hD hS ls (lv_sub hl [1, 2, 3, 0] rfl) hf
def rmX10_ask : Room := { frames := 9, cells := 0, slots := 0, locals := 208 }
set_option maxHeartbeats 4000000 in
set_option maxRecDepth 100000 in
theorem zc_X10_ask (l : Launch) (D : va_G) (tb : Nat → Nat) (q : Nat → Nat) (k : Nat → ClassId) (F : Nat)  (S : zz_M) (r : Int32) (o1 : zz_M) (hf : pX10_ask F S = some (r, o1)) : zz_Mi l yX10_ask wsX10_ask rmX10_ask D tb [((k 1), .int), ((k 2), .int), ((k 3), .int), ((k 4), .int), ((k 5), .int), ((k 6), .int), ((k 7), .int), ((k 8), .boolean), ((k 9), .int), ((k 10), .int), ((k 11), .int), ((k 12), .int), ((k 13), .int), ((k 14), .int), ((k 15), .int), ((k 16), .boolean), ((k 17), .int), ((k 18), .int), ((k 19), .int), ((k 20), .int)] [.ref (q 0)] (zw_10 q k S) (zw_10 q k o1) r := by
  refine zz_ofi (cc := cX10_ask) (maxL := 1) (by decide) rfl (Nat.le_of_ble_eq_true rfl) ?_
  intro p e s m args below meth c A Q hfx hK hA hE hret H locs hP hD hS ls hl
  obtain ⟨hx, hb, hml, hown, hts⟩ := id hfx
  have hl : lv_has ls 1 [(0, .ref (q 0))] := hl
  unfold pX10_ask at hf
  refine lv_aload_n hx hb dX10_ask_0 rfl (lv_at hl 0 rfl) ?_
  obtain ⟨r1, S2, hc3, hf⟩ := zz_b2s hf
  refine zz_ji0 (va_runV (As := []) (rest := []) hfx (zc_X10_askNow l D tb q k F  S r1 S2 hc3 H.size) (cwV 0 hts gX10_ask_X10_askNow rfl rfl rfl (by decide +kernel) ⟨Nat.le_of_ble_eq_true rfl, Nat.le_of_ble_eq_true rfl⟩) (zz_pre0V hK hP hD hS hA hE 0 rfl rfl rfl) rfl rfl hl.1 rfl (lv_room (Nat.le_of_ble_eq_true rfl)) dX10_ask_1 ⟨Nat.zero_le _, Nat.zero_le _⟩) hD hS hA (fun H locs hP hD hS => ?_)
  obtain ⟨rfl, rfl⟩ := zz_e2 hf
  exact hret _ _ _ _ dX10_ask_4 hP hD hS
def rmX10_foggedOf : Room := { frames := 6, cells := 0, slots := 0, locals := 136 }
set_option maxHeartbeats 4000000 in
set_option maxRecDepth 100000 in
theorem zc_X10_foggedOf (l : Launch) (D : va_G) (tb : Nat → Nat) (q : Nat → Nat) (k : Nat → ClassId) (F : Nat) (u0 : Int32) (u1 : Int32) (u2 : Int32) (u3 : Int32) (S : zz_M) (r : Int64) (o1 : zz_M) (hf : pX10_foggedOf F u0 u1 u2 u3 S = some (r, o1)) : zz_Ml l yX10_foggedOf wsX10_foggedOf rmX10_foggedOf D tb [((k 1), .int), ((k 2), .int), ((k 3), .int), ((k 4), .int), ((k 5), .int), ((k 6), .int), ((k 7), .int), ((k 8), .boolean), ((k 9), .int), ((k 10), .int), ((k 11), .int), ((k 12), .int), ((k 13), .int), ((k 14), .int), ((k 15), .int), ((k 16), .boolean), ((k 17), .int), ((k 18), .int), ((k 19), .int), ((k 20), .int)] [.ref (q 0), .int u0, .int u1, .int u2, .int u3] (zw_10 q k S) (zw_10 q k o1) r := by
  refine zz_ofl (cc := cX10_foggedOf) (maxL := 11) (by decide) rfl (Nat.le_of_ble_eq_true rfl) ?_
  intro p e s m args below meth c A Q hfx hK hA hE hret H locs hP hD hS ls hl
  obtain ⟨hx, hb, hml, hown, hts⟩ := id hfx
  have inX10 : ∀ w ∈ u_ws RX10 TX10 34, w ∈ wsX10_foggedOf := by decide +kernel
  have lk31 := hts (.fieldLink RX10 31 "CatBeatModel" "isFog" "[Z") (by decide +kernel)
  have hl : lv_has ls 11 [(0, .ref (q 0)), (1, .int u0), (2, .int u1), (3, .int u2), (4, .int u3)] := hl
  unfold pX10_foggedOf at hf
  refine lv_aload_n hx hb dX10_foggedOf_0 rfl (lv_at hl 0 rfl) ?_
  obtain ⟨S1, hc2, hf⟩ := zz_b1s hf
  refine zz_jv0 (va_runV (As := []) (rest := []) hfx (zc_X10_asTold l D tb q k F  S S1 hc2 H.size) (cwV 0 hts gX10_foggedOf_X10_asTold rfl rfl rfl (by decide +kernel) ⟨Nat.le_of_ble_eq_true rfl, Nat.le_of_ble_eq_true rfl⟩) (zz_pre0V hK hP hD hS hA hE 0 rfl rfl rfl) rfl rfl hl.1 rfl (lv_room (Nat.le_of_ble_eq_true rfl)) dX10_foggedOf_1 ⟨Nat.zero_le _, Nat.zero_le _⟩) hD hS hA (fun H locs hP hD hS => ?_)
  refine lv_lconst (v := (0 : Int64)) hx hb dX10_foggedOf_4 (by decide) ?_
  refine lv_lstore (lv' := [(5, .long (0 : Int64)), (0, .ref (q 0)), (1, .int u0), (2, .int u1), (3, .int u2), (4, .int u3)]) hx hb dX10_foggedOf_5 hl (by decide) rfl (fun ls hl => ?_)
  refine lv_iconst (v := (0 : Int32)) hx hb dX10_foggedOf_7 (by decide) ?_
  refine lv_istore (lv' := [(7, .int (0 : Int32)), (5, .long (0 : Int64)), (0, .ref (q 0)), (1, .int u0), (2, .int u1), (3, .int u2), (4, .int u3)]) hx hb dX10_foggedOf_8 hl (by decide) rfl (fun ls hl => ?_)
  have hLkL10_4 : ∀ (n10_4 : Nat) (x3 : Int32) (z4 : zz_M) (H : Heap) (locs : List Loc), va_P D vwCl (zw_10 q k z4) H → va_D A (zw_10 q k z4) → va_S A s.heap H locs → ∀ ls : Array Slot, lv_has ls 11 [(5, .long (0 : Int64)), (0, .ref (q 0)), (1, .int u0), (2, .int u1), (3, .int u2), (4, .int u3), (7, .int x3)] → pX10_foggedOf_L10_4 u0 u1 u2 u3 F n10_4 x3 z4 = some (r, o1) → W p l e rmX10_foggedOf s m args below meth c H locs 0 0 Q (F0 m 10 ls []) := by
    intro n10_4
    induction n10_4 with
    | zero =>
      intro x3 z4 H locs hP hD hS ls hl hf
      exact nomatch (show (none : Option _) = some _ from hf)
    | succ n10_4 ihkL10_4 =>
      intro x3 z4 H locs hP hD hS ls hl hf
      rw [pX10_foggedOf_L10_4] at hf
      refine lv_iload hx hb dX10_foggedOf_10 (lv_at hl 6 rfl) ?_
      refine lv_bipush (v := (96 : Int32)) hx hb dX10_foggedOf_12 (by decide) ?_
      refine lv_icmp_ge (tgt := 31) hx hb dX10_foggedOf_14 (by decide) (fun c14 => ?_) (fun c14 => ?_)
      · have hf := zz_ps hf c14
        refine lv_iconst (v := (0 : Int32)) hx hb dX10_foggedOf_31 (by decide) ?_
        refine lv_istore (lv' := [(7, .int (0 : Int32)), (5, .long (0 : Int64)), (0, .ref (q 0)), (1, .int u0), (2, .int u1), (3, .int u2), (4, .int u3)]) hx hb dX10_foggedOf_32 hl (by decide) rfl (fun ls hl => ?_)
        have hLkL34_8 : ∀ (n34_8 : Nat) (x6 : Int64) (x7 : Int32) (z8 : zz_M) (H : Heap) (locs : List Loc), va_P D vwCl (zw_10 q k z8) H → va_D A (zw_10 q k z8) → va_S A s.heap H locs → ∀ ls : Array Slot, lv_has ls 11 [(0, .ref (q 0)), (1, .int u0), (2, .int u1), (3, .int u2), (4, .int u3), (5, .long x6), (7, .int x7)] → pX10_foggedOf_L34_8 u0 u1 u2 u3 F n34_8 x6 x7 z8 = some (r, o1) → W p l e rmX10_foggedOf s m args below meth c H locs 0 0 Q (F0 m 34 ls []) := by
          intro n34_8
          induction n34_8 with
          | zero =>
            intro x6 x7 z8 H locs hP hD hS ls hl hf
            exact nomatch (show (none : Option _) = some _ from hf)
          | succ n34_8 ihkL34_8 =>
            intro x6 x7 z8 H locs hP hD hS ls hl hf
            rw [pX10_foggedOf_L34_8] at hf
            refine lv_iload hx hb dX10_foggedOf_34 (lv_at hl 6 rfl) ?_
            refine lv_iconst (v := (1 : Int32)) hx hb dX10_foggedOf_36 (by decide) ?_
            refine lv_iload_n hx hb dX10_foggedOf_37 rfl (lv_at hl 2 rfl) ?_
            refine lv_iconst (v := (1 : Int32)) hx hb dX10_foggedOf_38 (by decide) ?_
            refine lv_iadd hx hb dX10_foggedOf_39 ?_
            refine lv_ishl hx hb dX10_foggedOf_40 ?_
            refine lv_icmp_ge (tgt := 131) hx hb dX10_foggedOf_41 (by decide) (fun c41 => ?_) (fun c41 => ?_)
            · have hf := zz_ps hf c41
              refine lv_lload hx hb dX10_foggedOf_131 (lv_at hl 5 rfl) ?_
              refine lv_lconst (v := (1 : Int64)) hx hb dX10_foggedOf_133 (by decide) ?_
              refine lv_iconst (v := (4 : Int32)) hx hb dX10_foggedOf_134 (by decide) ?_
              refine lv_iload_n hx hb dX10_foggedOf_135 rfl (lv_at hl 2 rfl) ?_
              refine lv_iconst (v := (1 : Int32)) hx hb dX10_foggedOf_136 (by decide) ?_
              refine lv_iadd hx hb dX10_foggedOf_137 ?_
              refine lv_imul hx hb dX10_foggedOf_138 ?_
              refine lv_lshl (v := (zz_lshl (1 : Int64) ((4 : Int32) * (u1 + (1 : Int32))))) hx hb dX10_foggedOf_139 rfl ?_
              refine lv_iload hx hb dX10_foggedOf_140 (lv_at hl 4 rfl) ?_
              obtain ⟨r10, hc11, hf⟩ := zz_b1s hf
              refine zz_jl (va_runS (As := [.long x6, .long (zz_lshl (1 : Int64) ((4 : Int32) * (u1 + (1 : Int32)))), .int u3]) (rest := []) hfx (zc_X10_lowest l D tb  F x6 (zz_lshl (1 : Int64) ((4 : Int32) * (u1 + (1 : Int32)))) u3  r10 hc11 H.size) (va_cwS 3 hts gX10_foggedOf_X10_lowest rfl rfl rfl (by decide +kernel) ⟨Nat.le_of_ble_eq_true rfl, Nat.le_of_ble_eq_true rfl⟩) (zz_preS hK hP hD hS hA hE [] [] rfl (by decide) rfl) rfl rfl hl.1 rfl (lv_room (Nat.le_of_ble_eq_true rfl)) dX10_foggedOf_142 ⟨Nat.zero_le _, Nat.zero_le _⟩) hP hD hS hA [] rfl rfl (fun H locs hP hD hS => ?_)
              have hP : va_P D vwCl (zw_10 q k z8) H := hP
              have hD : va_D A (zw_10 q k z8) := hD
              obtain ⟨rfl, rfl⟩ := zz_e2 hf
              exact hret _ _ _ _ dX10_foggedOf_145 hP hD hS
            · have hf := zz_ng hf c41
              refine lv_lconst (v := (1 : Int64)) hx hb dX10_foggedOf_44 (by decide) ?_
              refine lv_lstore (lv' := [(8, .long (1 : Int64)), (0, .ref (q 0)), (1, .int u0), (2, .int u1), (3, .int u2), (4, .int u3), (5, .long x6), (7, .int x7)]) hx hb dX10_foggedOf_45 hl (by decide) rfl (fun ls hl => ?_)
              refine lv_iconst (v := (0 : Int32)) hx hb dX10_foggedOf_47 (by decide) ?_
              refine lv_istore (lv' := [(10, .int (0 : Int32)), (8, .long (1 : Int64)), (0, .ref (q 0)), (1, .int u0), (2, .int u1), (3, .int u2), (4, .int u3), (5, .long x6), (7, .int x7)]) hx hb dX10_foggedOf_48 hl (by decide) rfl (fun ls hl => ?_)
              have hLkL50_14 : ∀ (n50_14 : Nat) (x12 : Int64) (x13 : Int32) (z14 : zz_M) (H : Heap) (locs : List Loc), va_P D vwCl (zw_10 q k z14) H → va_D A (zw_10 q k z14) → va_S A s.heap H locs → ∀ ls : Array Slot, lv_has ls 11 [(0, .ref (q 0)), (1, .int u0), (2, .int u1), (3, .int u2), (4, .int u3), (5, .long x6), (7, .int x7), (8, .long x12), (10, .int x13)] → pX10_foggedOf_L50_14 u0 u1 u2 F x6 x7 (fun b0 b1 b2 => pX10_foggedOf_L34_8 u0 u1 u2 u3 F n34_8 b0 b1 b2) n50_14 x12 x13 z14 = some (r, o1) → W p l e rmX10_foggedOf s m args below meth c H locs 0 0 Q (F0 m 50 ls []) := by
                intro n50_14
                induction n50_14 with
                | zero =>
                  intro x12 x13 z14 H locs hP hD hS ls hl hf
                  exact nomatch (show (none : Option _) = some _ from hf)
                | succ n50_14 ihkL50_14 =>
                  intro x12 x13 z14 H locs hP hD hS ls hl hf
                  rw [pX10_foggedOf_L50_14] at hf
                  refine lv_iload hx hb dX10_foggedOf_50 (lv_at hl 8 rfl) ?_
                  refine lv_iload_n hx hb dX10_foggedOf_52 rfl (lv_at hl 2 rfl) ?_
                  refine lv_icmp_gt (tgt := 101) hx hb dX10_foggedOf_53 (by decide) (fun c53 => ?_) (fun c53 => ?_)
                  · have hf := zz_ps hf c53
                    refine lv_aload_n hx hb dX10_foggedOf_101 rfl (lv_at hl 0 rfl) ?_
                    obtain ⟨S16, hc17, hf⟩ := zz_b1s hf
                    refine zz_jv0 (va_runV (As := []) (rest := []) hfx (zc_X10_walks l D tb q k F  z14 S16 hc17 H.size) (cwV 0 hts gX10_foggedOf_X10_walks rfl rfl rfl (by decide +kernel) ⟨Nat.le_of_ble_eq_true rfl, Nat.le_of_ble_eq_true rfl⟩) (zz_pre0V hK hP hD hS hA hE 0 rfl rfl rfl) rfl rfl hl.1 rfl (lv_room (Nat.le_of_ble_eq_true rfl)) dX10_foggedOf_102 ⟨Nat.zero_le _, Nat.zero_le _⟩) hD hS hA (fun H locs hP hD hS => ?_)
                    refine lv_lload hx hb dX10_foggedOf_105 (lv_at hl 5 rfl) ?_
                    refine lv_aload_n hx hb dX10_foggedOf_107 rfl (lv_at hl 0 rfl) ?_
                    refine lv_iload_n hx hb dX10_foggedOf_108 rfl (lv_at hl 3 rfl) ?_
                    obtain ⟨r18, hc19, hf⟩ := zz_b1s hf
                    refine zz_ji0 (va_runV (As := [.int u2]) (rest := [.long x6]) hfx (zc_X10_takesNow l D tb q k F u2 S16 r18 hc19 H.size) (cwV 1 hts gX10_foggedOf_X10_takesNow rfl rfl rfl (by decide +kernel) ⟨Nat.le_of_ble_eq_true rfl, Nat.le_of_ble_eq_true rfl⟩) (zz_pre0V hK hP hD hS hA hE 0 rfl rfl rfl) rfl rfl hl.1 rfl (lv_room (Nat.le_of_ble_eq_true rfl)) dX10_foggedOf_109 ⟨Nat.zero_le _, Nat.zero_le _⟩) hD hS hA (fun H locs hP hD hS => ?_)
                    refine lv_iconst (v := (-1 : Int32)) hx hb dX10_foggedOf_112 (by decide) ?_
                    obtain ⟨v20, hv20, hf⟩ := zz_lts hf
                    have hK21 : ∀ ls : Array Slot, lv_has ls 11 [(0, .ref (q 0)), (1, .int u0), (2, .int u1), (3, .int u2), (4, .int u3), (7, .int x7)] → W p l e rmX10_foggedOf s m args below meth c H locs 0 0 Q (F0 m 122 ls [.long v20, .long x6]) := by
                      intro ls hl
                      refine lv_ladd hx hb dX10_foggedOf_122 ?_
                      obtain ⟨v22, hv22, hf⟩ := zz_lts hf
                      refine zz_tl hv22 ?_
                      refine lv_lstore (lv' := [(5, .long v22), (0, .ref (q 0)), (1, .int u0), (2, .int u1), (3, .int u2), (4, .int u3), (7, .int x7)]) hx hb dX10_foggedOf_123 hl (by decide) rfl (fun ls hl => ?_)
                      obtain ⟨v23, hv23, hf⟩ := zz_lts hf
                      refine lv_iinc (v := v23) (lv' := [(7, .int v23), (5, .long v22), (0, .ref (q 0)), (1, .int u0), (2, .int u1), (3, .int u2), (4, .int u3)]) hx hb dX10_foggedOf_125 hl (k := 6) rfl (by rw [hv23]; rfl) (by decide) rfl (fun ls hl => ?_)
                      refine lv_goto (tgt := 34) hx hb dX10_foggedOf_128 (by decide) ?_
                      exact ihkL34_8 v22 v23 S16 _ _ hP hD hS ls (lv_sub hl [2, 3, 4, 5, 6, 1, 0] rfl) hf
                    refine lv_icmp_eq (tgt := 121) hx hb dX10_foggedOf_113 (by decide) (fun c113 => ?_) (fun c113 => ?_)
                    · refine lv_lconst (v := (0 : Int64)) hx hb dX10_foggedOf_121 (by decide) ?_
                      refine zz_tl (show v20 = (0 : Int64) by rw [hv20, if_pos c113]) ?_
                      exact hK21 ls (lv_sub hl [0, 1, 2, 3, 4, 6] rfl)
                    · refine lv_lload hx hb dX10_foggedOf_116 (lv_at hl 7 rfl) ?_
                      refine lv_goto (tgt := 122) hx hb dX10_foggedOf_118 (by decide) ?_
                      refine zz_tl (show v20 = x12 by rw [hv20, if_neg c113]) ?_
                      exact hK21 ls (lv_sub hl [0, 1, 2, 3, 4, 6] rfl)
                  · have hf := zz_ng hf c53
                    refine lv_aload_n hx hb dX10_foggedOf_56 rfl (lv_at hl 0 rfl) ?_
                    refine va_get (D := D) (ci := 10) (v := .ref (q 8)) (C := RX10) (T := TX10) (N := 34) hx hb hts inX10 hown hK hP 0 rfl rfl 17 (by decide) lk31 (fun _ h9 => h9) rfl dX10_foggedOf_57 ?_
                    refine lv_iload hx hb dX10_foggedOf_60 (lv_at hl 8 rfl) ?_
                    refine lv_iload hx hb dX10_foggedOf_62 (lv_at hl 6 rfl) ?_
                    refine lv_iload hx hb dX10_foggedOf_64 (lv_at hl 8 rfl) ?_
                    obtain ⟨r24, hc25, hf⟩ := zz_b1s hf
                    refine zz_ji (va_runS (As := [.int x7, .int x13]) (rest := [.int x13, .ref (q 8)]) hfx (zc_X10_isIn l D tb  F x7 x13  r24 hc25 H.size) (va_cwS 2 hts gX10_foggedOf_X10_isIn rfl rfl rfl (by decide +kernel) ⟨Nat.le_of_ble_eq_true rfl, Nat.le_of_ble_eq_true rfl⟩) (zz_preS hK hP hD hS hA hE [] [] rfl (by decide) rfl) rfl rfl hl.1 rfl (lv_room (Nat.le_of_ble_eq_true rfl)) dX10_foggedOf_66 ⟨Nat.zero_le _, Nat.zero_le _⟩) hP hD hS hA [] rfl rfl (fun H locs hP hD hS => ?_)
                    have hP : va_P D vwCl (zw_10 q k z14) H := hP
                    have hD : va_D A (zw_10 q k z14) := hD
                    obtain ⟨hg26, hf⟩ := zz_gd hf
                    obtain ⟨S27, hS27, hf⟩ := zz_lts hf
                    refine va_zast hx hb hK hP hD hS 8 7 rfl rfl hg26 dX10_foggedOf_69 (fun H locs hP hD hS => ?_)
                    have hP : va_P D vwCl (zw_10 q k S27) H := by rw [hS27]; exact hP
                    have hD : va_D A (zw_10 q k S27) := by rw [hS27]; exact hD
                    refine lv_lload hx hb dX10_foggedOf_70 (lv_at hl 7 rfl) ?_
                    refine lv_aload_n hx hb dX10_foggedOf_72 rfl (lv_at hl 0 rfl) ?_
                    refine va_get (D := D) (ci := 10) (v := .ref (q 8)) (C := RX10) (T := TX10) (N := 34) hx hb hts inX10 hown hK hP 0 rfl rfl 17 (by decide) lk31 (fun _ h9 => h9) rfl dX10_foggedOf_73 ?_
                    refine lv_iload hx hb dX10_foggedOf_76 (lv_at hl 8 rfl) ?_
                    obtain ⟨hg28, hf⟩ := zz_gd hf
                    refine va_zald hx hb hK hP 8 7 rfl rfl hg28 dX10_foggedOf_78 ?_
                    obtain ⟨v29, hv29, hf⟩ := zz_lts hf
                    have hK30 : ∀ ls : Array Slot, lv_has ls 11 [(0, .ref (q 0)), (1, .int u0), (2, .int u1), (3, .int u2), (4, .int u3), (5, .long x6), (7, .int x7), (10, .int x13)] → W p l e rmX10_foggedOf s m args below meth c H locs 0 0 Q (F0 m 92 ls [.long v29, .long x12]) := by
                      intro ls hl
                      refine lv_lmul hx hb dX10_foggedOf_92 ?_
                      obtain ⟨v31, hv31, hf⟩ := zz_lts hf
                      refine zz_tl hv31 ?_
                      refine lv_lstore (lv' := [(8, .long v31), (0, .ref (q 0)), (1, .int u0), (2, .int u1), (3, .int u2), (4, .int u3), (5, .long x6), (7, .int x7), (10, .int x13)]) hx hb dX10_foggedOf_93 hl (by decide) rfl (fun ls hl => ?_)
                      obtain ⟨v32, hv32, hf⟩ := zz_lts hf
                      refine lv_iinc (v := v32) (lv' := [(10, .int v32), (8, .long v31), (0, .ref (q 0)), (1, .int u0), (2, .int u1), (3, .int u2), (4, .int u3), (5, .long x6), (7, .int x7)]) hx hb dX10_foggedOf_95 hl (k := 8) rfl (by rw [hv32]; rfl) (by decide) rfl (fun ls hl => ?_)
                      refine lv_goto (tgt := 50) hx hb dX10_foggedOf_98 (by decide) ?_
                      exact ihkL50_14 v31 v32 S27 _ _ hP hD hS ls (lv_sub hl [2, 3, 4, 5, 6, 7, 8, 1, 0] rfl) hf
                    refine lv_if_eq (tgt := 87) hx hb dX10_foggedOf_79 (by decide) (fun c79 => ?_) (fun c79 => ?_)
                    · refine lv_bipush (v := (16 : Int32)) hx hb dX10_foggedOf_87 (by decide) ?_
                      refine lv_iload_n hx hb dX10_foggedOf_89 rfl (lv_at hl 1 rfl) ?_
                      refine lv_isub hx hb dX10_foggedOf_90 ?_
                      refine lv_i2l (v := (Int32.toInt64 ((16 : Int32) - u0))) hx hb dX10_foggedOf_91 rfl ?_
                      refine zz_tl (show v29 = (Int32.toInt64 ((16 : Int32) - u0)) by rw [hv29, if_pos c79]) ?_
                      exact hK30 ls (lv_sub hl [0, 1, 2, 3, 4, 5, 6, 8] rfl)
                    · refine lv_iload_n hx hb dX10_foggedOf_82 rfl (lv_at hl 1 rfl) ?_
                      refine lv_i2l (v := (Int32.toInt64 u0)) hx hb dX10_foggedOf_83 rfl ?_
                      refine lv_goto (tgt := 92) hx hb dX10_foggedOf_84 (by decide) ?_
                      refine zz_tl (show v29 = (Int32.toInt64 u0) by rw [hv29, if_neg c79]) ?_
                      exact hK30 ls (lv_sub hl [0, 1, 2, 3, 4, 5, 6, 8] rfl)
              exact hLkL50_14 F (1 : Int64) (0 : Int32) z8 _ _ hP hD hS ls (lv_sub hl [2, 3, 4, 5, 6, 7, 8, 1, 0] rfl) hf
        exact hLkL34_8 F (0 : Int64) (0 : Int32) z4 _ _ hP hD hS ls (lv_sub hl [2, 3, 4, 5, 6, 1, 0] rfl) hf
      · have hf := zz_ng hf c14
        refine lv_aload_n hx hb dX10_foggedOf_17 rfl (lv_at hl 1 rfl) ?_
        refine va_get (D := D) (ci := 10) (v := .ref (q 8)) (C := RX10) (T := TX10) (N := 34) hx hb hts inX10 hown hK hP 0 rfl rfl 17 (by decide) lk31 (fun _ h9 => h9) rfl dX10_foggedOf_18 ?_
        refine lv_iload hx hb dX10_foggedOf_21 (lv_at hl 6 rfl) ?_
        refine lv_iconst (v := (0 : Int32)) hx hb dX10_foggedOf_23 (by decide) ?_
        obtain ⟨hg33, hf⟩ := zz_gd hf
        obtain ⟨S34, hS34, hf⟩ := zz_lts hf
        refine va_zast hx hb hK hP hD hS 8 7 rfl rfl hg33 dX10_foggedOf_24 (fun H locs hP hD hS => ?_)
        have hP : va_P D vwCl (zw_10 q k S34) H := by rw [hS34]; exact hP
        have hD : va_D A (zw_10 q k S34) := by rw [hS34]; exact hD
        obtain ⟨v35, hv35, hf⟩ := zz_lts hf
        refine lv_iinc (v := v35) (lv' := [(7, .int v35), (5, .long (0 : Int64)), (0, .ref (q 0)), (1, .int u0), (2, .int u1), (3, .int u2), (4, .int u3)]) hx hb dX10_foggedOf_25 hl (k := 6) rfl (by rw [hv35]; rfl) (by decide) rfl (fun ls hl => ?_)
        refine lv_goto (tgt := 10) hx hb dX10_foggedOf_28 (by decide) ?_
        exact ihkL10_4 v35 S34 _ _ hP hD hS ls (lv_sub hl [1, 2, 3, 4, 5, 6, 0] rfl) hf
  exact hLkL10_4 F (0 : Int32) S1 _ _ hP hD hS ls (lv_sub hl [1, 2, 3, 4, 5, 6, 0] rfl) hf
def rmX10_fogged : Room := { frames := 7, cells := 0, slots := 0, locals := 166 }
set_option maxHeartbeats 4000000 in
set_option maxRecDepth 100000 in
theorem zc_X10_fogged (l : Launch) (D : va_G) (tb : Nat → Nat) (q : Nat → Nat) (k : Nat → ClassId) (F : Nat) (u0 : Int32) (u1 : Int32) (u2 : Int32) (u3 : Int32) (S : zz_M) (r : Int64) (o1 : zz_M) (hf : pX10_fogged F u0 u1 u2 u3 S = some (r, o1)) : zz_Ml l yX10_fogged wsX10_fogged rmX10_fogged D tb [((k 1), .int), ((k 2), .int), ((k 3), .int), ((k 4), .int), ((k 5), .int), ((k 6), .int), ((k 7), .int), ((k 8), .boolean), ((k 9), .int), ((k 10), .int), ((k 11), .int), ((k 12), .int), ((k 13), .int), ((k 14), .int), ((k 15), .int), ((k 16), .boolean), ((k 17), .int), ((k 18), .int), ((k 19), .int), ((k 20), .int)] [.ref (q 0), .int u0, .int u1, .int u2, .int u3] (zw_10 q k S) (zw_10 q k o1) r := by
  refine zz_ofl (cc := cX10_fogged) (maxL := 5) (by decide) rfl (Nat.le_of_ble_eq_true rfl) ?_
  intro p e s m args below meth c A Q hfx hK hA hE hret H locs hP hD hS ls hl
  obtain ⟨hx, hb, hml, hown, hts⟩ := id hfx
  have hl : lv_has ls 5 [(0, .ref (q 0)), (1, .int u0), (2, .int u1), (3, .int u2), (4, .int u3)] := hl
  unfold pX10_fogged at hf
  refine lv_iload_n hx hb dX10_fogged_0 rfl (lv_at hl 1 rfl) ?_
  refine lv_iconst (v := (0 : Int32)) hx hb dX10_fogged_1 (by decide) ?_
  refine lv_bipush (v := (16 : Int32)) hx hb dX10_fogged_2 (by decide) ?_
  obtain ⟨r1, hc2, hf⟩ := zz_b1s hf
  refine zz_ji (va_runS (As := [.int u0, .int (0 : Int32), .int (16 : Int32)]) (rest := []) hfx (zc_X10_in l D tb  F u0 (0 : Int32) (16 : Int32)  r1 hc2 H.size) (va_cwS 3 hts gX10_fogged_X10_in rfl rfl rfl (by decide +kernel) ⟨Nat.le_of_ble_eq_true rfl, Nat.le_of_ble_eq_true rfl⟩) (zz_preS hK hP hD hS hA hE [] [] rfl (by decide) rfl) rfl rfl hl.1 rfl (lv_room (Nat.le_of_ble_eq_true rfl)) dX10_fogged_4 ⟨Nat.zero_le _, Nat.zero_le _⟩) hP hD hS hA [] rfl rfl (fun H locs hP hD hS => ?_)
  have hP : va_P D vwCl (zw_10 q k S) H := hP
  have hD : va_D A (zw_10 q k S) := hD
  obtain ⟨j55_5, hj55_5, hf⟩ := zz_lts hf
  have Kj55_5 : ∀ (y3 : Int64) (z4 : zz_M) (H : Heap) (locs : List Loc), va_P D vwCl (zw_10 q k z4) H → va_D A (zw_10 q k z4) → va_S A s.heap H locs → ∀ ls : Array Slot, lv_has ls 5 [] → j55_5 y3 z4 = some (r, o1) → W p l e rmX10_fogged s m args below meth c H locs 0 0 Q (F0 m 55 ls [.long y3]) := by
    intro y3 z4 H locs hP hD hS ls hl hf
    rw [hj55_5] at hf
    obtain ⟨rfl, rfl⟩ := zz_e2 hf
    exact hret _ _ _ _ dX10_fogged_55 hP hD hS
  obtain ⟨j50_7, hj50_7, hf⟩ := zz_lts hf
  have Kj50_7 : ∀ (z6 : zz_M) (H : Heap) (locs : List Loc), va_P D vwCl (zw_10 q k z6) H → va_D A (zw_10 q k z6) → va_S A s.heap H locs → ∀ ls : Array Slot, lv_has ls 5 [] → j50_7 z6 = some (r, o1) → W p l e rmX10_fogged s m args below meth c H locs 0 0 Q (F0 m 50 ls []) := by
    intro z6 H locs hP hD hS ls hl hf
    rw [hj50_7] at hf
    refine lv_bipush (v := (-2 : Int32)) hx hb dX10_fogged_50 (by decide) ?_
    obtain ⟨r8, hc9, hf⟩ := zz_b1s hf
    refine zz_jl (va_runS (As := [.int (-2 : Int32)]) (rest := []) hfx (zc_X10_no l D tb  F (-2 : Int32)  r8 hc9 H.size) (va_cwS 1 hts gX10_fogged_X10_no rfl rfl rfl (by decide +kernel) ⟨Nat.le_of_ble_eq_true rfl, Nat.le_of_ble_eq_true rfl⟩) (zz_preS hK hP hD hS hA hE [] [] rfl (by decide) rfl) rfl rfl hl.1 rfl (lv_room (Nat.le_of_ble_eq_true rfl)) dX10_fogged_52 ⟨Nat.zero_le _, Nat.zero_le _⟩) hP hD hS hA [] rfl rfl (fun H locs hP hD hS => ?_)
    have hP : va_P D vwCl (zw_10 q k z6) H := hP
    have hD : va_D A (zw_10 q k z6) := hD
    exact Kj55_5 r8 z6 _ _ hP hD hS ls (lv_sub hl [] rfl) hf
  refine lv_if_eq (tgt := 50) hx hb dX10_fogged_7 (by decide) (fun c7 => ?_) (fun c7 => ?_)
  · have hf := zz_ps hf c7
    exact Kj50_7 S _ _ hP hD hS ls (lv_sub hl [] rfl) hf
  · have hf := zz_ng hf c7
    refine lv_iload_n hx hb dX10_fogged_10 rfl (lv_at hl 2 rfl) ?_
    refine lv_iconst (v := (0 : Int32)) hx hb dX10_fogged_11 (by decide) ?_
    refine lv_bipush (v := (9 : Int32)) hx hb dX10_fogged_12 (by decide) ?_
    obtain ⟨r10, hc11, hf⟩ := zz_b1s hf
    refine zz_ji (va_runS (As := [.int u1, .int (0 : Int32), .int (9 : Int32)]) (rest := []) hfx (zc_X10_in l D tb  F u1 (0 : Int32) (9 : Int32)  r10 hc11 H.size) (va_cwS 3 hts gX10_fogged_X10_in rfl rfl rfl (by decide +kernel) ⟨Nat.le_of_ble_eq_true rfl, Nat.le_of_ble_eq_true rfl⟩) (zz_preS hK hP hD hS hA hE [] [] rfl (by decide) rfl) rfl rfl hl.1 rfl (lv_room (Nat.le_of_ble_eq_true rfl)) dX10_fogged_14 ⟨Nat.zero_le _, Nat.zero_le _⟩) hP hD hS hA [] rfl rfl (fun H locs hP hD hS => ?_)
    have hP : va_P D vwCl (zw_10 q k S) H := hP
    have hD : va_D A (zw_10 q k S) := hD
    refine lv_if_eq (tgt := 50) hx hb dX10_fogged_17 (by decide) (fun c17 => ?_) (fun c17 => ?_)
    · have hf := zz_ps hf c17
      exact Kj50_7 S _ _ hP hD hS ls (lv_sub hl [] rfl) hf
    · have hf := zz_ng hf c17
      refine lv_aload_n hx hb dX10_fogged_20 rfl (lv_at hl 0 rfl) ?_
      refine lv_iload_n hx hb dX10_fogged_21 rfl (lv_at hl 3 rfl) ?_
      obtain ⟨r12, S13, hc14, hf⟩ := zz_b2s hf
      refine zz_ji0 (va_runV (As := [.int u2]) (rest := []) hfx (zc_X10_isThief l D tb q k F u2 S r12 S13 hc14 H.size) (cwV 1 hts gX10_fogged_X10_isThief rfl rfl rfl (by decide +kernel) ⟨Nat.le_of_ble_eq_true rfl, Nat.le_of_ble_eq_true rfl⟩) (zz_pre0V hK hP hD hS hA hE 0 rfl rfl rfl) rfl rfl hl.1 rfl (lv_room (Nat.le_of_ble_eq_true rfl)) dX10_fogged_22 ⟨Nat.zero_le _, Nat.zero_le _⟩) hD hS hA (fun H locs hP hD hS => ?_)
      refine lv_if_eq (tgt := 50) hx hb dX10_fogged_25 (by decide) (fun c25 => ?_) (fun c25 => ?_)
      · have hf := zz_ps hf c25
        exact Kj50_7 S13 _ _ hP hD hS ls (lv_sub hl [] rfl) hf
      · have hf := zz_ng hf c25
        refine lv_iload hx hb dX10_fogged_28 (lv_at hl 4 rfl) ?_
        refine lv_iconst (v := (0 : Int32)) hx hb dX10_fogged_30 (by decide) ?_
        refine lv_iconst (v := (1 : Int32)) hx hb dX10_fogged_31 (by decide) ?_
        obtain ⟨r15, hc16, hf⟩ := zz_b1s hf
        refine zz_ji (va_runS (As := [.int u3, .int (0 : Int32), .int (1 : Int32)]) (rest := []) hfx (zc_X10_in l D tb  F u3 (0 : Int32) (1 : Int32)  r15 hc16 H.size) (va_cwS 3 hts gX10_fogged_X10_in rfl rfl rfl (by decide +kernel) ⟨Nat.le_of_ble_eq_true rfl, Nat.le_of_ble_eq_true rfl⟩) (zz_preS hK hP hD hS hA hE [] [] rfl (by decide) rfl) rfl rfl hl.1 rfl (lv_room (Nat.le_of_ble_eq_true rfl)) dX10_fogged_32 ⟨Nat.zero_le _, Nat.zero_le _⟩) hP hD hS hA [] rfl rfl (fun H locs hP hD hS => ?_)
        have hP : va_P D vwCl (zw_10 q k S13) H := hP
        have hD : va_D A (zw_10 q k S13) := hD
        refine lv_if_eq (tgt := 50) hx hb dX10_fogged_35 (by decide) (fun c35 => ?_) (fun c35 => ?_)
        · have hf := zz_ps hf c35
          exact Kj50_7 S13 _ _ hP hD hS ls (lv_sub hl [] rfl) hf
        · have hf := zz_ng hf c35
          refine lv_aload_n hx hb dX10_fogged_38 rfl (lv_at hl 0 rfl) ?_
          refine lv_iload_n hx hb dX10_fogged_39 rfl (lv_at hl 1 rfl) ?_
          refine lv_iload_n hx hb dX10_fogged_40 rfl (lv_at hl 2 rfl) ?_
          refine lv_iload_n hx hb dX10_fogged_41 rfl (lv_at hl 3 rfl) ?_
          refine lv_iload hx hb dX10_fogged_42 (lv_at hl 4 rfl) ?_
          obtain ⟨r17, S18, hc19, hf⟩ := zz_b2s hf
          refine zz_jl0 (va_runV (As := [.int u0, .int u1, .int u2, .int u3]) (rest := []) hfx (zc_X10_foggedOf l D tb q k F u0 u1 u2 u3 S13 r17 S18 hc19 H.size) (cwV 4 hts gX10_fogged_X10_foggedOf rfl rfl rfl (by decide +kernel) ⟨Nat.le_of_ble_eq_true rfl, Nat.le_of_ble_eq_true rfl⟩) (zz_pre0V hK hP hD hS hA hE 0 rfl rfl rfl) rfl rfl hl.1 rfl (lv_room (Nat.le_of_ble_eq_true rfl)) dX10_fogged_44 ⟨Nat.zero_le _, Nat.zero_le _⟩) hD hS hA (fun H locs hP hD hS => ?_)
          refine lv_goto (tgt := 55) hx hb dX10_fogged_47 (by decide) ?_
          exact Kj55_5 r17 S18 _ _ hP hD hS ls (lv_sub hl [] rfl) hf
def rmX10_nightsOf : Room := { frames := 6, cells := 0, slots := 0, locals := 136 }
set_option maxHeartbeats 4000000 in
set_option maxRecDepth 100000 in
theorem zc_X10_nightsOf (l : Launch) (D : va_G) (tb : Nat → Nat) (q : Nat → Nat) (k : Nat → ClassId) (F : Nat) (u0 : Int32) (u1 : Int32) (u2 : Int32) (S : zz_M) (r : Int32) (o1 : zz_M) (hf : pX10_nightsOf F u0 u1 u2 S = some (r, o1)) : zz_Mi l yX10_nightsOf wsX10_nightsOf rmX10_nightsOf D tb [((k 1), .int), ((k 2), .int), ((k 3), .int), ((k 4), .int), ((k 5), .int), ((k 6), .int), ((k 7), .int), ((k 8), .boolean), ((k 9), .int), ((k 10), .int), ((k 11), .int), ((k 12), .int), ((k 13), .int), ((k 14), .int), ((k 15), .int), ((k 16), .boolean), ((k 17), .int), ((k 18), .int), ((k 19), .int), ((k 20), .int)] [.ref (q 0), .int u0, .int u1, .int u2] (zw_10 q k S) (zw_10 q k o1) r := by
  refine zz_ofi (cc := cX10_nightsOf) (maxL := 6) (by decide) rfl (Nat.le_of_ble_eq_true rfl) ?_
  intro p e s m args below meth c A Q hfx hK hA hE hret H locs hP hD hS ls hl
  obtain ⟨hx, hb, hml, hown, hts⟩ := id hfx
  have inX10 : ∀ w ∈ u_ws RX10 TX10 34, w ∈ wsX10_nightsOf := by decide +kernel
  have lk168 := hts (.fieldLink RX10 168 "CatBeatModel" "round" "I") (by decide +kernel)
  have lk35 := hts (.fieldLink RX10 35 "CatBeatModel" "places" "[I") (by decide +kernel)
  have lk28 := hts (.fieldLink RX10 28 "CatBeatModel" "beatNow" "[I") (by decide +kernel)
  have kc278 := hts (.constant RX10 278 (1103515245)) (by decide +kernel)
  have hl : lv_has ls 6 [(0, .ref (q 0)), (1, .int u0), (2, .int u1), (3, .int u2)] := hl
  unfold pX10_nightsOf at hf
  refine lv_aload_n hx hb dX10_nightsOf_0 rfl (lv_at hl 0 rfl) ?_
  obtain ⟨S1, hc2, hf⟩ := zz_b1s hf
  refine zz_jv0 (va_runV (As := []) (rest := []) hfx (zc_X10_asTold l D tb q k F  S S1 hc2 H.size) (cwV 0 hts gX10_nightsOf_X10_asTold rfl rfl rfl (by decide +kernel) ⟨Nat.le_of_ble_eq_true rfl, Nat.le_of_ble_eq_true rfl⟩) (zz_pre0V hK hP hD hS hA hE 0 rfl rfl rfl) rfl rfl hl.1 rfl (lv_room (Nat.le_of_ble_eq_true rfl)) dX10_nightsOf_1 ⟨Nat.zero_le _, Nat.zero_le _⟩) hD hS hA (fun H locs hP hD hS => ?_)
  refine lv_iload_n hx hb dX10_nightsOf_4 rfl (lv_at hl 1 rfl) ?_
  refine lv_istore (lv' := [(4, .int u0), (0, .ref (q 0)), (1, .int u0), (2, .int u1), (3, .int u2)]) hx hb dX10_nightsOf_5 hl (by decide) rfl (fun ls hl => ?_)
  refine lv_aload_n hx hb dX10_nightsOf_7 rfl (lv_at hl 1 rfl) ?_
  refine lv_iload_n hx hb dX10_nightsOf_8 rfl (lv_at hl 3 rfl) ?_
  obtain ⟨S3, hS3, hf⟩ := zz_lts hf
  refine va_put (D := D) (ci := 10) (v := .int u1) (ty := .int) (C := RX10) (T := TX10) (N := 34) hx hb hts inX10 tyX10 tyX10_ok nmX10 hown hK hP hD hS 0 rfl rfl 15 (by decide) lk168 (fun _ h9 => h9) rfl (by decide +kernel) rfl rfl (Nat.le_of_ble_eq_true rfl) dX10_nightsOf_9 (fun H locs hP hD hS => ?_)
  have hP : va_P D vwCl (zw_10 q k S3) H := by rw [hS3]; exact hP
  have hD : va_D A (zw_10 q k S3) := by rw [hS3]; exact hD
  refine lv_iconst (v := (0 : Int32)) hx hb dX10_nightsOf_12 (by decide) ?_
  refine lv_istore (lv' := [(5, .int (0 : Int32)), (4, .int u0), (0, .ref (q 0)), (1, .int u0), (2, .int u1), (3, .int u2)]) hx hb dX10_nightsOf_13 hl (by decide) rfl (fun ls hl => ?_)
  have hLkL15_6 : ∀ (n15_6 : Nat) (x4 : Int32) (x5 : Int32) (z6 : zz_M) (H : Heap) (locs : List Loc), va_P D vwCl (zw_10 q k z6) H → va_D A (zw_10 q k z6) → va_S A s.heap H locs → ∀ ls : Array Slot, lv_has ls 6 [(0, .ref (q 0)), (2, .int u1), (3, .int u2), (4, .int x4), (5, .int x5)] → pX10_nightsOf_L15_6 u1 u2 F n15_6 x4 x5 z6 = some (r, o1) → W p l e rmX10_nightsOf s m args below meth c H locs 0 0 Q (F0 m 15 ls []) := by
    intro n15_6
    induction n15_6 with
    | zero =>
      intro x4 x5 z6 H locs hP hD hS ls hl hf
      exact nomatch (show (none : Option _) = some _ from hf)
    | succ n15_6 ihkL15_6 =>
      intro x4 x5 z6 H locs hP hD hS ls hl hf
      rw [pX10_nightsOf_L15_6] at hf
      refine lv_iload hx hb dX10_nightsOf_15 (lv_at hl 4 rfl) ?_
      refine lv_iload_n hx hb dX10_nightsOf_17 rfl (lv_at hl 1 rfl) ?_
      refine lv_icmp_ge (tgt := 53) hx hb dX10_nightsOf_18 (by decide) (fun c18 => ?_) (fun c18 => ?_)
      · have hf := zz_ps hf c18
        refine lv_aload_n hx hb dX10_nightsOf_53 rfl (lv_at hl 0 rfl) ?_
        obtain ⟨r8, S9, hc10, hf⟩ := zz_b2s hf
        refine zz_ji0 (va_runV (As := []) (rest := []) hfx (zc_X10_lostNow l D tb q k F  z6 r8 S9 hc10 H.size) (cwV 0 hts gX10_nightsOf_X10_lostNow rfl rfl rfl (by decide +kernel) ⟨Nat.le_of_ble_eq_true rfl, Nat.le_of_ble_eq_true rfl⟩) (zz_pre0V hK hP hD hS hA hE 0 rfl rfl rfl) rfl rfl hl.1 rfl (lv_room (Nat.le_of_ble_eq_true rfl)) dX10_nightsOf_54 ⟨Nat.zero_le _, Nat.zero_le _⟩) hD hS hA (fun H locs hP hD hS => ?_)
        refine lv_istore (lv' := [(5, .int r8), (0, .ref (q 0)), (2, .int u1), (3, .int u2), (4, .int x4)]) hx hb dX10_nightsOf_57 hl (by decide) rfl (fun ls hl => ?_)
        refine lv_iload_n hx hb dX10_nightsOf_59 rfl (lv_at hl 3 rfl) ?_
        obtain ⟨j74_12, hj74_12, hf⟩ := zz_lts hf
        have Kj74_12 : ∀ (y11 : Int32) (H : Heap) (locs : List Loc), va_P D vwCl (zw_10 q k S9) H → va_D A (zw_10 q k S9) → va_S A s.heap H locs → ∀ ls : Array Slot, lv_has ls 6 [] → j74_12 y11 = some (r, o1) → W p l e rmX10_nightsOf s m args below meth c H locs 0 0 Q (F0 m 74 ls [.int y11]) := by
          intro y11 H locs hP hD hS ls hl hf
          rw [hj74_12] at hf
          obtain ⟨rfl, rfl⟩ := zz_e2 hf
          exact hret _ _ _ _ dX10_nightsOf_74 hP hD hS
        refine lv_if_ne (tgt := 68) hx hb dX10_nightsOf_60 (by decide) (fun c60 => ?_) (fun c60 => ?_)
        · have hf := zz_ng hf c60
          refine lv_aload_n hx hb dX10_nightsOf_68 rfl (lv_at hl 1 rfl) ?_
          refine va_get (D := D) (ci := 10) (v := .ref (q 9)) (C := RX10) (T := TX10) (N := 34) hx hb hts inX10 hown hK hP 0 rfl rfl 18 (by decide) lk35 (fun _ h9 => h9) rfl dX10_nightsOf_69 ?_
          refine lv_iload_n hx hb dX10_nightsOf_72 rfl (lv_at hl 2 rfl) ?_
          obtain ⟨hg13, hf⟩ := zz_gd hf
          refine va_iald hx hb hK hP 9 8 rfl rfl hg13 dX10_nightsOf_73 ?_
          exact Kj74_12 ((zz_gA S9 8) (Int32.toNatClampNeg u1)) _ _ hP hD hS ls (lv_sub hl [] rfl) hf
        · have hf := zz_ps hf c60
          refine lv_iload hx hb dX10_nightsOf_63 (lv_at hl 0 rfl) ?_
          refine lv_goto (tgt := 74) hx hb dX10_nightsOf_65 (by decide) ?_
          exact Kj74_12 r8 _ _ hP hD hS ls (lv_sub hl [] rfl) hf
      · have hf := zz_ng hf c18
        refine lv_ldcw (v := (1103515245 : Int32)) hx hb hown kc278 dX10_nightsOf_21 ?_
        refine lv_iload hx hb dX10_nightsOf_24 (lv_at hl 3 rfl) ?_
        refine lv_imul hx hb dX10_nightsOf_26 ?_
        refine lv_sipush (v := (12345 : Int32)) hx hb dX10_nightsOf_27 (by decide) ?_
        refine lv_iadd hx hb dX10_nightsOf_30 ?_
        obtain ⟨v14, hv14, hf⟩ := zz_lts hf
        refine zz_ti hv14 ?_
        refine lv_istore (lv' := [(4, .int v14), (0, .ref (q 0)), (2, .int u1), (3, .int u2), (5, .int x5)]) hx hb dX10_nightsOf_31 hl (by decide) rfl (fun ls hl => ?_)
        refine lv_aload_n hx hb dX10_nightsOf_33 rfl (lv_at hl 1 rfl) ?_
        refine va_get (D := D) (ci := 10) (v := .ref (q 7)) (C := RX10) (T := TX10) (N := 34) hx hb hts inX10 hown hK hP 0 rfl rfl 16 (by decide) lk28 (fun _ h9 => h9) rfl dX10_nightsOf_34 ?_
        refine lv_iload hx hb dX10_nightsOf_37 (lv_at hl 4 rfl) ?_
        refine lv_iload hx hb dX10_nightsOf_39 (lv_at hl 0 rfl) ?_
        refine lv_bipush (v := (16 : Int32)) hx hb dX10_nightsOf_41 (by decide) ?_
        refine lv_iushr (v := (zz_ushr v14 (16 : Int32))) hx hb dX10_nightsOf_43 rfl ?_
        refine lv_iconst (v := (5 : Int32)) hx hb dX10_nightsOf_44 (by decide) ?_
        refine lv_irem hx hb dX10_nightsOf_45 (by decide) ?_
        obtain ⟨hg15, hf⟩ := zz_gd hf
        obtain ⟨S16, hS16, hf⟩ := zz_lts hf
        refine va_iast hx hb hK hP hD hS 7 6 rfl rfl hg15 dX10_nightsOf_46 (fun H locs hP hD hS => ?_)
        have hP : va_P D vwCl (zw_10 q k S16) H := by rw [hS16]; exact hP
        have hD : va_D A (zw_10 q k S16) := by rw [hS16]; exact hD
        obtain ⟨v17, hv17, hf⟩ := zz_lts hf
        refine lv_iinc (v := v17) (lv' := [(5, .int v17), (4, .int v14), (0, .ref (q 0)), (2, .int u1), (3, .int u2)]) hx hb dX10_nightsOf_47 hl (k := 4) rfl (by rw [hv17]; rfl) (by decide) rfl (fun ls hl => ?_)
        refine lv_goto (tgt := 15) hx hb dX10_nightsOf_50 (by decide) ?_
        exact ihkL15_6 v14 v17 S16 _ _ hP hD hS ls (lv_sub hl [2, 3, 4, 1, 0] rfl) hf
  exact hLkL15_6 F u0 (0 : Int32) S3 _ _ hP hD hS ls (lv_sub hl [2, 4, 5, 1, 0] rfl) hf
def rmX10_nights : Room := { frames := 7, cells := 0, slots := 0, locals := 161 }
set_option maxHeartbeats 4000000 in
set_option maxRecDepth 100000 in
theorem zc_X10_nights (l : Launch) (D : va_G) (tb : Nat → Nat) (q : Nat → Nat) (k : Nat → ClassId) (F : Nat) (u0 : Int32) (u1 : Int32) (u2 : Int32) (S : zz_M) (r : Int32) (o1 : zz_M) (hf : pX10_nights F u0 u1 u2 S = some (r, o1)) : zz_Mi l yX10_nights wsX10_nights rmX10_nights D tb [((k 1), .int), ((k 2), .int), ((k 3), .int), ((k 4), .int), ((k 5), .int), ((k 6), .int), ((k 7), .int), ((k 8), .boolean), ((k 9), .int), ((k 10), .int), ((k 11), .int), ((k 12), .int), ((k 13), .int), ((k 14), .int), ((k 15), .int), ((k 16), .boolean), ((k 17), .int), ((k 18), .int), ((k 19), .int), ((k 20), .int)] [.ref (q 0), .int u0, .int u1, .int u2] (zw_10 q k S) (zw_10 q k o1) r := by
  refine zz_ofi (cc := cX10_nights) (maxL := 4) (by decide) rfl (Nat.le_of_ble_eq_true rfl) ?_
  intro p e s m args below meth c A Q hfx hK hA hE hret H locs hP hD hS ls hl
  obtain ⟨hx, hb, hml, hown, hts⟩ := id hfx
  have hl : lv_has ls 4 [(0, .ref (q 0)), (1, .int u0), (2, .int u1), (3, .int u2)] := hl
  unfold pX10_nights at hf
  refine lv_iload_n hx hb dX10_nights_0 rfl (lv_at hl 2 rfl) ?_
  refine lv_iconst (v := (1 : Int32)) hx hb dX10_nights_1 (by decide) ?_
  refine lv_bipush (v := (24 : Int32)) hx hb dX10_nights_2 (by decide) ?_
  obtain ⟨r1, hc2, hf⟩ := zz_b1s hf
  refine zz_ji (va_runS (As := [.int u1, .int (1 : Int32), .int (24 : Int32)]) (rest := []) hfx (zc_X10_in l D tb  F u1 (1 : Int32) (24 : Int32)  r1 hc2 H.size) (va_cwS 3 hts gX10_nights_X10_in rfl rfl rfl (by decide +kernel) ⟨Nat.le_of_ble_eq_true rfl, Nat.le_of_ble_eq_true rfl⟩) (zz_preS hK hP hD hS hA hE [] [] rfl (by decide) rfl) rfl rfl hl.1 rfl (lv_room (Nat.le_of_ble_eq_true rfl)) dX10_nights_4 ⟨Nat.zero_le _, Nat.zero_le _⟩) hP hD hS hA [] rfl rfl (fun H locs hP hD hS => ?_)
  have hP : va_P D vwCl (zw_10 q k S) H := hP
  have hD : va_D A (zw_10 q k S) := hD
  obtain ⟨j31_5, hj31_5, hf⟩ := zz_lts hf
  have Kj31_5 : ∀ (y3 : Int32) (z4 : zz_M) (H : Heap) (locs : List Loc), va_P D vwCl (zw_10 q k z4) H → va_D A (zw_10 q k z4) → va_S A s.heap H locs → ∀ ls : Array Slot, lv_has ls 4 [] → j31_5 y3 z4 = some (r, o1) → W p l e rmX10_nights s m args below meth c H locs 0 0 Q (F0 m 31 ls [.int y3]) := by
    intro y3 z4 H locs hP hD hS ls hl hf
    rw [hj31_5] at hf
    obtain ⟨rfl, rfl⟩ := zz_e2 hf
    exact hret _ _ _ _ dX10_nights_31 hP hD hS
  obtain ⟨j29_6, hj29_6, hf⟩ := zz_lts hf
  have Kj29_6 : ∀  (H : Heap) (locs : List Loc), va_P D vwCl (zw_10 q k S) H → va_D A (zw_10 q k S) → va_S A s.heap H locs → ∀ ls : Array Slot, lv_has ls 4 [] → j29_6 () = some (r, o1) → W p l e rmX10_nights s m args below meth c H locs 0 0 Q (F0 m 29 ls []) := by
    intro  H locs hP hD hS ls hl hf
    rw [hj29_6] at hf
    refine lv_bipush (v := (-2 : Int32)) hx hb dX10_nights_29 (by decide) ?_
    exact Kj31_5 (-2 : Int32) S _ _ hP hD hS ls (lv_sub hl [] rfl) hf
  refine lv_if_eq (tgt := 29) hx hb dX10_nights_7 (by decide) (fun c7 => ?_) (fun c7 => ?_)
  · have hf := zz_ps hf c7
    exact Kj29_6  _ _ hP hD hS ls (lv_sub hl [] rfl) hf
  · have hf := zz_ng hf c7
    refine lv_iload_n hx hb dX10_nights_10 rfl (lv_at hl 3 rfl) ?_
    refine lv_iconst (v := (0 : Int32)) hx hb dX10_nights_11 (by decide) ?_
    refine lv_iconst (v := (1 : Int32)) hx hb dX10_nights_12 (by decide) ?_
    obtain ⟨r7, hc8, hf⟩ := zz_b1s hf
    refine zz_ji (va_runS (As := [.int u2, .int (0 : Int32), .int (1 : Int32)]) (rest := []) hfx (zc_X10_in l D tb  F u2 (0 : Int32) (1 : Int32)  r7 hc8 H.size) (va_cwS 3 hts gX10_nights_X10_in rfl rfl rfl (by decide +kernel) ⟨Nat.le_of_ble_eq_true rfl, Nat.le_of_ble_eq_true rfl⟩) (zz_preS hK hP hD hS hA hE [] [] rfl (by decide) rfl) rfl rfl hl.1 rfl (lv_room (Nat.le_of_ble_eq_true rfl)) dX10_nights_13 ⟨Nat.zero_le _, Nat.zero_le _⟩) hP hD hS hA [] rfl rfl (fun H locs hP hD hS => ?_)
    have hP : va_P D vwCl (zw_10 q k S) H := hP
    have hD : va_D A (zw_10 q k S) := hD
    refine lv_if_eq (tgt := 29) hx hb dX10_nights_16 (by decide) (fun c16 => ?_) (fun c16 => ?_)
    · have hf := zz_ps hf c16
      exact Kj29_6  _ _ hP hD hS ls (lv_sub hl [] rfl) hf
    · have hf := zz_ng hf c16
      refine lv_aload_n hx hb dX10_nights_19 rfl (lv_at hl 0 rfl) ?_
      refine lv_iload_n hx hb dX10_nights_20 rfl (lv_at hl 1 rfl) ?_
      refine lv_iload_n hx hb dX10_nights_21 rfl (lv_at hl 2 rfl) ?_
      refine lv_iload_n hx hb dX10_nights_22 rfl (lv_at hl 3 rfl) ?_
      obtain ⟨r9, S10, hc11, hf⟩ := zz_b2s hf
      refine zz_ji0 (va_runV (As := [.int u0, .int u1, .int u2]) (rest := []) hfx (zc_X10_nightsOf l D tb q k F u0 u1 u2 S r9 S10 hc11 H.size) (cwV 3 hts gX10_nights_X10_nightsOf rfl rfl rfl (by decide +kernel) ⟨Nat.le_of_ble_eq_true rfl, Nat.le_of_ble_eq_true rfl⟩) (zz_pre0V hK hP hD hS hA hE 0 rfl rfl rfl) rfl rfl hl.1 rfl (lv_room (Nat.le_of_ble_eq_true rfl)) dX10_nights_23 ⟨Nat.zero_le _, Nat.zero_le _⟩) hD hS hA (fun H locs hP hD hS => ?_)
      refine lv_goto (tgt := 31) hx hb dX10_nights_26 (by decide) ?_
      exact Kj31_5 r9 S10 _ _ hP hD hS ls (lv_sub hl [] rfl) hf
def rmX10_sheet : Room := { frames := 2, cells := 0, slots := 0, locals := 42 }
set_option maxHeartbeats 4000000 in
set_option maxRecDepth 100000 in
theorem zc_X10_sheet (l : Launch) (D : va_G) (tb : Nat → Nat) (q : Nat → Nat) (k : Nat → ClassId) (F : Nat) (u0 : Int32) (u1 : Int32) (u2 : Int32) (S : zz_M) (r : Int32) (o1 : zz_M) (hf : pX10_sheet F u0 u1 u2 S = some (r, o1)) : zz_Mi l yX10_sheet wsX10_sheet rmX10_sheet D tb [((k 1), .int), ((k 2), .int), ((k 3), .int), ((k 4), .int), ((k 5), .int), ((k 6), .int), ((k 7), .int), ((k 8), .boolean), ((k 9), .int), ((k 10), .int), ((k 11), .int), ((k 12), .int), ((k 13), .int), ((k 14), .int), ((k 15), .int), ((k 16), .boolean), ((k 17), .int), ((k 18), .int), ((k 19), .int), ((k 20), .int)] [.ref (q 0), .int u0, .int u1, .int u2] (zw_10 q k S) (zw_10 q k o1) r := by
  refine zz_ofi (cc := cX10_sheet) (maxL := 5) (by decide) rfl (Nat.le_of_ble_eq_true rfl) ?_
  intro p e s m args below meth c A Q hfx hK hA hE hret H locs hP hD hS ls hl
  obtain ⟨hx, hb, hml, hown, hts⟩ := id hfx
  have inX10 : ∀ w ∈ u_ws RX10 TX10 34, w ∈ wsX10_sheet := by decide +kernel
  have lk56 := hts (.fieldLink RX10 56 "CatBeatModel" "isThere" "[Z") (by decide +kernel)
  have lk59 := hts (.fieldLink RX10 59 "CatBeatModel" "forms" "[I") (by decide +kernel)
  have lk62 := hts (.fieldLink RX10 62 "CatBeatModel" "sizes" "[I") (by decide +kernel)
  have lk65 := hts (.fieldLink RX10 65 "CatBeatModel" "items" "[I") (by decide +kernel)
  have hl : lv_has ls 5 [(0, .ref (q 0)), (1, .int u0), (2, .int u1), (3, .int u2)] := hl
  unfold pX10_sheet at hf
  refine lv_iload_n hx hb dX10_sheet_0 rfl (lv_at hl 1 rfl) ?_
  obtain ⟨r1, hc2, hf⟩ := zz_b1s hf
  refine zz_ji (va_runS (As := [.int u0]) (rest := []) hfx (zc_X10_isSheet l D tb  F u0  r1 hc2 H.size) (va_cwS 1 hts gX10_sheet_X10_isSheet rfl rfl rfl (by decide +kernel) ⟨Nat.le_of_ble_eq_true rfl, Nat.le_of_ble_eq_true rfl⟩) (zz_preS hK hP hD hS hA hE [] [] rfl (by decide) rfl) rfl rfl hl.1 rfl (lv_room (Nat.le_of_ble_eq_true rfl)) dX10_sheet_1 ⟨Nat.zero_le _, Nat.zero_le _⟩) hP hD hS hA [] rfl rfl (fun H locs hP hD hS => ?_)
  have hP : va_P D vwCl (zw_10 q k S) H := hP
  have hD : va_D A (zw_10 q k S) := hD
  obtain ⟨j22_3, hj22_3, hf⟩ := zz_lts hf
  have Kj22_3 : ∀  (H : Heap) (locs : List Loc), va_P D vwCl (zw_10 q k S) H → va_D A (zw_10 q k S) → va_S A s.heap H locs → ∀ ls : Array Slot, lv_has ls 5 [] → j22_3 () = some (r, o1) → W p l e rmX10_sheet s m args below meth c H locs 0 0 Q (F0 m 22 ls []) := by
    intro  H locs hP hD hS ls hl hf
    rw [hj22_3] at hf
    refine lv_bipush (v := (-2 : Int32)) hx hb dX10_sheet_22 (by decide) ?_
    obtain ⟨rfl, rfl⟩ := zz_e2 hf
    exact hret _ _ _ _ dX10_sheet_24 hP hD hS
  refine lv_if_eq (tgt := 22) hx hb dX10_sheet_4 (by decide) (fun c4 => ?_) (fun c4 => ?_)
  · have hf := zz_ps hf c4
    exact Kj22_3  _ _ hP hD hS ls (lv_sub hl [] rfl) hf
  · have hf := zz_ng hf c4
    refine lv_iload_n hx hb dX10_sheet_7 rfl (lv_at hl 2 rfl) ?_
    refine lv_iconst (v := (0 : Int32)) hx hb dX10_sheet_8 (by decide) ?_
    refine lv_iconst (v := (2 : Int32)) hx hb dX10_sheet_9 (by decide) ?_
    obtain ⟨r4, hc5, hf⟩ := zz_b1s hf
    refine zz_ji (va_runS (As := [.int u1, .int (0 : Int32), .int (2 : Int32)]) (rest := []) hfx (zc_X10_in l D tb  F u1 (0 : Int32) (2 : Int32)  r4 hc5 H.size) (va_cwS 3 hts gX10_sheet_X10_in rfl rfl rfl (by decide +kernel) ⟨Nat.le_of_ble_eq_true rfl, Nat.le_of_ble_eq_true rfl⟩) (zz_preS hK hP hD hS hA hE [] [] rfl (by decide) rfl) rfl rfl hl.1 rfl (lv_room (Nat.le_of_ble_eq_true rfl)) dX10_sheet_10 ⟨Nat.zero_le _, Nat.zero_le _⟩) hP hD hS hA [] rfl rfl (fun H locs hP hD hS => ?_)
    have hP : va_P D vwCl (zw_10 q k S) H := hP
    have hD : va_D A (zw_10 q k S) := hD
    refine lv_if_eq (tgt := 22) hx hb dX10_sheet_13 (by decide) (fun c13 => ?_) (fun c13 => ?_)
    · have hf := zz_ps hf c13
      exact Kj22_3  _ _ hP hD hS ls (lv_sub hl [] rfl) hf
    · have hf := zz_ng hf c13
      refine lv_iload_n hx hb dX10_sheet_16 rfl (lv_at hl 3 rfl) ?_
      refine lv_bipush (v := (60 : Int32)) hx hb dX10_sheet_17 (by decide) ?_
      refine lv_icmp_le (tgt := 25) hx hb dX10_sheet_19 (by decide) (fun c19 => ?_) (fun c19 => ?_)
      · have hf := zz_ps hf c19
        refine lv_iload_n hx hb dX10_sheet_25 rfl (lv_at hl 3 rfl) ?_
        refine lv_if_ge (tgt := 35) hx hb dX10_sheet_26 (by decide) (fun c26 => ?_) (fun c26 => ?_)
        · have hf := zz_ps hf c26
          refine lv_aload_n hx hb dX10_sheet_35 rfl (lv_at hl 0 rfl) ?_
          refine va_get (D := D) (ci := 10) (v := .ref (q 16)) (C := RX10) (T := TX10) (N := 34) hx hb hts inX10 hown hK hP 0 rfl rfl 28 (by decide) lk56 (fun _ h9 => h9) rfl dX10_sheet_36 ?_
          refine lv_iload_n hx hb dX10_sheet_39 rfl (lv_at hl 1 rfl) ?_
          refine lv_iconst (v := (1 : Int32)) hx hb dX10_sheet_40 (by decide) ?_
          obtain ⟨hg6, hf⟩ := zz_gd hf
          obtain ⟨S7, hS7, hf⟩ := zz_lts hf
          refine va_zast hx hb hK hP hD hS 16 15 rfl rfl hg6 dX10_sheet_41 (fun H locs hP hD hS => ?_)
          have hP : va_P D vwCl (zw_10 q k S7) H := by rw [hS7]; exact hP
          have hD : va_D A (zw_10 q k S7) := by rw [hS7]; exact hD
          refine lv_aload_n hx hb dX10_sheet_42 rfl (lv_at hl 0 rfl) ?_
          refine va_get (D := D) (ci := 10) (v := .ref (q 17)) (C := RX10) (T := TX10) (N := 34) hx hb hts inX10 hown hK hP 0 rfl rfl 29 (by decide) lk59 (fun _ h9 => h9) rfl dX10_sheet_43 ?_
          refine lv_iload_n hx hb dX10_sheet_46 rfl (lv_at hl 1 rfl) ?_
          refine lv_iload_n hx hb dX10_sheet_47 rfl (lv_at hl 2 rfl) ?_
          obtain ⟨hg8, hf⟩ := zz_gd hf
          obtain ⟨S9, hS9, hf⟩ := zz_lts hf
          refine va_iast hx hb hK hP hD hS 17 16 rfl rfl hg8 dX10_sheet_48 (fun H locs hP hD hS => ?_)
          have hP : va_P D vwCl (zw_10 q k S9) H := by rw [hS9]; exact hP
          have hD : va_D A (zw_10 q k S9) := by rw [hS9]; exact hD
          refine lv_aload_n hx hb dX10_sheet_49 rfl (lv_at hl 0 rfl) ?_
          refine va_get (D := D) (ci := 10) (v := .ref (q 18)) (C := RX10) (T := TX10) (N := 34) hx hb hts inX10 hown hK hP 0 rfl rfl 30 (by decide) lk62 (fun _ h9 => h9) rfl dX10_sheet_50 ?_
          refine lv_iload_n hx hb dX10_sheet_53 rfl (lv_at hl 1 rfl) ?_
          refine lv_iload_n hx hb dX10_sheet_54 rfl (lv_at hl 3 rfl) ?_
          obtain ⟨hg10, hf⟩ := zz_gd hf
          obtain ⟨S11, hS11, hf⟩ := zz_lts hf
          refine va_iast hx hb hK hP hD hS 18 17 rfl rfl hg10 dX10_sheet_55 (fun H locs hP hD hS => ?_)
          have hP : va_P D vwCl (zw_10 q k S11) H := by rw [hS11]; exact hP
          have hD : va_D A (zw_10 q k S11) := by rw [hS11]; exact hD
          refine lv_iconst (v := (0 : Int32)) hx hb dX10_sheet_56 (by decide) ?_
          refine lv_istore (lv' := [(4, .int (0 : Int32)), (0, .ref (q 0)), (1, .int u0), (2, .int u1), (3, .int u2)]) hx hb dX10_sheet_57 hl (by decide) rfl (fun ls hl => ?_)
          have hLkL59_13 : ∀ (n59_13 : Nat) (x12 : Int32) (z13 : zz_M) (H : Heap) (locs : List Loc), va_P D vwCl (zw_10 q k z13) H → va_D A (zw_10 q k z13) → va_S A s.heap H locs → ∀ ls : Array Slot, lv_has ls 5 [(0, .ref (q 0)), (1, .int u0), (3, .int u2), (4, .int x12)] → pX10_sheet_L59_13 u0 u2 n59_13 x12 z13 = some (r, o1) → W p l e rmX10_sheet s m args below meth c H locs 0 0 Q (F0 m 59 ls []) := by
            intro n59_13
            induction n59_13 with
            | zero =>
              intro x12 z13 H locs hP hD hS ls hl hf
              exact nomatch (show (none : Option _) = some _ from hf)
            | succ n59_13 ihkL59_13 =>
              intro x12 z13 H locs hP hD hS ls hl hf
              rw [pX10_sheet_L59_13] at hf
              refine lv_iload hx hb dX10_sheet_59 (lv_at hl 3 rfl) ?_
              refine lv_bipush (v := (60 : Int32)) hx hb dX10_sheet_61 (by decide) ?_
              refine lv_icmp_ge (tgt := 85) hx hb dX10_sheet_63 (by decide) (fun c63 => ?_) (fun c63 => ?_)
              · have hf := zz_ps hf c63
                refine lv_iload_n hx hb dX10_sheet_85 rfl (lv_at hl 2 rfl) ?_
                obtain ⟨rfl, rfl⟩ := zz_e2 hf
                exact hret _ _ _ _ dX10_sheet_86 hP hD hS
              · have hf := zz_ng hf c63
                refine lv_aload_n hx hb dX10_sheet_66 rfl (lv_at hl 0 rfl) ?_
                refine va_get (D := D) (ci := 10) (v := .ref (q 19)) (C := RX10) (T := TX10) (N := 34) hx hb hts inX10 hown hK hP 0 rfl rfl 31 (by decide) lk65 (fun _ h9 => h9) rfl dX10_sheet_67 ?_
                refine lv_bipush (v := (60 : Int32)) hx hb dX10_sheet_70 (by decide) ?_
                refine lv_iload_n hx hb dX10_sheet_72 rfl (lv_at hl 1 rfl) ?_
                refine lv_imul hx hb dX10_sheet_73 ?_
                refine lv_iload hx hb dX10_sheet_74 (lv_at hl 3 rfl) ?_
                refine lv_iadd hx hb dX10_sheet_76 ?_
                refine lv_iconst (v := (0 : Int32)) hx hb dX10_sheet_77 (by decide) ?_
                obtain ⟨hg15, hf⟩ := zz_gd hf
                obtain ⟨S16, hS16, hf⟩ := zz_lts hf
                refine va_iast hx hb hK hP hD hS 19 18 rfl rfl hg15 dX10_sheet_78 (fun H locs hP hD hS => ?_)
                have hP : va_P D vwCl (zw_10 q k S16) H := by rw [hS16]; exact hP
                have hD : va_D A (zw_10 q k S16) := by rw [hS16]; exact hD
                obtain ⟨v17, hv17, hf⟩ := zz_lts hf
                refine lv_iinc (v := v17) (lv' := [(4, .int v17), (0, .ref (q 0)), (1, .int u0), (3, .int u2)]) hx hb dX10_sheet_79 hl (k := 3) rfl (by rw [hv17]; rfl) (by decide) rfl (fun ls hl => ?_)
                refine lv_goto (tgt := 59) hx hb dX10_sheet_82 (by decide) ?_
                exact ihkL59_13 v17 S16 _ _ hP hD hS ls (lv_sub hl [1, 2, 3, 0] rfl) hf
          exact hLkL59_13 F (0 : Int32) S11 _ _ hP hD hS ls (lv_sub hl [1, 2, 4, 0] rfl) hf
        · have hf := zz_ng hf c26
          refine lv_aload_n hx hb dX10_sheet_29 rfl (lv_at hl 0 rfl) ?_
          refine lv_iconst (v := (5 : Int32)) hx hb dX10_sheet_30 (by decide) ?_
          obtain ⟨r18, S19, hc20, hf⟩ := zz_b2s hf
          refine zz_ji0 (va_runV (As := [.int (5 : Int32)]) (rest := []) hfx (zc_X10_meets l D tb q k F (5 : Int32) S r18 S19 hc20 H.size) (cwV 1 hts gX10_sheet_X10_meets rfl rfl rfl (by decide +kernel) ⟨Nat.le_of_ble_eq_true rfl, Nat.le_of_ble_eq_true rfl⟩) (zz_pre0V hK hP hD hS hA hE 0 rfl rfl rfl) rfl rfl hl.1 rfl (lv_room (Nat.le_of_ble_eq_true rfl)) dX10_sheet_31 ⟨Nat.zero_le _, Nat.zero_le _⟩) hD hS hA (fun H locs hP hD hS => ?_)
          obtain ⟨rfl, rfl⟩ := zz_e2 hf
          exact hret _ _ _ _ dX10_sheet_34 hP hD hS
      · have hf := zz_ng hf c19
        exact Kj22_3  _ _ hP hD hS ls (lv_sub hl [] rfl) hf
def rmX10_lose : Room := { frames := 2, cells := 0, slots := 0, locals := 42 }
set_option maxHeartbeats 4000000 in
set_option maxRecDepth 100000 in
theorem zc_X10_lose (l : Launch) (D : va_G) (tb : Nat → Nat) (q : Nat → Nat) (k : Nat → ClassId) (F : Nat) (u0 : Int32) (S : zz_M) (r : Int32) (o1 : zz_M) (hf : pX10_lose F u0 S = some (r, o1)) : zz_Mi l yX10_lose wsX10_lose rmX10_lose D tb [((k 1), .int), ((k 2), .int), ((k 3), .int), ((k 4), .int), ((k 5), .int), ((k 6), .int), ((k 7), .int), ((k 8), .boolean), ((k 9), .int), ((k 10), .int), ((k 11), .int), ((k 12), .int), ((k 13), .int), ((k 14), .int), ((k 15), .int), ((k 16), .boolean), ((k 17), .int), ((k 18), .int), ((k 19), .int), ((k 20), .int)] [.ref (q 0), .int u0] (zw_10 q k S) (zw_10 q k o1) r := by
  refine zz_ofi (cc := cX10_lose) (maxL := 2) (by decide) rfl (Nat.le_of_ble_eq_true rfl) ?_
  intro p e s m args below meth c A Q hfx hK hA hE hret H locs hP hD hS ls hl
  obtain ⟨hx, hb, hml, hown, hts⟩ := id hfx
  have inX10 : ∀ w ∈ u_ws RX10 TX10 34, w ∈ wsX10_lose := by decide +kernel
  have lk56 := hts (.fieldLink RX10 56 "CatBeatModel" "isThere" "[Z") (by decide +kernel)
  have lk62 := hts (.fieldLink RX10 62 "CatBeatModel" "sizes" "[I") (by decide +kernel)
  have hl : lv_has ls 2 [(0, .ref (q 0)), (1, .int u0)] := hl
  unfold pX10_lose at hf
  refine lv_iload_n hx hb dX10_lose_0 rfl (lv_at hl 1 rfl) ?_
  obtain ⟨r1, hc2, hf⟩ := zz_b1s hf
  refine zz_ji (va_runS (As := [.int u0]) (rest := []) hfx (zc_X10_isSheet l D tb  F u0  r1 hc2 H.size) (va_cwS 1 hts gX10_lose_X10_isSheet rfl rfl rfl (by decide +kernel) ⟨Nat.le_of_ble_eq_true rfl, Nat.le_of_ble_eq_true rfl⟩) (zz_preS hK hP hD hS hA hE [] [] rfl (by decide) rfl) rfl rfl hl.1 rfl (lv_room (Nat.le_of_ble_eq_true rfl)) dX10_lose_1 ⟨Nat.zero_le _, Nat.zero_le _⟩) hP hD hS hA [] rfl rfl (fun H locs hP hD hS => ?_)
  have hP : va_P D vwCl (zw_10 q k S) H := hP
  have hD : va_D A (zw_10 q k S) := hD
  refine lv_if_ne (tgt := 10) hx hb dX10_lose_4 (by decide) (fun c4 => ?_) (fun c4 => ?_)
  · have hf := zz_ng hf c4
    refine lv_aload_n hx hb dX10_lose_10 rfl (lv_at hl 0 rfl) ?_
    refine va_get (D := D) (ci := 10) (v := .ref (q 16)) (C := RX10) (T := TX10) (N := 34) hx hb hts inX10 hown hK hP 0 rfl rfl 28 (by decide) lk56 (fun _ h9 => h9) rfl dX10_lose_11 ?_
    refine lv_iload_n hx hb dX10_lose_14 rfl (lv_at hl 1 rfl) ?_
    obtain ⟨hg3, hf⟩ := zz_gd hf
    refine va_zald hx hb hK hP 16 15 rfl rfl hg3 dX10_lose_15 ?_
    refine lv_if_ne (tgt := 25) hx hb dX10_lose_16 (by decide) (fun c16 => ?_) (fun c16 => ?_)
    · have hf := zz_ng hf c16
      refine lv_aload_n hx hb dX10_lose_25 rfl (lv_at hl 0 rfl) ?_
      refine va_get (D := D) (ci := 10) (v := .ref (q 16)) (C := RX10) (T := TX10) (N := 34) hx hb hts inX10 hown hK hP 0 rfl rfl 28 (by decide) lk56 (fun _ h9 => h9) rfl dX10_lose_26 ?_
      refine lv_iload_n hx hb dX10_lose_29 rfl (lv_at hl 1 rfl) ?_
      refine lv_iconst (v := (0 : Int32)) hx hb dX10_lose_30 (by decide) ?_
      obtain ⟨hg4, hf⟩ := zz_gd hf
      obtain ⟨S5, hS5, hf⟩ := zz_lts hf
      refine va_zast hx hb hK hP hD hS 16 15 rfl rfl hg4 dX10_lose_31 (fun H locs hP hD hS => ?_)
      have hP : va_P D vwCl (zw_10 q k S5) H := by rw [hS5]; exact hP
      have hD : va_D A (zw_10 q k S5) := by rw [hS5]; exact hD
      refine lv_aload_n hx hb dX10_lose_32 rfl (lv_at hl 0 rfl) ?_
      refine va_get (D := D) (ci := 10) (v := .ref (q 18)) (C := RX10) (T := TX10) (N := 34) hx hb hts inX10 hown hK hP 0 rfl rfl 30 (by decide) lk62 (fun _ h9 => h9) rfl dX10_lose_33 ?_
      refine lv_iload_n hx hb dX10_lose_36 rfl (lv_at hl 1 rfl) ?_
      obtain ⟨hg6, hf⟩ := zz_gd hf
      refine va_iald hx hb hK hP 18 17 rfl rfl hg6 dX10_lose_37 ?_
      obtain ⟨rfl, rfl⟩ := zz_e2 hf
      exact hret _ _ _ _ dX10_lose_38 hP hD hS
    · have hf := zz_ps hf c16
      refine lv_aload_n hx hb dX10_lose_19 rfl (lv_at hl 0 rfl) ?_
      refine lv_iconst (v := (1 : Int32)) hx hb dX10_lose_20 (by decide) ?_
      obtain ⟨r7, S8, hc9, hf⟩ := zz_b2s hf
      refine zz_ji0 (va_runV (As := [.int (1 : Int32)]) (rest := []) hfx (zc_X10_meets l D tb q k F (1 : Int32) S r7 S8 hc9 H.size) (cwV 1 hts gX10_lose_X10_meets rfl rfl rfl (by decide +kernel) ⟨Nat.le_of_ble_eq_true rfl, Nat.le_of_ble_eq_true rfl⟩) (zz_pre0V hK hP hD hS hA hE 0 rfl rfl rfl) rfl rfl hl.1 rfl (lv_room (Nat.le_of_ble_eq_true rfl)) dX10_lose_21 ⟨Nat.zero_le _, Nat.zero_le _⟩) hD hS hA (fun H locs hP hD hS => ?_)
      obtain ⟨rfl, rfl⟩ := zz_e2 hf
      exact hret _ _ _ _ dX10_lose_24 hP hD hS
  · have hf := zz_ps hf c4
    refine lv_bipush (v := (-2 : Int32)) hx hb dX10_lose_7 (by decide) ?_
    obtain ⟨rfl, rfl⟩ := zz_e2 hf
    exact hret _ _ _ _ dX10_lose_9 hP hD hS
def rmX10_lacks : Room := { frames := 1, cells := 0, slots := 0, locals := 22 }
set_option maxHeartbeats 4000000 in
set_option maxRecDepth 100000 in
theorem zc_X10_lacks (l : Launch) (D : va_G) (tb : Nat → Nat) (q : Nat → Nat) (k : Nat → ClassId) (F : Nat) (u0 : Int32) (u1 : Int32) (u2 : Int32) (S : zz_M) (r : Int32) (hf : pX10_lacks F u0 u1 u2 S = some r) : zz_Mi l yX10_lacks wsX10_lacks rmX10_lacks D tb [((k 1), .int), ((k 2), .int), ((k 3), .int), ((k 4), .int), ((k 5), .int), ((k 6), .int), ((k 7), .int), ((k 8), .boolean), ((k 9), .int), ((k 10), .int), ((k 11), .int), ((k 12), .int), ((k 13), .int), ((k 14), .int), ((k 15), .int), ((k 16), .boolean), ((k 17), .int), ((k 18), .int), ((k 19), .int), ((k 20), .int)] [.ref (q 0), .int u0, .int u1, .int u2] (zw_10 q k S) (zw_10 q k S) r := by
  refine zz_ofi (cc := cX10_lacks) (maxL := 4) (by decide) rfl (Nat.le_of_ble_eq_true rfl) ?_
  intro p e s m args below meth c A Q hfx hK hA hE hret H locs hP hD hS ls hl
  obtain ⟨hx, hb, hml, hown, hts⟩ := id hfx
  have inX10 : ∀ w ∈ u_ws RX10 TX10 34, w ∈ wsX10_lacks := by decide +kernel
  have lk56 := hts (.fieldLink RX10 56 "CatBeatModel" "isThere" "[Z") (by decide +kernel)
  have lk59 := hts (.fieldLink RX10 59 "CatBeatModel" "forms" "[I") (by decide +kernel)
  have lk62 := hts (.fieldLink RX10 62 "CatBeatModel" "sizes" "[I") (by decide +kernel)
  have hl : lv_has ls 4 [(0, .ref (q 0)), (1, .int u0), (2, .int u1), (3, .int u2)] := hl
  unfold pX10_lacks at hf
  refine lv_aload_n hx hb dX10_lacks_0 rfl (lv_at hl 0 rfl) ?_
  refine va_get (D := D) (ci := 10) (v := .ref (q 16)) (C := RX10) (T := TX10) (N := 34) hx hb hts inX10 hown hK hP 0 rfl rfl 28 (by decide) lk56 (fun _ h9 => h9) rfl dX10_lacks_1 ?_
  refine lv_iload_n hx hb dX10_lacks_4 rfl (lv_at hl 1 rfl) ?_
  obtain ⟨hg1, hf⟩ := zz_gd hf
  refine va_zald hx hb hK hP 16 15 rfl rfl hg1 dX10_lacks_5 ?_
  obtain ⟨j48_3, hj48_3, hf⟩ := zz_lts hf
  have Kj48_3 : ∀ (y2 : Int32) (H : Heap) (locs : List Loc), va_P D vwCl (zw_10 q k S) H → va_D A (zw_10 q k S) → va_S A s.heap H locs → ∀ ls : Array Slot, lv_has ls 4 [] → j48_3 y2 = some r → W p l e rmX10_lacks s m args below meth c H locs 0 0 Q (F0 m 48 ls [.int y2]) := by
    intro y2 H locs hP hD hS ls hl hf
    rw [hj48_3] at hf
    obtain rfl := zz_e1 hf
    exact hret _ _ _ _ dX10_lacks_48 hP hD hS
  refine lv_if_ne (tgt := 13) hx hb dX10_lacks_6 (by decide) (fun c6 => ?_) (fun c6 => ?_)
  · have hf := zz_ng hf c6
    refine lv_aload_n hx hb dX10_lacks_13 rfl (lv_at hl 0 rfl) ?_
    refine va_get (D := D) (ci := 10) (v := .ref (q 17)) (C := RX10) (T := TX10) (N := 34) hx hb hts inX10 hown hK hP 0 rfl rfl 29 (by decide) lk59 (fun _ h9 => h9) rfl dX10_lacks_14 ?_
    refine lv_iload_n hx hb dX10_lacks_17 rfl (lv_at hl 1 rfl) ?_
    obtain ⟨hg4, hf⟩ := zz_gd hf
    refine va_iald hx hb hK hP 17 16 rfl rfl hg4 dX10_lacks_18 ?_
    refine lv_iload_n hx hb dX10_lacks_19 rfl (lv_at hl 2 rfl) ?_
    refine lv_icmp_eq (tgt := 27) hx hb dX10_lacks_20 (by decide) (fun c20 => ?_) (fun c20 => ?_)
    · have hf := zz_ps hf c20
      refine lv_iload_n hx hb dX10_lacks_27 rfl (lv_at hl 3 rfl) ?_
      refine lv_iconst (v := (0 : Int32)) hx hb dX10_lacks_28 (by decide) ?_
      refine lv_aload_n hx hb dX10_lacks_29 rfl (lv_at hl 0 rfl) ?_
      refine va_get (D := D) (ci := 10) (v := .ref (q 18)) (C := RX10) (T := TX10) (N := 34) hx hb hts inX10 hown hK hP 0 rfl rfl 30 (by decide) lk62 (fun _ h9 => h9) rfl dX10_lacks_30 ?_
      refine lv_iload_n hx hb dX10_lacks_33 rfl (lv_at hl 1 rfl) ?_
      obtain ⟨hg5, hf⟩ := zz_gd hf
      refine va_iald hx hb hK hP 18 17 rfl rfl hg5 dX10_lacks_34 ?_
      refine lv_iconst (v := (1 : Int32)) hx hb dX10_lacks_35 (by decide) ?_
      refine lv_isub hx hb dX10_lacks_36 ?_
      obtain ⟨r6, hc7, hf⟩ := zz_b1s hf
      refine zz_ji (va_runS (As := [.int u2, .int (0 : Int32), .int (((zz_gA S 17) (Int32.toNatClampNeg u0)) - (1 : Int32))]) (rest := []) hfx (zc_X10_in l D tb  F u2 (0 : Int32) (((zz_gA S 17) (Int32.toNatClampNeg u0)) - (1 : Int32))  r6 hc7 H.size) (va_cwS 3 hts gX10_lacks_X10_in rfl rfl rfl (by decide +kernel) ⟨Nat.le_of_ble_eq_true rfl, Nat.le_of_ble_eq_true rfl⟩) (zz_preS hK hP hD hS hA hE [] [] rfl (by decide) rfl) rfl rfl hl.1 rfl (lv_room (Nat.le_of_ble_eq_true rfl)) dX10_lacks_37 ⟨Nat.zero_le _, Nat.zero_le _⟩) hP hD hS hA [] rfl rfl (fun H locs hP hD hS => ?_)
      have hP : va_P D vwCl (zw_10 q k S) H := hP
      have hD : va_D A (zw_10 q k S) := hD
      refine lv_if_eq (tgt := 47) hx hb dX10_lacks_40 (by decide) (fun c40 => ?_) (fun c40 => ?_)
      · have hf := zz_ps hf c40
        refine lv_iconst (v := (2 : Int32)) hx hb dX10_lacks_47 (by decide) ?_
        exact Kj48_3 (2 : Int32) _ _ hP hD hS ls (lv_sub hl [] rfl) hf
      · have hf := zz_ng hf c40
        refine lv_iconst (v := (0 : Int32)) hx hb dX10_lacks_43 (by decide) ?_
        refine lv_goto (tgt := 48) hx hb dX10_lacks_44 (by decide) ?_
        exact Kj48_3 (0 : Int32) _ _ hP hD hS ls (lv_sub hl [] rfl) hf
    · have hf := zz_ng hf c20
      refine lv_iconst (v := (3 : Int32)) hx hb dX10_lacks_23 (by decide) ?_
      refine lv_goto (tgt := 48) hx hb dX10_lacks_24 (by decide) ?_
      exact Kj48_3 (3 : Int32) _ _ hP hD hS ls (lv_sub hl [] rfl) hf
  · have hf := zz_ps hf c6
    refine lv_iconst (v := (1 : Int32)) hx hb dX10_lacks_9 (by decide) ?_
    refine lv_goto (tgt := 48) hx hb dX10_lacks_10 (by decide) ?_
    exact Kj48_3 (1 : Int32) _ _ hP hD hS ls (lv_sub hl [] rfl) hf
def rmX10_keep : Room := { frames := 0, cells := 0, slots := 0, locals := 0 }
set_option maxHeartbeats 4000000 in
set_option maxRecDepth 100000 in
theorem zc_X10_keep (l : Launch) (D : va_G) (tb : Nat → Nat) (q : Nat → Nat) (k : Nat → ClassId) (F : Nat) (u0 : Int32) (u1 : Int32) (u2 : Int32) (S : zz_M) (o0 : zz_M) (hf : pX10_keep F u0 u1 u2 S = some o0) : zz_Mv l yX10_keep wsX10_keep rmX10_keep D tb [((k 1), .int), ((k 2), .int), ((k 3), .int), ((k 4), .int), ((k 5), .int), ((k 6), .int), ((k 7), .int), ((k 8), .boolean), ((k 9), .int), ((k 10), .int), ((k 11), .int), ((k 12), .int), ((k 13), .int), ((k 14), .int), ((k 15), .int), ((k 16), .boolean), ((k 17), .int), ((k 18), .int), ((k 19), .int), ((k 20), .int)] [.ref (q 0), .int u0, .int u1, .int u2] (zw_10 q k S) (zw_10 q k o0)  := by
  refine zz_ofv (cc := cX10_keep) (maxL := 4) (by decide) rfl (Nat.le_of_ble_eq_true rfl) ?_
  intro p e s m args below meth c A Q hfx hK hA hE hret H locs hP hD hS ls hl
  obtain ⟨hx, hb, hml, hown, hts⟩ := id hfx
  have inX10 : ∀ w ∈ u_ws RX10 TX10 34, w ∈ wsX10_keep := by decide +kernel
  have lk65 := hts (.fieldLink RX10 65 "CatBeatModel" "items" "[I") (by decide +kernel)
  have lk59 := hts (.fieldLink RX10 59 "CatBeatModel" "forms" "[I") (by decide +kernel)
  have hl : lv_has ls 4 [(0, .ref (q 0)), (1, .int u0), (2, .int u1), (3, .int u2)] := hl
  unfold pX10_keep at hf
  refine lv_aload_n hx hb dX10_keep_0 rfl (lv_at hl 0 rfl) ?_
  refine va_get (D := D) (ci := 10) (v := .ref (q 19)) (C := RX10) (T := TX10) (N := 34) hx hb hts inX10 hown hK hP 0 rfl rfl 31 (by decide) lk65 (fun _ h9 => h9) rfl dX10_keep_1 ?_
  refine lv_bipush (v := (60 : Int32)) hx hb dX10_keep_4 (by decide) ?_
  refine lv_iload_n hx hb dX10_keep_6 rfl (lv_at hl 1 rfl) ?_
  refine lv_imul hx hb dX10_keep_7 ?_
  refine lv_iload_n hx hb dX10_keep_8 rfl (lv_at hl 2 rfl) ?_
  refine lv_iadd hx hb dX10_keep_9 ?_
  refine lv_aload_n hx hb dX10_keep_10 rfl (lv_at hl 0 rfl) ?_
  refine va_get (D := D) (ci := 10) (v := .ref (q 17)) (C := RX10) (T := TX10) (N := 34) hx hb hts inX10 hown hK hP 0 rfl rfl 29 (by decide) lk59 (fun _ h9 => h9) rfl dX10_keep_11 ?_
  refine lv_iload_n hx hb dX10_keep_14 rfl (lv_at hl 1 rfl) ?_
  obtain ⟨hg1, hf⟩ := zz_gd hf
  refine va_iald hx hb hK hP 17 16 rfl rfl hg1 dX10_keep_15 ?_
  obtain ⟨j40_3, hj40_3, hf⟩ := zz_lts hf
  have Kj40_3 : ∀ (y2 : Int32) (H : Heap) (locs : List Loc), va_P D vwCl (zw_10 q k S) H → va_D A (zw_10 q k S) → va_S A s.heap H locs → ∀ ls : Array Slot, lv_has ls 4 [] → j40_3 y2 = some o0 → W p l e rmX10_keep s m args below meth c H locs 0 0 Q (F0 m 40 ls [.int y2, .int (((60 : Int32) * u0) + u1), .ref (q 19)]) := by
    intro y2 H locs hP hD hS ls hl hf
    rw [hj40_3] at hf
    obtain ⟨hg4, hf⟩ := zz_gd hf
    obtain ⟨S5, hS5, hf⟩ := zz_lts hf
    refine va_iast hx hb hK hP hD hS 19 18 rfl rfl hg4 dX10_keep_40 (fun H locs hP hD hS => ?_)
    have hP : va_P D vwCl (zw_10 q k S5) H := by rw [hS5]; exact hP
    have hD : va_D A (zw_10 q k S5) := by rw [hS5]; exact hD
    obtain rfl := zz_e1 hf
    exact hret _ _ _ _ dX10_keep_41 hP hD hS
  refine lv_if_ne (tgt := 24) hx hb dX10_keep_16 (by decide) (fun c16 => ?_) (fun c16 => ?_)
  · have hf := zz_ng hf c16
    refine lv_aload_n hx hb dX10_keep_24 rfl (lv_at hl 0 rfl) ?_
    refine va_get (D := D) (ci := 10) (v := .ref (q 17)) (C := RX10) (T := TX10) (N := 34) hx hb hts inX10 hown hK hP 0 rfl rfl 29 (by decide) lk59 (fun _ h9 => h9) rfl dX10_keep_25 ?_
    refine lv_iload_n hx hb dX10_keep_28 rfl (lv_at hl 1 rfl) ?_
    obtain ⟨hg6, hf⟩ := zz_gd hf
    refine va_iald hx hb hK hP 17 16 rfl rfl hg6 dX10_keep_29 ?_
    refine lv_iconst (v := (1 : Int32)) hx hb dX10_keep_30 (by decide) ?_
    refine lv_icmp_ne (tgt := 39) hx hb dX10_keep_31 (by decide) (fun c31 => ?_) (fun c31 => ?_)
    · have hf := zz_ng hf c31
      refine lv_iload_n hx hb dX10_keep_39 rfl (lv_at hl 3 rfl) ?_
      exact Kj40_3 u2 _ _ hP hD hS ls (lv_sub hl [] rfl) hf
    · have hf := zz_ps hf c31
      refine lv_iload_n hx hb dX10_keep_34 rfl (lv_at hl 3 rfl) ?_
      refine lv_i2s (v := (Int16.toInt32 (Int32.toInt16 u2))) hx hb dX10_keep_35 rfl ?_
      refine lv_goto (tgt := 40) hx hb dX10_keep_36 (by decide) ?_
      exact Kj40_3 (Int16.toInt32 (Int32.toInt16 u2)) _ _ hP hD hS ls (lv_sub hl [] rfl) hf
  · have hf := zz_ps hf c16
    refine lv_iload_n hx hb dX10_keep_19 rfl (lv_at hl 3 rfl) ?_
    refine lv_i2b (v := (Int8.toInt32 (Int32.toInt8 u2))) hx hb dX10_keep_20 rfl ?_
    refine lv_goto (tgt := 40) hx hb dX10_keep_21 (by decide) ?_
    exact Kj40_3 (Int8.toInt32 (Int32.toInt8 u2)) _ _ hP hD hS ls (lv_sub hl [] rfl) hf
def rmX10_put : Room := { frames := 2, cells := 0, slots := 0, locals := 45 }
set_option maxHeartbeats 4000000 in
set_option maxRecDepth 100000 in
theorem zc_X10_put (l : Launch) (D : va_G) (tb : Nat → Nat) (q : Nat → Nat) (k : Nat → ClassId) (F : Nat) (u0 : Int32) (u1 : Int32) (u2 : Int32) (u3 : Int32) (S : zz_M) (r : Int32) (o1 : zz_M) (hf : pX10_put F u0 u1 u2 u3 S = some (r, o1)) : zz_Mi l yX10_put wsX10_put rmX10_put D tb [((k 1), .int), ((k 2), .int), ((k 3), .int), ((k 4), .int), ((k 5), .int), ((k 6), .int), ((k 7), .int), ((k 8), .boolean), ((k 9), .int), ((k 10), .int), ((k 11), .int), ((k 12), .int), ((k 13), .int), ((k 14), .int), ((k 15), .int), ((k 16), .boolean), ((k 17), .int), ((k 18), .int), ((k 19), .int), ((k 20), .int)] [.ref (q 0), .int u0, .int u1, .int u2, .int u3] (zw_10 q k S) (zw_10 q k o1) r := by
  refine zz_ofi (cc := cX10_put) (maxL := 6) (by decide) rfl (Nat.le_of_ble_eq_true rfl) ?_
  intro p e s m args below meth c A Q hfx hK hA hE hret H locs hP hD hS ls hl
  obtain ⟨hx, hb, hml, hown, hts⟩ := id hfx
  have hl : lv_has ls 6 [(0, .ref (q 0)), (1, .int u0), (2, .int u1), (3, .int u2), (4, .int u3)] := hl
  unfold pX10_put at hf
  refine lv_iload_n hx hb dX10_put_0 rfl (lv_at hl 1 rfl) ?_
  obtain ⟨r1, hc2, hf⟩ := zz_b1s hf
  refine zz_ji (va_runS (As := [.int u0]) (rest := []) hfx (zc_X10_isSheet l D tb  F u0  r1 hc2 H.size) (va_cwS 1 hts gX10_put_X10_isSheet rfl rfl rfl (by decide +kernel) ⟨Nat.le_of_ble_eq_true rfl, Nat.le_of_ble_eq_true rfl⟩) (zz_preS hK hP hD hS hA hE [] [] rfl (by decide) rfl) rfl rfl hl.1 rfl (lv_room (Nat.le_of_ble_eq_true rfl)) dX10_put_1 ⟨Nat.zero_le _, Nat.zero_le _⟩) hP hD hS hA [] rfl rfl (fun H locs hP hD hS => ?_)
  have hP : va_P D vwCl (zw_10 q k S) H := hP
  have hD : va_D A (zw_10 q k S) := hD
  obtain ⟨j16_3, hj16_3, hf⟩ := zz_lts hf
  have Kj16_3 : ∀  (H : Heap) (locs : List Loc), va_P D vwCl (zw_10 q k S) H → va_D A (zw_10 q k S) → va_S A s.heap H locs → ∀ ls : Array Slot, lv_has ls 6 [] → j16_3 () = some (r, o1) → W p l e rmX10_put s m args below meth c H locs 0 0 Q (F0 m 16 ls []) := by
    intro  H locs hP hD hS ls hl hf
    rw [hj16_3] at hf
    refine lv_bipush (v := (-2 : Int32)) hx hb dX10_put_16 (by decide) ?_
    obtain ⟨rfl, rfl⟩ := zz_e2 hf
    exact hret _ _ _ _ dX10_put_18 hP hD hS
  refine lv_if_eq (tgt := 16) hx hb dX10_put_4 (by decide) (fun c4 => ?_) (fun c4 => ?_)
  · have hf := zz_ps hf c4
    exact Kj16_3  _ _ hP hD hS ls (lv_sub hl [] rfl) hf
  · have hf := zz_ng hf c4
    refine lv_iload_n hx hb dX10_put_7 rfl (lv_at hl 2 rfl) ?_
    refine lv_iconst (v := (0 : Int32)) hx hb dX10_put_8 (by decide) ?_
    refine lv_iconst (v := (2 : Int32)) hx hb dX10_put_9 (by decide) ?_
    obtain ⟨r4, hc5, hf⟩ := zz_b1s hf
    refine zz_ji (va_runS (As := [.int u1, .int (0 : Int32), .int (2 : Int32)]) (rest := []) hfx (zc_X10_in l D tb  F u1 (0 : Int32) (2 : Int32)  r4 hc5 H.size) (va_cwS 3 hts gX10_put_X10_in rfl rfl rfl (by decide +kernel) ⟨Nat.le_of_ble_eq_true rfl, Nat.le_of_ble_eq_true rfl⟩) (zz_preS hK hP hD hS hA hE [] [] rfl (by decide) rfl) rfl rfl hl.1 rfl (lv_room (Nat.le_of_ble_eq_true rfl)) dX10_put_10 ⟨Nat.zero_le _, Nat.zero_le _⟩) hP hD hS hA [] rfl rfl (fun H locs hP hD hS => ?_)
    have hP : va_P D vwCl (zw_10 q k S) H := hP
    have hD : va_D A (zw_10 q k S) := hD
    refine lv_if_ne (tgt := 19) hx hb dX10_put_13 (by decide) (fun c13 => ?_) (fun c13 => ?_)
    · have hf := zz_ng hf c13
      refine lv_aload_n hx hb dX10_put_19 rfl (lv_at hl 0 rfl) ?_
      refine lv_iload_n hx hb dX10_put_20 rfl (lv_at hl 1 rfl) ?_
      refine lv_iload_n hx hb dX10_put_21 rfl (lv_at hl 2 rfl) ?_
      refine lv_iload_n hx hb dX10_put_22 rfl (lv_at hl 3 rfl) ?_
      obtain ⟨r6, hc7, hf⟩ := zz_b1s hf
      refine zz_ji0 (va_runV (As := [.int u0, .int u1, .int u2]) (rest := []) hfx (zc_X10_lacks l D tb q k F u0 u1 u2 S r6 hc7 H.size) (cwV 3 hts gX10_put_X10_lacks rfl rfl rfl (by decide +kernel) ⟨Nat.le_of_ble_eq_true rfl, Nat.le_of_ble_eq_true rfl⟩) (zz_pre0V hK hP hD hS hA hE 0 rfl rfl rfl) rfl rfl hl.1 rfl (lv_room (Nat.le_of_ble_eq_true rfl)) dX10_put_23 ⟨Nat.zero_le _, Nat.zero_le _⟩) hD hS hA (fun H locs hP hD hS => ?_)
      refine lv_istore (lv' := [(5, .int r6), (0, .ref (q 0)), (1, .int u0), (2, .int u1), (3, .int u2), (4, .int u3)]) hx hb dX10_put_26 hl (by decide) rfl (fun ls hl => ?_)
      refine lv_iload hx hb dX10_put_28 (lv_at hl 0 rfl) ?_
      refine lv_if_le (tgt := 40) hx hb dX10_put_30 (by decide) (fun c30 => ?_) (fun c30 => ?_)
      · have hf := zz_ps hf c30
        refine lv_aload_n hx hb dX10_put_40 rfl (lv_at hl 1 rfl) ?_
        refine lv_iload_n hx hb dX10_put_41 rfl (lv_at hl 2 rfl) ?_
        refine lv_iload_n hx hb dX10_put_42 rfl (lv_at hl 4 rfl) ?_
        refine lv_iload hx hb dX10_put_43 (lv_at hl 5 rfl) ?_
        obtain ⟨S8, hc9, hf⟩ := zz_b1s hf
        refine zz_jv0 (va_runV (As := [.int u0, .int u2, .int u3]) (rest := []) hfx (zc_X10_keep l D tb q k F u0 u2 u3 S S8 hc9 H.size) (cwV 3 hts gX10_put_X10_keep rfl rfl rfl (by decide +kernel) ⟨Nat.le_of_ble_eq_true rfl, Nat.le_of_ble_eq_true rfl⟩) (zz_pre0V hK hP hD hS hA hE 0 rfl rfl rfl) rfl rfl hl.1 rfl (lv_room (Nat.le_of_ble_eq_true rfl)) dX10_put_45 ⟨Nat.zero_le _, Nat.zero_le _⟩) hD hS hA (fun H locs hP hD hS => ?_)
        refine lv_iconst (v := (1 : Int32)) hx hb dX10_put_48 (by decide) ?_
        obtain ⟨rfl, rfl⟩ := zz_e2 hf
        exact hret _ _ _ _ dX10_put_49 hP hD hS
      · have hf := zz_ng hf c30
        refine lv_aload_n hx hb dX10_put_33 rfl (lv_at hl 1 rfl) ?_
        refine lv_iload hx hb dX10_put_34 (lv_at hl 0 rfl) ?_
        obtain ⟨r10, S11, hc12, hf⟩ := zz_b2s hf
        refine zz_ji0 (va_runV (As := [.int r6]) (rest := []) hfx (zc_X10_meets l D tb q k F r6 S r10 S11 hc12 H.size) (cwV 1 hts gX10_put_X10_meets rfl rfl rfl (by decide +kernel) ⟨Nat.le_of_ble_eq_true rfl, Nat.le_of_ble_eq_true rfl⟩) (zz_pre0V hK hP hD hS hA hE 0 rfl rfl rfl) rfl rfl hl.1 rfl (lv_room (Nat.le_of_ble_eq_true rfl)) dX10_put_36 ⟨Nat.zero_le _, Nat.zero_le _⟩) hD hS hA (fun H locs hP hD hS => ?_)
        obtain ⟨rfl, rfl⟩ := zz_e2 hf
        exact hret _ _ _ _ dX10_put_39 hP hD hS
    · have hf := zz_ps hf c13
      exact Kj16_3  _ _ hP hD hS ls (lv_sub hl [] rfl) hf
def rmX10_get : Room := { frames := 2, cells := 0, slots := 0, locals := 45 }
set_option maxHeartbeats 4000000 in
set_option maxRecDepth 100000 in
theorem zc_X10_get (l : Launch) (D : va_G) (tb : Nat → Nat) (q : Nat → Nat) (k : Nat → ClassId) (F : Nat) (u0 : Int32) (u1 : Int32) (u2 : Int32) (S : zz_M) (r : Int32) (o1 : zz_M) (hf : pX10_get F u0 u1 u2 S = some (r, o1)) : zz_Mi l yX10_get wsX10_get rmX10_get D tb [((k 1), .int), ((k 2), .int), ((k 3), .int), ((k 4), .int), ((k 5), .int), ((k 6), .int), ((k 7), .int), ((k 8), .boolean), ((k 9), .int), ((k 10), .int), ((k 11), .int), ((k 12), .int), ((k 13), .int), ((k 14), .int), ((k 15), .int), ((k 16), .boolean), ((k 17), .int), ((k 18), .int), ((k 19), .int), ((k 20), .int)] [.ref (q 0), .int u0, .int u1, .int u2] (zw_10 q k S) (zw_10 q k o1) r := by
  refine zz_ofi (cc := cX10_get) (maxL := 5) (by decide) rfl (Nat.le_of_ble_eq_true rfl) ?_
  intro p e s m args below meth c A Q hfx hK hA hE hret H locs hP hD hS ls hl
  obtain ⟨hx, hb, hml, hown, hts⟩ := id hfx
  have inX10 : ∀ w ∈ u_ws RX10 TX10 34, w ∈ wsX10_get := by decide +kernel
  have lk65 := hts (.fieldLink RX10 65 "CatBeatModel" "items" "[I") (by decide +kernel)
  have lk283 := hts (.fieldLink RX10 283 "CatBeatModel" "finding" "I") (by decide +kernel)
  have kc293 := hts (.constant RX10 293 (-2147483648)) (by decide +kernel)
  have hl : lv_has ls 5 [(0, .ref (q 0)), (1, .int u0), (2, .int u1), (3, .int u2)] := hl
  unfold pX10_get at hf
  refine lv_iload_n hx hb dX10_get_0 rfl (lv_at hl 1 rfl) ?_
  obtain ⟨r1, hc2, hf⟩ := zz_b1s hf
  refine zz_ji (va_runS (As := [.int u0]) (rest := []) hfx (zc_X10_isSheet l D tb  F u0  r1 hc2 H.size) (va_cwS 1 hts gX10_get_X10_isSheet rfl rfl rfl (by decide +kernel) ⟨Nat.le_of_ble_eq_true rfl, Nat.le_of_ble_eq_true rfl⟩) (zz_preS hK hP hD hS hA hE [] [] rfl (by decide) rfl) rfl rfl hl.1 rfl (lv_room (Nat.le_of_ble_eq_true rfl)) dX10_get_1 ⟨Nat.zero_le _, Nat.zero_le _⟩) hP hD hS hA [] rfl rfl (fun H locs hP hD hS => ?_)
  have hP : va_P D vwCl (zw_10 q k S) H := hP
  have hD : va_D A (zw_10 q k S) := hD
  obtain ⟨j16_3, hj16_3, hf⟩ := zz_lts hf
  have Kj16_3 : ∀  (H : Heap) (locs : List Loc), va_P D vwCl (zw_10 q k S) H → va_D A (zw_10 q k S) → va_S A s.heap H locs → ∀ ls : Array Slot, lv_has ls 5 [] → j16_3 () = some (r, o1) → W p l e rmX10_get s m args below meth c H locs 0 0 Q (F0 m 16 ls []) := by
    intro  H locs hP hD hS ls hl hf
    rw [hj16_3] at hf
    refine lv_ldcw (v := (-2147483648 : Int32)) hx hb hown kc293 dX10_get_16 ?_
    obtain ⟨rfl, rfl⟩ := zz_e2 hf
    exact hret _ _ _ _ dX10_get_19 hP hD hS
  refine lv_if_eq (tgt := 16) hx hb dX10_get_4 (by decide) (fun c4 => ?_) (fun c4 => ?_)
  · have hf := zz_ps hf c4
    exact Kj16_3  _ _ hP hD hS ls (lv_sub hl [] rfl) hf
  · have hf := zz_ng hf c4
    refine lv_iload_n hx hb dX10_get_7 rfl (lv_at hl 2 rfl) ?_
    refine lv_iconst (v := (0 : Int32)) hx hb dX10_get_8 (by decide) ?_
    refine lv_iconst (v := (2 : Int32)) hx hb dX10_get_9 (by decide) ?_
    obtain ⟨r4, hc5, hf⟩ := zz_b1s hf
    refine zz_ji (va_runS (As := [.int u1, .int (0 : Int32), .int (2 : Int32)]) (rest := []) hfx (zc_X10_in l D tb  F u1 (0 : Int32) (2 : Int32)  r4 hc5 H.size) (va_cwS 3 hts gX10_get_X10_in rfl rfl rfl (by decide +kernel) ⟨Nat.le_of_ble_eq_true rfl, Nat.le_of_ble_eq_true rfl⟩) (zz_preS hK hP hD hS hA hE [] [] rfl (by decide) rfl) rfl rfl hl.1 rfl (lv_room (Nat.le_of_ble_eq_true rfl)) dX10_get_10 ⟨Nat.zero_le _, Nat.zero_le _⟩) hP hD hS hA [] rfl rfl (fun H locs hP hD hS => ?_)
    have hP : va_P D vwCl (zw_10 q k S) H := hP
    have hD : va_D A (zw_10 q k S) := hD
    refine lv_if_ne (tgt := 20) hx hb dX10_get_13 (by decide) (fun c13 => ?_) (fun c13 => ?_)
    · have hf := zz_ng hf c13
      refine lv_aload_n hx hb dX10_get_20 rfl (lv_at hl 0 rfl) ?_
      refine lv_iload_n hx hb dX10_get_21 rfl (lv_at hl 1 rfl) ?_
      refine lv_iload_n hx hb dX10_get_22 rfl (lv_at hl 2 rfl) ?_
      refine lv_iload_n hx hb dX10_get_23 rfl (lv_at hl 3 rfl) ?_
      obtain ⟨r6, hc7, hf⟩ := zz_b1s hf
      refine zz_ji0 (va_runV (As := [.int u0, .int u1, .int u2]) (rest := []) hfx (zc_X10_lacks l D tb q k F u0 u1 u2 S r6 hc7 H.size) (cwV 3 hts gX10_get_X10_lacks rfl rfl rfl (by decide +kernel) ⟨Nat.le_of_ble_eq_true rfl, Nat.le_of_ble_eq_true rfl⟩) (zz_pre0V hK hP hD hS hA hE 0 rfl rfl rfl) rfl rfl hl.1 rfl (lv_room (Nat.le_of_ble_eq_true rfl)) dX10_get_24 ⟨Nat.zero_le _, Nat.zero_le _⟩) hD hS hA (fun H locs hP hD hS => ?_)
      refine lv_istore (lv' := [(4, .int r6), (0, .ref (q 0)), (1, .int u0), (2, .int u1), (3, .int u2)]) hx hb dX10_get_27 hl (by decide) rfl (fun ls hl => ?_)
      refine lv_iload hx hb dX10_get_29 (lv_at hl 0 rfl) ?_
      refine lv_if_le (tgt := 44) hx hb dX10_get_31 (by decide) (fun c31 => ?_) (fun c31 => ?_)
      · have hf := zz_ps hf c31
        refine lv_aload_n hx hb dX10_get_44 rfl (lv_at hl 1 rfl) ?_
        refine va_get (D := D) (ci := 10) (v := .ref (q 19)) (C := RX10) (T := TX10) (N := 34) hx hb hts inX10 hown hK hP 0 rfl rfl 31 (by decide) lk65 (fun _ h9 => h9) rfl dX10_get_45 ?_
        refine lv_bipush (v := (60 : Int32)) hx hb dX10_get_48 (by decide) ?_
        refine lv_iload_n hx hb dX10_get_50 rfl (lv_at hl 2 rfl) ?_
        refine lv_imul hx hb dX10_get_51 ?_
        refine lv_iload_n hx hb dX10_get_52 rfl (lv_at hl 4 rfl) ?_
        refine lv_iadd hx hb dX10_get_53 ?_
        obtain ⟨hg8, hf⟩ := zz_gd hf
        refine va_iald hx hb hK hP 19 18 rfl rfl hg8 dX10_get_54 ?_
        obtain ⟨rfl, rfl⟩ := zz_e2 hf
        exact hret _ _ _ _ dX10_get_55 hP hD hS
      · have hf := zz_ng hf c31
        refine lv_aload_n hx hb dX10_get_34 rfl (lv_at hl 1 rfl) ?_
        refine lv_iload hx hb dX10_get_35 (lv_at hl 0 rfl) ?_
        obtain ⟨S9, hS9, hf⟩ := zz_lts hf
        refine va_put (D := D) (ci := 10) (v := .int r6) (ty := .int) (C := RX10) (T := TX10) (N := 34) hx hb hts inX10 tyX10 tyX10_ok nmX10 hown hK hP hD hS 0 rfl rfl 33 (by decide) lk283 (fun _ h9 => h9) rfl (by decide +kernel) rfl rfl (Nat.le_of_ble_eq_true rfl) dX10_get_37 (fun H locs hP hD hS => ?_)
        have hP : va_P D vwCl (zw_10 q k S9) H := by rw [hS9]; exact hP
        have hD : va_D A (zw_10 q k S9) := by rw [hS9]; exact hD
        refine lv_ldcw (v := (-2147483648 : Int32)) hx hb hown kc293 dX10_get_40 ?_
        obtain ⟨rfl, rfl⟩ := zz_e2 hf
        exact hret _ _ _ _ dX10_get_43 hP hD hS
    · have hf := zz_ps hf c13
      exact Kj16_3  _ _ hP hD hS ls (lv_sub hl [] rfl) hf
def rmX10_copy : Room := { frames := 2, cells := 0, slots := 0, locals := 42 }
set_option maxHeartbeats 4000000 in
set_option maxRecDepth 100000 in
theorem zc_X10_copy (l : Launch) (D : va_G) (tb : Nat → Nat) (q : Nat → Nat) (k : Nat → ClassId) (F : Nat) (u0 : Int32) (u1 : Int32) (u2 : Int32) (u3 : Int32) (u4 : Int32) (S : zz_M) (r : Int32) (o1 : zz_M) (hf : pX10_copy F u0 u1 u2 u3 u4 S = some (r, o1)) : zz_Mi l yX10_copy wsX10_copy rmX10_copy D tb [((k 1), .int), ((k 2), .int), ((k 3), .int), ((k 4), .int), ((k 5), .int), ((k 6), .int), ((k 7), .int), ((k 8), .boolean), ((k 9), .int), ((k 10), .int), ((k 11), .int), ((k 12), .int), ((k 13), .int), ((k 14), .int), ((k 15), .int), ((k 16), .boolean), ((k 17), .int), ((k 18), .int), ((k 19), .int), ((k 20), .int)] [.ref (q 0), .int u0, .int u1, .int u2, .int u3, .int u4] (zw_10 q k S) (zw_10 q k o1) r := by
  refine zz_ofi (cc := cX10_copy) (maxL := 7) (by decide) rfl (Nat.le_of_ble_eq_true rfl) ?_
  intro p e s m args below meth c A Q hfx hK hA hE hret H locs hP hD hS ls hl
  obtain ⟨hx, hb, hml, hown, hts⟩ := id hfx
  have inX10 : ∀ w ∈ u_ws RX10 TX10 34, w ∈ wsX10_copy := by decide +kernel
  have lk56 := hts (.fieldLink RX10 56 "CatBeatModel" "isThere" "[Z") (by decide +kernel)
  have lk59 := hts (.fieldLink RX10 59 "CatBeatModel" "forms" "[I") (by decide +kernel)
  have lk62 := hts (.fieldLink RX10 62 "CatBeatModel" "sizes" "[I") (by decide +kernel)
  have lk65 := hts (.fieldLink RX10 65 "CatBeatModel" "items" "[I") (by decide +kernel)
  have lk68 := hts (.fieldLink RX10 68 "CatBeatModel" "moved" "[I") (by decide +kernel)
  have hl : lv_has ls 7 [(0, .ref (q 0)), (1, .int u0), (2, .int u1), (3, .int u2), (4, .int u3), (5, .int u4)] := hl
  unfold pX10_copy at hf
  refine lv_iload_n hx hb dX10_copy_0 rfl (lv_at hl 1 rfl) ?_
  obtain ⟨r1, hc2, hf⟩ := zz_b1s hf
  refine zz_ji (va_runS (As := [.int u0]) (rest := []) hfx (zc_X10_isSheet l D tb  F u0  r1 hc2 H.size) (va_cwS 1 hts gX10_copy_X10_isSheet rfl rfl rfl (by decide +kernel) ⟨Nat.le_of_ble_eq_true rfl, Nat.le_of_ble_eq_true rfl⟩) (zz_preS hK hP hD hS hA hE [] [] rfl (by decide) rfl) rfl rfl hl.1 rfl (lv_room (Nat.le_of_ble_eq_true rfl)) dX10_copy_1 ⟨Nat.zero_le _, Nat.zero_le _⟩) hP hD hS hA [] rfl rfl (fun H locs hP hD hS => ?_)
  have hP : va_P D vwCl (zw_10 q k S) H := hP
  have hD : va_D A (zw_10 q k S) := hD
  obtain ⟨j14_3, hj14_3, hf⟩ := zz_lts hf
  have Kj14_3 : ∀  (H : Heap) (locs : List Loc), va_P D vwCl (zw_10 q k S) H → va_D A (zw_10 q k S) → va_S A s.heap H locs → ∀ ls : Array Slot, lv_has ls 7 [] → j14_3 () = some (r, o1) → W p l e rmX10_copy s m args below meth c H locs 0 0 Q (F0 m 14 ls []) := by
    intro  H locs hP hD hS ls hl hf
    rw [hj14_3] at hf
    refine lv_bipush (v := (-2 : Int32)) hx hb dX10_copy_14 (by decide) ?_
    obtain ⟨rfl, rfl⟩ := zz_e2 hf
    exact hret _ _ _ _ dX10_copy_16 hP hD hS
  refine lv_if_eq (tgt := 14) hx hb dX10_copy_4 (by decide) (fun c4 => ?_) (fun c4 => ?_)
  · have hf := zz_ps hf c4
    exact Kj14_3  _ _ hP hD hS ls (lv_sub hl [] rfl) hf
  · have hf := zz_ng hf c4
    refine lv_iload_n hx hb dX10_copy_7 rfl (lv_at hl 3 rfl) ?_
    obtain ⟨r4, hc5, hf⟩ := zz_b1s hf
    refine zz_ji (va_runS (As := [.int u2]) (rest := []) hfx (zc_X10_isSheet l D tb  F u2  r4 hc5 H.size) (va_cwS 1 hts gX10_copy_X10_isSheet rfl rfl rfl (by decide +kernel) ⟨Nat.le_of_ble_eq_true rfl, Nat.le_of_ble_eq_true rfl⟩) (zz_preS hK hP hD hS hA hE [] [] rfl (by decide) rfl) rfl rfl hl.1 rfl (lv_room (Nat.le_of_ble_eq_true rfl)) dX10_copy_8 ⟨Nat.zero_le _, Nat.zero_le _⟩) hP hD hS hA [] rfl rfl (fun H locs hP hD hS => ?_)
    have hP : va_P D vwCl (zw_10 q k S) H := hP
    have hD : va_D A (zw_10 q k S) := hD
    refine lv_if_ne (tgt := 17) hx hb dX10_copy_11 (by decide) (fun c11 => ?_) (fun c11 => ?_)
    · have hf := zz_ng hf c11
      refine lv_aload_n hx hb dX10_copy_17 rfl (lv_at hl 0 rfl) ?_
      refine va_get (D := D) (ci := 10) (v := .ref (q 16)) (C := RX10) (T := TX10) (N := 34) hx hb hts inX10 hown hK hP 0 rfl rfl 28 (by decide) lk56 (fun _ h9 => h9) rfl dX10_copy_18 ?_
      refine lv_iload_n hx hb dX10_copy_21 rfl (lv_at hl 1 rfl) ?_
      obtain ⟨hg6, hf⟩ := zz_gd hf
      refine va_zald hx hb hK hP 16 15 rfl rfl hg6 dX10_copy_22 ?_
      obtain ⟨j35_7, hj35_7, hf⟩ := zz_lts hf
      have Kj35_7 : ∀  (H : Heap) (locs : List Loc), va_P D vwCl (zw_10 q k S) H → va_D A (zw_10 q k S) → va_S A s.heap H locs → ∀ ls : Array Slot, lv_has ls 7 [(0, .ref (q 0))] → j35_7 () = some (r, o1) → W p l e rmX10_copy s m args below meth c H locs 0 0 Q (F0 m 35 ls []) := by
        intro  H locs hP hD hS ls hl hf
        rw [hj35_7] at hf
        refine lv_aload_n hx hb dX10_copy_35 rfl (lv_at hl 0 rfl) ?_
        refine lv_iconst (v := (1 : Int32)) hx hb dX10_copy_36 (by decide) ?_
        obtain ⟨r8, S9, hc10, hf⟩ := zz_b2s hf
        refine zz_ji0 (va_runV (As := [.int (1 : Int32)]) (rest := []) hfx (zc_X10_meets l D tb q k F (1 : Int32) S r8 S9 hc10 H.size) (cwV 1 hts gX10_copy_X10_meets rfl rfl rfl (by decide +kernel) ⟨Nat.le_of_ble_eq_true rfl, Nat.le_of_ble_eq_true rfl⟩) (zz_pre0V hK hP hD hS hA hE 0 rfl rfl rfl) rfl rfl hl.1 rfl (lv_room (Nat.le_of_ble_eq_true rfl)) dX10_copy_37 ⟨Nat.zero_le _, Nat.zero_le _⟩) hD hS hA (fun H locs hP hD hS => ?_)
        obtain ⟨rfl, rfl⟩ := zz_e2 hf
        exact hret _ _ _ _ dX10_copy_40 hP hD hS
      refine lv_if_eq (tgt := 35) hx hb dX10_copy_23 (by decide) (fun c23 => ?_) (fun c23 => ?_)
      · have hf := zz_ps hf c23
        exact Kj35_7  _ _ hP hD hS ls (lv_sub hl [0] rfl) hf
      · have hf := zz_ng hf c23
        refine lv_aload_n hx hb dX10_copy_26 rfl (lv_at hl 0 rfl) ?_
        refine va_get (D := D) (ci := 10) (v := .ref (q 16)) (C := RX10) (T := TX10) (N := 34) hx hb hts inX10 hown hK hP 0 rfl rfl 28 (by decide) lk56 (fun _ h9 => h9) rfl dX10_copy_27 ?_
        refine lv_iload_n hx hb dX10_copy_30 rfl (lv_at hl 3 rfl) ?_
        obtain ⟨hg11, hf⟩ := zz_gd hf
        refine va_zald hx hb hK hP 16 15 rfl rfl hg11 dX10_copy_31 ?_
        refine lv_if_ne (tgt := 41) hx hb dX10_copy_32 (by decide) (fun c32 => ?_) (fun c32 => ?_)
        · have hf := zz_ng hf c32
          refine lv_aload_n hx hb dX10_copy_41 rfl (lv_at hl 0 rfl) ?_
          refine va_get (D := D) (ci := 10) (v := .ref (q 17)) (C := RX10) (T := TX10) (N := 34) hx hb hts inX10 hown hK hP 0 rfl rfl 29 (by decide) lk59 (fun _ h9 => h9) rfl dX10_copy_42 ?_
          refine lv_iload_n hx hb dX10_copy_45 rfl (lv_at hl 1 rfl) ?_
          obtain ⟨hg12, hf⟩ := zz_gd hf
          refine va_iald hx hb hK hP 17 16 rfl rfl hg12 dX10_copy_46 ?_
          refine lv_aload_n hx hb dX10_copy_47 rfl (lv_at hl 0 rfl) ?_
          refine va_get (D := D) (ci := 10) (v := .ref (q 17)) (C := RX10) (T := TX10) (N := 34) hx hb hts inX10 hown hK hP 0 rfl rfl 29 (by decide) lk59 (fun _ h9 => h9) rfl dX10_copy_48 ?_
          refine lv_iload_n hx hb dX10_copy_51 rfl (lv_at hl 3 rfl) ?_
          obtain ⟨hg13, hf⟩ := zz_gd hf
          refine va_iald hx hb hK hP 17 16 rfl rfl hg13 dX10_copy_52 ?_
          refine lv_icmp_eq (tgt := 62) hx hb dX10_copy_53 (by decide) (fun c53 => ?_) (fun c53 => ?_)
          · have hf := zz_ps hf c53
            refine lv_iload_n hx hb dX10_copy_62 rfl (lv_at hl 2 rfl) ?_
            obtain ⟨j111_14, hj111_14, hf⟩ := zz_lts hf
            have Kj111_14 : ∀  (H : Heap) (locs : List Loc), va_P D vwCl (zw_10 q k S) H → va_D A (zw_10 q k S) → va_S A s.heap H locs → ∀ ls : Array Slot, lv_has ls 7 [(0, .ref (q 0))] → j111_14 () = some (r, o1) → W p l e rmX10_copy s m args below meth c H locs 0 0 Q (F0 m 111 ls []) := by
              intro  H locs hP hD hS ls hl hf
              rw [hj111_14] at hf
              refine lv_aload_n hx hb dX10_copy_111 rfl (lv_at hl 0 rfl) ?_
              refine lv_iconst (v := (2 : Int32)) hx hb dX10_copy_112 (by decide) ?_
              obtain ⟨r15, S16, hc17, hf⟩ := zz_b2s hf
              refine zz_ji0 (va_runV (As := [.int (2 : Int32)]) (rest := []) hfx (zc_X10_meets l D tb q k F (2 : Int32) S r15 S16 hc17 H.size) (cwV 1 hts gX10_copy_X10_meets rfl rfl rfl (by decide +kernel) ⟨Nat.le_of_ble_eq_true rfl, Nat.le_of_ble_eq_true rfl⟩) (zz_pre0V hK hP hD hS hA hE 0 rfl rfl rfl) rfl rfl hl.1 rfl (lv_room (Nat.le_of_ble_eq_true rfl)) dX10_copy_113 ⟨Nat.zero_le _, Nat.zero_le _⟩) hD hS hA (fun H locs hP hD hS => ?_)
              obtain ⟨rfl, rfl⟩ := zz_e2 hf
              exact hret _ _ _ _ dX10_copy_116 hP hD hS
            refine lv_if_lt (tgt := 111) hx hb dX10_copy_63 (by decide) (fun c63 => ?_) (fun c63 => ?_)
            · have hf := zz_ps hf c63
              exact Kj111_14  _ _ hP hD hS ls (lv_sub hl [0] rfl) hf
            · have hf := zz_ng hf c63
              refine lv_iload hx hb dX10_copy_66 (lv_at hl 4 rfl) ?_
              refine lv_if_lt (tgt := 111) hx hb dX10_copy_68 (by decide) (fun c68 => ?_) (fun c68 => ?_)
              · have hf := zz_ps hf c68
                exact Kj111_14  _ _ hP hD hS ls (lv_sub hl [0] rfl) hf
              · have hf := zz_ng hf c68
                refine lv_iload hx hb dX10_copy_71 (lv_at hl 5 rfl) ?_
                refine lv_if_lt (tgt := 111) hx hb dX10_copy_73 (by decide) (fun c73 => ?_) (fun c73 => ?_)
                · have hf := zz_ps hf c73
                  exact Kj111_14  _ _ hP hD hS ls (lv_sub hl [0] rfl) hf
                · have hf := zz_ng hf c73
                  refine lv_iload_n hx hb dX10_copy_76 rfl (lv_at hl 2 rfl) ?_
                  refine lv_i2l (v := (Int32.toInt64 u1)) hx hb dX10_copy_77 rfl ?_
                  refine lv_iload hx hb dX10_copy_78 (lv_at hl 5 rfl) ?_
                  refine lv_i2l (v := (Int32.toInt64 u4)) hx hb dX10_copy_80 rfl ?_
                  refine lv_ladd hx hb dX10_copy_81 ?_
                  refine lv_aload_n hx hb dX10_copy_82 rfl (lv_at hl 0 rfl) ?_
                  refine va_get (D := D) (ci := 10) (v := .ref (q 18)) (C := RX10) (T := TX10) (N := 34) hx hb hts inX10 hown hK hP 0 rfl rfl 30 (by decide) lk62 (fun _ h9 => h9) rfl dX10_copy_83 ?_
                  refine lv_iload_n hx hb dX10_copy_86 rfl (lv_at hl 1 rfl) ?_
                  obtain ⟨hg18, hf⟩ := zz_gd hf
                  refine va_iald hx hb hK hP 18 17 rfl rfl hg18 dX10_copy_87 ?_
                  refine lv_i2l (v := (Int32.toInt64 ((zz_gA S 17) (Int32.toNatClampNeg u0)))) hx hb dX10_copy_88 rfl ?_
                  refine W.lcmp hx hb dX10_copy_89 ?_
                  refine lv_if_gt (tgt := 111) hx hb dX10_copy_90 (by decide) (fun c90 => ?_) (fun c90 => ?_)
                  · have hf := zz_ps hf c90
                    exact Kj111_14  _ _ hP hD hS ls (lv_sub hl [0] rfl) hf
                  · have hf := zz_ng hf c90
                    refine lv_iload hx hb dX10_copy_93 (lv_at hl 4 rfl) ?_
                    refine lv_i2l (v := (Int32.toInt64 u3)) hx hb dX10_copy_95 rfl ?_
                    refine lv_iload hx hb dX10_copy_96 (lv_at hl 5 rfl) ?_
                    refine lv_i2l (v := (Int32.toInt64 u4)) hx hb dX10_copy_98 rfl ?_
                    refine lv_ladd hx hb dX10_copy_99 ?_
                    refine lv_aload_n hx hb dX10_copy_100 rfl (lv_at hl 0 rfl) ?_
                    refine va_get (D := D) (ci := 10) (v := .ref (q 18)) (C := RX10) (T := TX10) (N := 34) hx hb hts inX10 hown hK hP 0 rfl rfl 30 (by decide) lk62 (fun _ h9 => h9) rfl dX10_copy_101 ?_
                    refine lv_iload_n hx hb dX10_copy_104 rfl (lv_at hl 3 rfl) ?_
                    obtain ⟨hg19, hf⟩ := zz_gd hf
                    refine va_iald hx hb hK hP 18 17 rfl rfl hg19 dX10_copy_105 ?_
                    refine lv_i2l (v := (Int32.toInt64 ((zz_gA S 17) (Int32.toNatClampNeg u2)))) hx hb dX10_copy_106 rfl ?_
                    refine W.lcmp hx hb dX10_copy_107 ?_
                    refine lv_if_le (tgt := 117) hx hb dX10_copy_108 (by decide) (fun c108 => ?_) (fun c108 => ?_)
                    · have hf := zz_ps hf c108
                      refine lv_iconst (v := (0 : Int32)) hx hb dX10_copy_117 (by decide) ?_
                      refine lv_istore (lv' := [(6, .int (0 : Int32)), (0, .ref (q 0)), (1, .int u0), (2, .int u1), (3, .int u2), (4, .int u3), (5, .int u4)]) hx hb dX10_copy_118 hl (by decide) rfl (fun ls hl => ?_)
                      have hLkL120_21 : ∀ (n120_21 : Nat) (x20 : Int32) (z21 : zz_M) (H : Heap) (locs : List Loc), va_P D vwCl (zw_10 q k z21) H → va_D A (zw_10 q k z21) → va_S A s.heap H locs → ∀ ls : Array Slot, lv_has ls 7 [(0, .ref (q 0)), (1, .int u0), (2, .int u1), (3, .int u2), (4, .int u3), (5, .int u4), (6, .int x20)] → pX10_copy_L120_21 u0 u1 u2 u3 u4 F n120_21 x20 z21 = some (r, o1) → W p l e rmX10_copy s m args below meth c H locs 0 0 Q (F0 m 120 ls []) := by
                        intro n120_21
                        induction n120_21 with
                        | zero =>
                          intro x20 z21 H locs hP hD hS ls hl hf
                          exact nomatch (show (none : Option _) = some _ from hf)
                        | succ n120_21 ihkL120_21 =>
                          intro x20 z21 H locs hP hD hS ls hl hf
                          rw [pX10_copy_L120_21] at hf
                          refine lv_iload hx hb dX10_copy_120 (lv_at hl 6 rfl) ?_
                          refine lv_iload hx hb dX10_copy_122 (lv_at hl 5 rfl) ?_
                          refine lv_icmp_ge (tgt := 154) hx hb dX10_copy_124 (by decide) (fun c124 => ?_) (fun c124 => ?_)
                          · have hf := zz_ps hf c124
                            refine lv_iconst (v := (0 : Int32)) hx hb dX10_copy_154 (by decide) ?_
                            refine lv_istore (lv' := [(6, .int (0 : Int32)), (0, .ref (q 0)), (1, .int u0), (2, .int u1), (3, .int u2), (4, .int u3), (5, .int u4)]) hx hb dX10_copy_155 hl (by decide) rfl (fun ls hl => ?_)
                            have hLkL157_24 : ∀ (n157_24 : Nat) (x23 : Int32) (z24 : zz_M) (H : Heap) (locs : List Loc), va_P D vwCl (zw_10 q k z24) H → va_D A (zw_10 q k z24) → va_S A s.heap H locs → ∀ ls : Array Slot, lv_has ls 7 [(0, .ref (q 0)), (3, .int u2), (4, .int u3), (5, .int u4), (6, .int x23)] → pX10_copy_L157_24 u2 u3 u4 n157_24 x23 z24 = some (r, o1) → W p l e rmX10_copy s m args below meth c H locs 0 0 Q (F0 m 157 ls []) := by
                              intro n157_24
                              induction n157_24 with
                              | zero =>
                                intro x23 z24 H locs hP hD hS ls hl hf
                                exact nomatch (show (none : Option _) = some _ from hf)
                              | succ n157_24 ihkL157_24 =>
                                intro x23 z24 H locs hP hD hS ls hl hf
                                rw [pX10_copy_L157_24] at hf
                                refine lv_iload hx hb dX10_copy_157 (lv_at hl 4 rfl) ?_
                                refine lv_iload hx hb dX10_copy_159 (lv_at hl 3 rfl) ?_
                                refine lv_icmp_ge (tgt := 192) hx hb dX10_copy_161 (by decide) (fun c161 => ?_) (fun c161 => ?_)
                                · have hf := zz_ps hf c161
                                  refine lv_iconst (v := (1 : Int32)) hx hb dX10_copy_192 (by decide) ?_
                                  obtain ⟨rfl, rfl⟩ := zz_e2 hf
                                  exact hret _ _ _ _ dX10_copy_193 hP hD hS
                                · have hf := zz_ng hf c161
                                  refine lv_aload_n hx hb dX10_copy_164 rfl (lv_at hl 0 rfl) ?_
                                  refine va_get (D := D) (ci := 10) (v := .ref (q 19)) (C := RX10) (T := TX10) (N := 34) hx hb hts inX10 hown hK hP 0 rfl rfl 31 (by decide) lk65 (fun _ h9 => h9) rfl dX10_copy_165 ?_
                                  refine lv_bipush (v := (60 : Int32)) hx hb dX10_copy_168 (by decide) ?_
                                  refine lv_iload_n hx hb dX10_copy_170 rfl (lv_at hl 1 rfl) ?_
                                  refine lv_imul hx hb dX10_copy_171 ?_
                                  refine lv_iload hx hb dX10_copy_172 (lv_at hl 2 rfl) ?_
                                  refine lv_iadd hx hb dX10_copy_174 ?_
                                  refine lv_iload hx hb dX10_copy_175 (lv_at hl 4 rfl) ?_
                                  refine lv_iadd hx hb dX10_copy_177 ?_
                                  refine lv_aload_n hx hb dX10_copy_178 rfl (lv_at hl 0 rfl) ?_
                                  refine va_get (D := D) (ci := 10) (v := .ref (q 20)) (C := RX10) (T := TX10) (N := 34) hx hb hts inX10 hown hK hP 0 rfl rfl 32 (by decide) lk68 (fun _ h9 => h9) rfl dX10_copy_179 ?_
                                  refine lv_iload hx hb dX10_copy_182 (lv_at hl 4 rfl) ?_
                                  obtain ⟨hg26, hf⟩ := zz_gd hf
                                  refine va_iald hx hb hK hP 20 19 rfl rfl hg26 dX10_copy_184 ?_
                                  obtain ⟨hg27, hf⟩ := zz_gd hf
                                  obtain ⟨S28, hS28, hf⟩ := zz_lts hf
                                  refine va_iast hx hb hK hP hD hS 19 18 rfl rfl hg27 dX10_copy_185 (fun H locs hP hD hS => ?_)
                                  have hP : va_P D vwCl (zw_10 q k S28) H := by rw [hS28]; exact hP
                                  have hD : va_D A (zw_10 q k S28) := by rw [hS28]; exact hD
                                  obtain ⟨v29, hv29, hf⟩ := zz_lts hf
                                  refine lv_iinc (v := v29) (lv' := [(6, .int v29), (0, .ref (q 0)), (3, .int u2), (4, .int u3), (5, .int u4)]) hx hb dX10_copy_186 hl (k := 4) rfl (by rw [hv29]; rfl) (by decide) rfl (fun ls hl => ?_)
                                  refine lv_goto (tgt := 157) hx hb dX10_copy_189 (by decide) ?_
                                  exact ihkL157_24 v29 S28 _ _ hP hD hS ls (lv_sub hl [1, 2, 3, 4, 0] rfl) hf
                            exact hLkL157_24 F (0 : Int32) z21 _ _ hP hD hS ls (lv_sub hl [1, 4, 5, 6, 0] rfl) hf
                          · have hf := zz_ng hf c124
                            refine lv_aload_n hx hb dX10_copy_127 rfl (lv_at hl 0 rfl) ?_
                            refine va_get (D := D) (ci := 10) (v := .ref (q 20)) (C := RX10) (T := TX10) (N := 34) hx hb hts inX10 hown hK hP 0 rfl rfl 32 (by decide) lk68 (fun _ h9 => h9) rfl dX10_copy_128 ?_
                            refine lv_iload hx hb dX10_copy_131 (lv_at hl 6 rfl) ?_
                            refine lv_aload_n hx hb dX10_copy_133 rfl (lv_at hl 0 rfl) ?_
                            refine va_get (D := D) (ci := 10) (v := .ref (q 19)) (C := RX10) (T := TX10) (N := 34) hx hb hts inX10 hown hK hP 0 rfl rfl 31 (by decide) lk65 (fun _ h9 => h9) rfl dX10_copy_134 ?_
                            refine lv_bipush (v := (60 : Int32)) hx hb dX10_copy_137 (by decide) ?_
                            refine lv_iload_n hx hb dX10_copy_139 rfl (lv_at hl 1 rfl) ?_
                            refine lv_imul hx hb dX10_copy_140 ?_
                            refine lv_iload_n hx hb dX10_copy_141 rfl (lv_at hl 2 rfl) ?_
                            refine lv_iadd hx hb dX10_copy_142 ?_
                            refine lv_iload hx hb dX10_copy_143 (lv_at hl 6 rfl) ?_
                            refine lv_iadd hx hb dX10_copy_145 ?_
                            obtain ⟨hg30, hf⟩ := zz_gd hf
                            refine va_iald hx hb hK hP 19 18 rfl rfl hg30 dX10_copy_146 ?_
                            obtain ⟨hg31, hf⟩ := zz_gd hf
                            obtain ⟨S32, hS32, hf⟩ := zz_lts hf
                            refine va_iast hx hb hK hP hD hS 20 19 rfl rfl hg31 dX10_copy_147 (fun H locs hP hD hS => ?_)
                            have hP : va_P D vwCl (zw_10 q k S32) H := by rw [hS32]; exact hP
                            have hD : va_D A (zw_10 q k S32) := by rw [hS32]; exact hD
                            obtain ⟨v33, hv33, hf⟩ := zz_lts hf
                            refine lv_iinc (v := v33) (lv' := [(6, .int v33), (0, .ref (q 0)), (1, .int u0), (2, .int u1), (3, .int u2), (4, .int u3), (5, .int u4)]) hx hb dX10_copy_148 hl (k := 6) rfl (by rw [hv33]; rfl) (by decide) rfl (fun ls hl => ?_)
                            refine lv_goto (tgt := 120) hx hb dX10_copy_151 (by decide) ?_
                            exact ihkL120_21 v33 S32 _ _ hP hD hS ls (lv_sub hl [1, 2, 3, 4, 5, 6, 0] rfl) hf
                      exact hLkL120_21 F (0 : Int32) S _ _ hP hD hS ls (lv_sub hl [1, 2, 3, 4, 5, 6, 0] rfl) hf
                    · have hf := zz_ng hf c108
                      exact Kj111_14  _ _ hP hD hS ls (lv_sub hl [0] rfl) hf
          · have hf := zz_ng hf c53
            refine lv_aload_n hx hb dX10_copy_56 rfl (lv_at hl 0 rfl) ?_
            refine lv_iconst (v := (4 : Int32)) hx hb dX10_copy_57 (by decide) ?_
            obtain ⟨r34, S35, hc36, hf⟩ := zz_b2s hf
            refine zz_ji0 (va_runV (As := [.int (4 : Int32)]) (rest := []) hfx (zc_X10_meets l D tb q k F (4 : Int32) S r34 S35 hc36 H.size) (cwV 1 hts gX10_copy_X10_meets rfl rfl rfl (by decide +kernel) ⟨Nat.le_of_ble_eq_true rfl, Nat.le_of_ble_eq_true rfl⟩) (zz_pre0V hK hP hD hS hA hE 0 rfl rfl rfl) rfl rfl hl.1 rfl (lv_room (Nat.le_of_ble_eq_true rfl)) dX10_copy_58 ⟨Nat.zero_le _, Nat.zero_le _⟩) hD hS hA (fun H locs hP hD hS => ?_)
            obtain ⟨rfl, rfl⟩ := zz_e2 hf
            exact hret _ _ _ _ dX10_copy_61 hP hD hS
        · have hf := zz_ps hf c32
          exact Kj35_7  _ _ hP hD hS ls (lv_sub hl [0] rfl) hf
    · have hf := zz_ps hf c11
      exact Kj14_3  _ _ hP hD hS ls (lv_sub hl [] rfl) hf
def rmX10_write : Room := { frames := 8, cells := 0, slots := 0, locals := 177 }
set_option maxHeartbeats 4000000 in
set_option maxRecDepth 100000 in
theorem zc_X10_write (l : Launch) (D : va_G) (tb : Nat → Nat) (q : Nat → Nat) (k : Nat → ClassId) (F : Nat) (u0 : Int32) (S : zz_M) (r : Int32) (o1 : zz_M) (hf : pX10_write F u0 S = some (r, o1)) : zz_Mi l yX10_write wsX10_write rmX10_write D tb [((k 1), .int), ((k 2), .int), ((k 3), .int), ((k 4), .int), ((k 5), .int), ((k 6), .int), ((k 7), .int), ((k 8), .boolean), ((k 9), .int), ((k 10), .int), ((k 11), .int), ((k 12), .int), ((k 13), .int), ((k 14), .int), ((k 15), .int), ((k 16), .boolean), ((k 17), .int), ((k 18), .int), ((k 19), .int), ((k 20), .int)] [.ref (q 0), .int u0] (zw_10 q k S) (zw_10 q k o1) r := by
  refine zz_ofi (cc := cX10_write) (maxL := 3) (by decide) rfl (Nat.le_of_ble_eq_true rfl) ?_
  intro p e s m args below meth c A Q hfx hK hA hE hret H locs hP hD hS ls hl
  obtain ⟨hx, hb, hml, hown, hts⟩ := id hfx
  have inX10 : ∀ w ∈ u_ws RX10 TX10 34, w ∈ wsX10_write := by decide +kernel
  have lk56 := hts (.fieldLink RX10 56 "CatBeatModel" "isThere" "[Z") (by decide +kernel)
  have lk62 := hts (.fieldLink RX10 62 "CatBeatModel" "sizes" "[I") (by decide +kernel)
  have hl : lv_has ls 3 [(0, .ref (q 0)), (1, .int u0)] := hl
  unfold pX10_write at hf
  refine lv_iload_n hx hb dX10_write_0 rfl (lv_at hl 1 rfl) ?_
  obtain ⟨r1, hc2, hf⟩ := zz_b1s hf
  refine zz_ji (va_runS (As := [.int u0]) (rest := []) hfx (zc_X10_isSheet l D tb  F u0  r1 hc2 H.size) (va_cwS 1 hts gX10_write_X10_isSheet rfl rfl rfl (by decide +kernel) ⟨Nat.le_of_ble_eq_true rfl, Nat.le_of_ble_eq_true rfl⟩) (zz_preS hK hP hD hS hA hE [] [] rfl (by decide) rfl) rfl rfl hl.1 rfl (lv_room (Nat.le_of_ble_eq_true rfl)) dX10_write_1 ⟨Nat.zero_le _, Nat.zero_le _⟩) hP hD hS hA [] rfl rfl (fun H locs hP hD hS => ?_)
  have hP : va_P D vwCl (zw_10 q k S) H := hP
  have hD : va_D A (zw_10 q k S) := hD
  refine lv_if_ne (tgt := 10) hx hb dX10_write_4 (by decide) (fun c4 => ?_) (fun c4 => ?_)
  · have hf := zz_ng hf c4
    refine lv_aload_n hx hb dX10_write_10 rfl (lv_at hl 0 rfl) ?_
    refine va_get (D := D) (ci := 10) (v := .ref (q 16)) (C := RX10) (T := TX10) (N := 34) hx hb hts inX10 hown hK hP 0 rfl rfl 28 (by decide) lk56 (fun _ h9 => h9) rfl dX10_write_11 ?_
    refine lv_iload_n hx hb dX10_write_14 rfl (lv_at hl 1 rfl) ?_
    obtain ⟨hg3, hf⟩ := zz_gd hf
    refine va_zald hx hb hK hP 16 15 rfl rfl hg3 dX10_write_15 ?_
    refine lv_if_ne (tgt := 25) hx hb dX10_write_16 (by decide) (fun c16 => ?_) (fun c16 => ?_)
    · have hf := zz_ng hf c16
      refine lv_iconst (v := (0 : Int32)) hx hb dX10_write_25 (by decide) ?_
      refine lv_istore_n (lv' := [(2, .int (0 : Int32)), (0, .ref (q 0)), (1, .int u0)]) hx hb dX10_write_26 rfl hl (by decide) rfl (fun ls hl => ?_)
      have hLkL27_5 : ∀ (n27_5 : Nat) (x4 : Int32) (z5 : zz_M) (H : Heap) (locs : List Loc), va_P D vwCl (zw_10 q k z5) H → va_D A (zw_10 q k z5) → va_S A s.heap H locs → ∀ ls : Array Slot, lv_has ls 3 [(0, .ref (q 0)), (1, .int u0), (2, .int x4)] → pX10_write_L27_5 u0 F n27_5 x4 z5 = some (r, o1) → W p l e rmX10_write s m args below meth c H locs 0 0 Q (F0 m 27 ls []) := by
        intro n27_5
        induction n27_5 with
        | zero =>
          intro x4 z5 H locs hP hD hS ls hl hf
          exact nomatch (show (none : Option _) = some _ from hf)
        | succ n27_5 ihkL27_5 =>
          intro x4 z5 H locs hP hD hS ls hl hf
          rw [pX10_write_L27_5] at hf
          refine lv_iload_n hx hb dX10_write_27 rfl (lv_at hl 2 rfl) ?_
          refine lv_aload_n hx hb dX10_write_28 rfl (lv_at hl 0 rfl) ?_
          refine va_get (D := D) (ci := 10) (v := .ref (q 18)) (C := RX10) (T := TX10) (N := 34) hx hb hts inX10 hown hK hP 0 rfl rfl 30 (by decide) lk62 (fun _ h9 => h9) rfl dX10_write_29 ?_
          refine lv_iload_n hx hb dX10_write_32 rfl (lv_at hl 1 rfl) ?_
          obtain ⟨hg7, hf⟩ := zz_gd hf
          refine va_iald hx hb hK hP 18 17 rfl rfl hg7 dX10_write_33 ?_
          refine lv_icmp_ge (tgt := 54) hx hb dX10_write_34 (by decide) (fun c34 => ?_) (fun c34 => ?_)
          · have hf := zz_ps hf c34
            refine lv_iload_n hx hb dX10_write_54 rfl (lv_at hl 2 rfl) ?_
            obtain ⟨rfl, rfl⟩ := zz_e2 hf
            exact hret _ _ _ _ dX10_write_55 hP hD hS
          · have hf := zz_ng hf c34
            refine lv_aload_n hx hb dX10_write_37 rfl (lv_at hl 0 rfl) ?_
            refine lv_iload_n hx hb dX10_write_38 rfl (lv_at hl 1 rfl) ?_
            refine lv_iload_n hx hb dX10_write_39 rfl (lv_at hl 2 rfl) ?_
            refine lv_aload_n hx hb dX10_write_40 rfl (lv_at hl 0 rfl) ?_
            refine lv_iload_n hx hb dX10_write_41 rfl (lv_at hl 2 rfl) ?_
            obtain ⟨r8, S9, hc10, hf⟩ := zz_b2s hf
            refine zz_ji0 (va_runV (As := [.int x4]) (rest := [.int x4, .int u0, .ref (q 0)]) hfx (zc_X10_atOf l D tb q k F x4 z5 r8 S9 hc10 H.size) (cwV 1 hts gX10_write_X10_atOf rfl rfl rfl (by decide +kernel) ⟨Nat.le_of_ble_eq_true rfl, Nat.le_of_ble_eq_true rfl⟩) (zz_pre0V hK hP hD hS hA hE 0 rfl rfl rfl) rfl rfl hl.1 rfl (lv_room (Nat.le_of_ble_eq_true rfl)) dX10_write_42 ⟨Nat.zero_le _, Nat.zero_le _⟩) hD hS hA (fun H locs hP hD hS => ?_)
            obtain ⟨S11, hc12, hf⟩ := zz_b1s hf
            refine zz_jv0 (va_runV (As := [.int u0, .int x4, .int r8]) (rest := []) hfx (zc_X10_keep l D tb q k F u0 x4 r8 S9 S11 hc12 H.size) (cwV 3 hts gX10_write_X10_keep rfl rfl rfl (by decide +kernel) ⟨Nat.le_of_ble_eq_true rfl, Nat.le_of_ble_eq_true rfl⟩) (zz_pre0V hK hP hD hS hA hE 0 rfl rfl rfl) rfl rfl hl.1 rfl (lv_room (Nat.le_of_ble_eq_true rfl)) dX10_write_45 ⟨Nat.zero_le _, Nat.zero_le _⟩) hD hS hA (fun H locs hP hD hS => ?_)
            obtain ⟨v13, hv13, hf⟩ := zz_lts hf
            refine lv_iinc (v := v13) (lv' := [(2, .int v13), (0, .ref (q 0)), (1, .int u0)]) hx hb dX10_write_48 hl (k := 2) rfl (by rw [hv13]; rfl) (by decide) rfl (fun ls hl => ?_)
            refine lv_goto (tgt := 27) hx hb dX10_write_51 (by decide) ?_
            exact ihkL27_5 v13 S11 _ _ hP hD hS ls (lv_sub hl [1, 2, 0] rfl) hf
      exact hLkL27_5 F (0 : Int32) S _ _ hP hD hS ls (lv_sub hl [1, 2, 0] rfl) hf
    · have hf := zz_ps hf c16
      refine lv_aload_n hx hb dX10_write_19 rfl (lv_at hl 0 rfl) ?_
      refine lv_iconst (v := (1 : Int32)) hx hb dX10_write_20 (by decide) ?_
      obtain ⟨r14, S15, hc16, hf⟩ := zz_b2s hf
      refine zz_ji0 (va_runV (As := [.int (1 : Int32)]) (rest := []) hfx (zc_X10_meets l D tb q k F (1 : Int32) S r14 S15 hc16 H.size) (cwV 1 hts gX10_write_X10_meets rfl rfl rfl (by decide +kernel) ⟨Nat.le_of_ble_eq_true rfl, Nat.le_of_ble_eq_true rfl⟩) (zz_pre0V hK hP hD hS hA hE 0 rfl rfl rfl) rfl rfl hl.1 rfl (lv_room (Nat.le_of_ble_eq_true rfl)) dX10_write_21 ⟨Nat.zero_le _, Nat.zero_le _⟩) hD hS hA (fun H locs hP hD hS => ?_)
      obtain ⟨rfl, rfl⟩ := zz_e2 hf
      exact hret _ _ _ _ dX10_write_24 hP hD hS
  · have hf := zz_ps hf c4
    refine lv_bipush (v := (-2 : Int32)) hx hb dX10_write_7 (by decide) ?_
    obtain ⟨rfl, rfl⟩ := zz_e2 hf
    exact hret _ _ _ _ dX10_write_9 hP hD hS
def rmX10_sumOf : Room := { frames := 5, cells := 0, slots := 0, locals := 115 }
set_option maxHeartbeats 4000000 in
set_option maxRecDepth 100000 in
theorem zc_X10_sumOf (l : Launch) (D : va_G) (tb : Nat → Nat) (q : Nat → Nat) (k : Nat → ClassId) (F : Nat) (u0 : Int32) (S : zz_M) (r : Int32) (o1 : zz_M) (hf : pX10_sumOf F u0 S = some (r, o1)) : zz_Mi l yX10_sumOf wsX10_sumOf rmX10_sumOf D tb [((k 1), .int), ((k 2), .int), ((k 3), .int), ((k 4), .int), ((k 5), .int), ((k 6), .int), ((k 7), .int), ((k 8), .boolean), ((k 9), .int), ((k 10), .int), ((k 11), .int), ((k 12), .int), ((k 13), .int), ((k 14), .int), ((k 15), .int), ((k 16), .boolean), ((k 17), .int), ((k 18), .int), ((k 19), .int), ((k 20), .int)] [.ref (q 0), .int u0] (zw_10 q k S) (zw_10 q k o1) r := by
  refine zz_ofi (cc := cX10_sumOf) (maxL := 4) (by decide) rfl (Nat.le_of_ble_eq_true rfl) ?_
  intro p e s m args below meth c A Q hfx hK hA hE hret H locs hP hD hS ls hl
  obtain ⟨hx, hb, hml, hown, hts⟩ := id hfx
  have inX10 : ∀ w ∈ u_ws RX10 TX10 34, w ∈ wsX10_sumOf := by decide +kernel
  have lk88 := hts (.fieldLink RX10 88 "CatBeatModel" "cells" "I") (by decide +kernel)
  have lk111 := hts (.fieldLink RX10 111 "CatBeatModel" "thieves" "I") (by decide +kernel)
  have lk101 := hts (.fieldLink RX10 101 "CatBeatModel" "steps" "I") (by decide +kernel)
  have lk16 := hts (.fieldLink RX10 16 "CatBeatModel" "kinds" "[I") (by decide +kernel)
  have hl : lv_has ls 4 [(0, .ref (q 0)), (1, .int u0)] := hl
  unfold pX10_sumOf at hf
  refine lv_aload_n hx hb dX10_sumOf_0 rfl (lv_at hl 0 rfl) ?_
  obtain ⟨S1, hc2, hf⟩ := zz_b1s hf
  refine zz_jv0 (va_runV (As := []) (rest := []) hfx (zc_X10_reads l D tb q k F  S S1 hc2 H.size) (cwV 0 hts gX10_sumOf_X10_reads rfl rfl rfl (by decide +kernel) ⟨Nat.le_of_ble_eq_true rfl, Nat.le_of_ble_eq_true rfl⟩) (zz_pre0V hK hP hD hS hA hE 0 rfl rfl rfl) rfl rfl hl.1 rfl (lv_room (Nat.le_of_ble_eq_true rfl)) dX10_sumOf_1 ⟨Nat.zero_le _, Nat.zero_le _⟩) hD hS hA (fun H locs hP hD hS => ?_)
  refine lv_iconst (v := (0 : Int32)) hx hb dX10_sumOf_4 (by decide) ?_
  refine lv_istore_n (lv' := [(2, .int (0 : Int32)), (0, .ref (q 0)), (1, .int u0)]) hx hb dX10_sumOf_5 rfl hl (by decide) rfl (fun ls hl => ?_)
  refine lv_iconst (v := (0 : Int32)) hx hb dX10_sumOf_6 (by decide) ?_
  refine lv_istore_n (lv' := [(3, .int (0 : Int32)), (2, .int (0 : Int32)), (0, .ref (q 0)), (1, .int u0)]) hx hb dX10_sumOf_7 rfl hl (by decide) rfl (fun ls hl => ?_)
  have hLkL8_4 : ∀ (n8_4 : Nat) (x3 : Int32) (x4 : Int32) (H : Heap) (locs : List Loc), va_P D vwCl (zw_10 q k S1) H → va_D A (zw_10 q k S1) → va_S A s.heap H locs → ∀ ls : Array Slot, lv_has ls 4 [(0, .ref (q 0)), (1, .int u0), (2, .int x3), (3, .int x4)] → pX10_sumOf_L8_4 u0 S1 n8_4 x3 x4 = some (r, o1) → W p l e rmX10_sumOf s m args below meth c H locs 0 0 Q (F0 m 8 ls []) := by
    intro n8_4
    induction n8_4 with
    | zero =>
      intro x3 x4 H locs hP hD hS ls hl hf
      exact nomatch (show (none : Option _) = some _ from hf)
    | succ n8_4 ihkL8_4 =>
      intro x3 x4 H locs hP hD hS ls hl hf
      rw [pX10_sumOf_L8_4] at hf
      refine lv_iload_n hx hb dX10_sumOf_8 rfl (lv_at hl 3 rfl) ?_
      refine lv_aload_n hx hb dX10_sumOf_9 rfl (lv_at hl 0 rfl) ?_
      refine va_get (D := D) (ci := 10) (v := .int (zz_gI S1 2)) (C := RX10) (T := TX10) (N := 34) hx hb hts inX10 hown hK hP 0 rfl rfl 4 (by decide) lk88 (fun _ h9 => h9) rfl dX10_sumOf_10 ?_
      refine lv_icmp_ge (tgt := 40) hx hb dX10_sumOf_13 (by decide) (fun c13 => ?_) (fun c13 => ?_)
      · have hf := zz_ps hf c13
        refine lv_iload_n hx hb dX10_sumOf_40 rfl (lv_at hl 1 rfl) ?_
        obtain ⟨v6, hv6, hf⟩ := zz_lts hf
        have hK7 : ∀ ls : Array Slot, lv_has ls 4 [] → W p l e rmX10_sumOf s m args below meth c H locs 0 0 Q (F0 m 76 ls [.int v6]) := by
          intro ls hl
          obtain ⟨rfl, rfl⟩ := zz_e2 hf
          exact hret _ _ _ _ dX10_sumOf_76 hP hD hS
        refine lv_if_ne (tgt := 51) hx hb dX10_sumOf_41 (by decide) (fun c41 => ?_) (fun c41 => ?_)
        · refine lv_iload_n hx hb dX10_sumOf_51 rfl (lv_at hl 1 rfl) ?_
          refine lv_iconst (v := (1 : Int32)) hx hb dX10_sumOf_52 (by decide) ?_
          refine lv_icmp_ne (tgt := 63) hx hb dX10_sumOf_53 (by decide) (fun c53 => ?_) (fun c53 => ?_)
          · refine lv_iload_n hx hb dX10_sumOf_63 rfl (lv_at hl 1 rfl) ?_
            refine lv_iconst (v := (2 : Int32)) hx hb dX10_sumOf_64 (by decide) ?_
            refine lv_icmp_ne (tgt := 75) hx hb dX10_sumOf_65 (by decide) (fun c65 => ?_) (fun c65 => ?_)
            · refine lv_iload_n hx hb dX10_sumOf_75 rfl (lv_at hl 2 rfl) ?_
              refine zz_ti (show v6 = x3 by rw [hv6, if_neg c41, if_neg c53, if_neg c65]) ?_
              exact hK7 ls (lv_sub hl [] rfl)
            · refine lv_aload_n hx hb dX10_sumOf_68 rfl (lv_at hl 0 rfl) ?_
              refine va_get (D := D) (ci := 10) (v := .int (zz_gI S1 4)) (C := RX10) (T := TX10) (N := 34) hx hb hts inX10 hown hK hP 0 rfl rfl 8 (by decide) lk111 (fun _ h9 => h9) rfl dX10_sumOf_69 ?_
              refine lv_goto (tgt := 76) hx hb dX10_sumOf_72 (by decide) ?_
              refine zz_ti (show v6 = (zz_gI S1 4) by rw [hv6, if_neg c41, if_neg c53, if_pos c65]) ?_
              exact hK7 ls (lv_sub hl [] rfl)
          · refine lv_aload_n hx hb dX10_sumOf_56 rfl (lv_at hl 0 rfl) ?_
            refine va_get (D := D) (ci := 10) (v := .int (zz_gI S1 3)) (C := RX10) (T := TX10) (N := 34) hx hb hts inX10 hown hK hP 0 rfl rfl 6 (by decide) lk101 (fun _ h9 => h9) rfl dX10_sumOf_57 ?_
            refine lv_goto (tgt := 76) hx hb dX10_sumOf_60 (by decide) ?_
            refine zz_ti (show v6 = (zz_gI S1 3) by rw [hv6, if_neg c41, if_pos c53]) ?_
            exact hK7 ls (lv_sub hl [] rfl)
        · refine lv_aload_n hx hb dX10_sumOf_44 rfl (lv_at hl 0 rfl) ?_
          refine va_get (D := D) (ci := 10) (v := .int (zz_gI S1 2)) (C := RX10) (T := TX10) (N := 34) hx hb hts inX10 hown hK hP 0 rfl rfl 4 (by decide) lk88 (fun _ h9 => h9) rfl dX10_sumOf_45 ?_
          refine lv_goto (tgt := 76) hx hb dX10_sumOf_48 (by decide) ?_
          refine zz_ti (show v6 = (zz_gI S1 2) by rw [hv6, if_pos c41]) ?_
          exact hK7 ls (lv_sub hl [] rfl)
      · have hf := zz_ng hf c13
        refine lv_iload_n hx hb dX10_sumOf_16 rfl (lv_at hl 2 rfl) ?_
        refine lv_aload_n hx hb dX10_sumOf_17 rfl (lv_at hl 0 rfl) ?_
        refine va_get (D := D) (ci := 10) (v := .ref (q 3)) (C := RX10) (T := TX10) (N := 34) hx hb hts inX10 hown hK hP 0 rfl rfl 5 (by decide) lk16 (fun _ h9 => h9) rfl dX10_sumOf_18 ?_
        refine lv_iload_n hx hb dX10_sumOf_21 rfl (lv_at hl 3 rfl) ?_
        obtain ⟨hg8, hf⟩ := zz_gd hf
        refine va_iald hx hb hK hP 3 2 rfl rfl hg8 dX10_sumOf_22 ?_
        refine lv_iconst (v := (2 : Int32)) hx hb dX10_sumOf_23 (by decide) ?_
        obtain ⟨v9, hv9, hf⟩ := zz_lts hf
        have hK10 : ∀ ls : Array Slot, lv_has ls 4 [(0, .ref (q 0)), (1, .int u0), (3, .int x4)] → W p l e rmX10_sumOf s m args below meth c H locs 0 0 Q (F0 m 32 ls [.int v9, .int x3]) := by
          intro ls hl
          refine lv_iadd hx hb dX10_sumOf_32 ?_
          obtain ⟨v11, hv11, hf⟩ := zz_lts hf
          refine zz_ti hv11 ?_
          refine lv_istore_n (lv' := [(2, .int v11), (0, .ref (q 0)), (1, .int u0), (3, .int x4)]) hx hb dX10_sumOf_33 rfl hl (by decide) rfl (fun ls hl => ?_)
          obtain ⟨v12, hv12, hf⟩ := zz_lts hf
          refine lv_iinc (v := v12) (lv' := [(3, .int v12), (2, .int v11), (0, .ref (q 0)), (1, .int u0)]) hx hb dX10_sumOf_34 hl (k := 3) rfl (by rw [hv12]; rfl) (by decide) rfl (fun ls hl => ?_)
          refine lv_goto (tgt := 8) hx hb dX10_sumOf_37 (by decide) ?_
          exact ihkL8_4 v11 v12 _ _ hP hD hS ls (lv_sub hl [2, 3, 1, 0] rfl) hf
        refine lv_icmp_ne (tgt := 31) hx hb dX10_sumOf_24 (by decide) (fun c24 => ?_) (fun c24 => ?_)
        · refine lv_iconst (v := (0 : Int32)) hx hb dX10_sumOf_31 (by decide) ?_
          refine zz_ti (show v9 = (0 : Int32) by rw [hv9, if_neg c24]) ?_
          exact hK10 ls (lv_sub hl [0, 1, 3] rfl)
        · refine lv_iconst (v := (1 : Int32)) hx hb dX10_sumOf_27 (by decide) ?_
          refine lv_goto (tgt := 32) hx hb dX10_sumOf_28 (by decide) ?_
          refine zz_ti (show v9 = (1 : Int32) by rw [hv9, if_pos c24]) ?_
          exact hK10 ls (lv_sub hl [0, 1, 3] rfl)
  exact hLkL8_4 F (0 : Int32) (0 : Int32) _ _ hP hD hS ls (lv_sub hl [2, 3, 1, 0] rfl) hf
def rmX10_count : Room := { frames := 6, cells := 0, slots := 0, locals := 138 }
set_option maxHeartbeats 4000000 in
set_option maxRecDepth 100000 in
theorem zc_X10_count (l : Launch) (D : va_G) (tb : Nat → Nat) (q : Nat → Nat) (k : Nat → ClassId) (F : Nat) (u0 : Int32) (S : zz_M) (r : Int32) (o1 : zz_M) (hf : pX10_count F u0 S = some (r, o1)) : zz_Mi l yX10_count wsX10_count rmX10_count D tb [((k 1), .int), ((k 2), .int), ((k 3), .int), ((k 4), .int), ((k 5), .int), ((k 6), .int), ((k 7), .int), ((k 8), .boolean), ((k 9), .int), ((k 10), .int), ((k 11), .int), ((k 12), .int), ((k 13), .int), ((k 14), .int), ((k 15), .int), ((k 16), .boolean), ((k 17), .int), ((k 18), .int), ((k 19), .int), ((k 20), .int)] [.ref (q 0), .int u0] (zw_10 q k S) (zw_10 q k o1) r := by
  refine zz_ofi (cc := cX10_count) (maxL := 2) (by decide) rfl (Nat.le_of_ble_eq_true rfl) ?_
  intro p e s m args below meth c A Q hfx hK hA hE hret H locs hP hD hS ls hl
  obtain ⟨hx, hb, hml, hown, hts⟩ := id hfx
  have inX10 : ∀ w ∈ u_ws RX10 TX10 34, w ∈ wsX10_count := by decide +kernel
  have lk7 := hts (.fieldLink RX10 7 "CatBeatModel" "typed" "[I") (by decide +kernel)
  have lk241 := hts (.fieldLink RX10 241 "CatBeatModel" "misses" "I") (by decide +kernel)
  have lk283 := hts (.fieldLink RX10 283 "CatBeatModel" "finding" "I") (by decide +kernel)
  have hl : lv_has ls 2 [(0, .ref (q 0)), (1, .int u0)] := hl
  unfold pX10_count at hf
  refine lv_iload_n hx hb dX10_count_0 rfl (lv_at hl 1 rfl) ?_
  by_cases cs1_0 : u0 = (0 : Int32)
  · have hf := zz_ps hf cs1_0
    refine zz_ti (y := (0 : Int32)) cs1_0.symm ?_
    refine lv_tableIn (off := 51) (tgt := 52) hx hb dX10_count_1 (by decide) (by decide) rfl (by decide) ?_
    refine lv_aload_n hx hb dX10_count_52 rfl (lv_at hl 0 rfl) ?_
    refine lv_iload_n hx hb dX10_count_53 rfl (lv_at hl 1 rfl) ?_
    obtain ⟨r1, S2, hc3, hf⟩ := zz_b2s hf
    refine zz_ji0 (va_runV (As := [.int u0]) (rest := []) hfx (zc_X10_sumOf l D tb q k F u0 S r1 S2 hc3 H.size) (cwV 1 hts gX10_count_X10_sumOf rfl rfl rfl (by decide +kernel) ⟨Nat.le_of_ble_eq_true rfl, Nat.le_of_ble_eq_true rfl⟩) (zz_pre0V hK hP hD hS hA hE 0 rfl rfl rfl) rfl rfl hl.1 rfl (lv_room (Nat.le_of_ble_eq_true rfl)) dX10_count_54 ⟨Nat.zero_le _, Nat.zero_le _⟩) hD hS hA (fun H locs hP hD hS => ?_)
    obtain ⟨rfl, rfl⟩ := zz_e2 hf
    exact hret _ _ _ _ dX10_count_57 hP hD hS
  have hf := zz_ng hf cs1_0
  by_cases cs1_1 : u0 = (1 : Int32)
  · have hf := zz_ps hf cs1_1
    refine zz_ti (y := (1 : Int32)) cs1_1.symm ?_
    refine lv_tableIn (off := 51) (tgt := 52) hx hb dX10_count_1 (by decide) (by decide) rfl (by decide) ?_
    refine lv_aload_n hx hb dX10_count_52 rfl (lv_at hl 0 rfl) ?_
    refine lv_iload_n hx hb dX10_count_53 rfl (lv_at hl 1 rfl) ?_
    obtain ⟨r4, S5, hc6, hf⟩ := zz_b2s hf
    refine zz_ji0 (va_runV (As := [.int u0]) (rest := []) hfx (zc_X10_sumOf l D tb q k F u0 S r4 S5 hc6 H.size) (cwV 1 hts gX10_count_X10_sumOf rfl rfl rfl (by decide +kernel) ⟨Nat.le_of_ble_eq_true rfl, Nat.le_of_ble_eq_true rfl⟩) (zz_pre0V hK hP hD hS hA hE 0 rfl rfl rfl) rfl rfl hl.1 rfl (lv_room (Nat.le_of_ble_eq_true rfl)) dX10_count_54 ⟨Nat.zero_le _, Nat.zero_le _⟩) hD hS hA (fun H locs hP hD hS => ?_)
    obtain ⟨rfl, rfl⟩ := zz_e2 hf
    exact hret _ _ _ _ dX10_count_57 hP hD hS
  have hf := zz_ng hf cs1_1
  by_cases cs1_2 : u0 = (2 : Int32)
  · have hf := zz_ps hf cs1_2
    refine zz_ti (y := (2 : Int32)) cs1_2.symm ?_
    refine lv_tableIn (off := 51) (tgt := 52) hx hb dX10_count_1 (by decide) (by decide) rfl (by decide) ?_
    refine lv_aload_n hx hb dX10_count_52 rfl (lv_at hl 0 rfl) ?_
    refine lv_iload_n hx hb dX10_count_53 rfl (lv_at hl 1 rfl) ?_
    obtain ⟨r7, S8, hc9, hf⟩ := zz_b2s hf
    refine zz_ji0 (va_runV (As := [.int u0]) (rest := []) hfx (zc_X10_sumOf l D tb q k F u0 S r7 S8 hc9 H.size) (cwV 1 hts gX10_count_X10_sumOf rfl rfl rfl (by decide +kernel) ⟨Nat.le_of_ble_eq_true rfl, Nat.le_of_ble_eq_true rfl⟩) (zz_pre0V hK hP hD hS hA hE 0 rfl rfl rfl) rfl rfl hl.1 rfl (lv_room (Nat.le_of_ble_eq_true rfl)) dX10_count_54 ⟨Nat.zero_le _, Nat.zero_le _⟩) hD hS hA (fun H locs hP hD hS => ?_)
    obtain ⟨rfl, rfl⟩ := zz_e2 hf
    exact hret _ _ _ _ dX10_count_57 hP hD hS
  have hf := zz_ng hf cs1_2
  by_cases cs1_3 : u0 = (3 : Int32)
  · have hf := zz_ps hf cs1_3
    refine zz_ti (y := (3 : Int32)) cs1_3.symm ?_
    refine lv_tableIn (off := 57) (tgt := 58) hx hb dX10_count_1 (by decide) (by decide) rfl (by decide) ?_
    refine lv_aload_n hx hb dX10_count_58 rfl (lv_at hl 0 rfl) ?_
    refine va_get (D := D) (ci := 10) (v := .ref (q 1)) (C := RX10) (T := TX10) (N := 34) hx hb hts inX10 hown hK hP 0 rfl rfl 0 (by decide) lk7 (fun _ h9 => h9) rfl dX10_count_59 ?_
    refine lv_iload_n hx hb dX10_count_62 rfl (lv_at hl 1 rfl) ?_
    refine lv_iconst (v := (3 : Int32)) hx hb dX10_count_63 (by decide) ?_
    refine lv_isub hx hb dX10_count_64 ?_
    obtain ⟨hg10, hf⟩ := zz_gd hf
    refine va_iald hx hb hK hP 1 0 rfl rfl hg10 dX10_count_65 ?_
    obtain ⟨rfl, rfl⟩ := zz_e2 hf
    exact hret _ _ _ _ dX10_count_66 hP hD hS
  have hf := zz_ng hf cs1_3
  by_cases cs1_4 : u0 = (4 : Int32)
  · have hf := zz_ps hf cs1_4
    refine zz_ti (y := (4 : Int32)) cs1_4.symm ?_
    refine lv_tableIn (off := 57) (tgt := 58) hx hb dX10_count_1 (by decide) (by decide) rfl (by decide) ?_
    refine lv_aload_n hx hb dX10_count_58 rfl (lv_at hl 0 rfl) ?_
    refine va_get (D := D) (ci := 10) (v := .ref (q 1)) (C := RX10) (T := TX10) (N := 34) hx hb hts inX10 hown hK hP 0 rfl rfl 0 (by decide) lk7 (fun _ h9 => h9) rfl dX10_count_59 ?_
    refine lv_iload_n hx hb dX10_count_62 rfl (lv_at hl 1 rfl) ?_
    refine lv_iconst (v := (3 : Int32)) hx hb dX10_count_63 (by decide) ?_
    refine lv_isub hx hb dX10_count_64 ?_
    obtain ⟨hg11, hf⟩ := zz_gd hf
    refine va_iald hx hb hK hP 1 0 rfl rfl hg11 dX10_count_65 ?_
    obtain ⟨rfl, rfl⟩ := zz_e2 hf
    exact hret _ _ _ _ dX10_count_66 hP hD hS
  have hf := zz_ng hf cs1_4
  by_cases cs1_5 : u0 = (5 : Int32)
  · have hf := zz_ps hf cs1_5
    refine zz_ti (y := (5 : Int32)) cs1_5.symm ?_
    refine lv_tableIn (off := 57) (tgt := 58) hx hb dX10_count_1 (by decide) (by decide) rfl (by decide) ?_
    refine lv_aload_n hx hb dX10_count_58 rfl (lv_at hl 0 rfl) ?_
    refine va_get (D := D) (ci := 10) (v := .ref (q 1)) (C := RX10) (T := TX10) (N := 34) hx hb hts inX10 hown hK hP 0 rfl rfl 0 (by decide) lk7 (fun _ h9 => h9) rfl dX10_count_59 ?_
    refine lv_iload_n hx hb dX10_count_62 rfl (lv_at hl 1 rfl) ?_
    refine lv_iconst (v := (3 : Int32)) hx hb dX10_count_63 (by decide) ?_
    refine lv_isub hx hb dX10_count_64 ?_
    obtain ⟨hg12, hf⟩ := zz_gd hf
    refine va_iald hx hb hK hP 1 0 rfl rfl hg12 dX10_count_65 ?_
    obtain ⟨rfl, rfl⟩ := zz_e2 hf
    exact hret _ _ _ _ dX10_count_66 hP hD hS
  have hf := zz_ng hf cs1_5
  by_cases cs1_6 : u0 = (6 : Int32)
  · have hf := zz_ps hf cs1_6
    refine zz_ti (y := (6 : Int32)) cs1_6.symm ?_
    refine lv_tableIn (off := 51) (tgt := 52) hx hb dX10_count_1 (by decide) (by decide) rfl (by decide) ?_
    refine lv_aload_n hx hb dX10_count_52 rfl (lv_at hl 0 rfl) ?_
    refine lv_iload_n hx hb dX10_count_53 rfl (lv_at hl 1 rfl) ?_
    obtain ⟨r13, S14, hc15, hf⟩ := zz_b2s hf
    refine zz_ji0 (va_runV (As := [.int u0]) (rest := []) hfx (zc_X10_sumOf l D tb q k F u0 S r13 S14 hc15 H.size) (cwV 1 hts gX10_count_X10_sumOf rfl rfl rfl (by decide +kernel) ⟨Nat.le_of_ble_eq_true rfl, Nat.le_of_ble_eq_true rfl⟩) (zz_pre0V hK hP hD hS hA hE 0 rfl rfl rfl) rfl rfl hl.1 rfl (lv_room (Nat.le_of_ble_eq_true rfl)) dX10_count_54 ⟨Nat.zero_le _, Nat.zero_le _⟩) hD hS hA (fun H locs hP hD hS => ?_)
    obtain ⟨rfl, rfl⟩ := zz_e2 hf
    exact hret _ _ _ _ dX10_count_57 hP hD hS
  have hf := zz_ng hf cs1_6
  by_cases cs1_7 : u0 = (7 : Int32)
  · have hf := zz_ps hf cs1_7
    refine zz_ti (y := (7 : Int32)) cs1_7.symm ?_
    refine lv_tableIn (off := 66) (tgt := 67) hx hb dX10_count_1 (by decide) (by decide) rfl (by decide) ?_
    refine lv_aload_n hx hb dX10_count_67 rfl (lv_at hl 0 rfl) ?_
    refine va_get (D := D) (ci := 10) (v := .int (zz_gI S 12)) (C := RX10) (T := TX10) (N := 34) hx hb hts inX10 hown hK hP 0 rfl rfl 24 (by decide) lk241 (fun _ h9 => h9) rfl dX10_count_68 ?_
    obtain ⟨rfl, rfl⟩ := zz_e2 hf
    exact hret _ _ _ _ dX10_count_71 hP hD hS
  have hf := zz_ng hf cs1_7
  by_cases cs1_8 : u0 = (8 : Int32)
  · have hf := zz_ps hf cs1_8
    refine zz_ti (y := (8 : Int32)) cs1_8.symm ?_
    refine lv_tableIn (off := 71) (tgt := 72) hx hb dX10_count_1 (by decide) (by decide) rfl (by decide) ?_
    refine lv_aload_n hx hb dX10_count_72 rfl (lv_at hl 0 rfl) ?_
    refine va_get (D := D) (ci := 10) (v := .int (zz_gI S 13)) (C := RX10) (T := TX10) (N := 34) hx hb hts inX10 hown hK hP 0 rfl rfl 33 (by decide) lk283 (fun _ h9 => h9) rfl dX10_count_73 ?_
    obtain ⟨rfl, rfl⟩ := zz_e2 hf
    exact hret _ _ _ _ dX10_count_76 hP hD hS
  have hf := zz_ng hf cs1_8
  obtain ⟨cd1, hf⟩ := zz_gd hf
  refine lv_tableOut (tgt := 77) hx hb dX10_count_1 cd1 (by decide) ?_
  refine lv_bipush (v := (-2 : Int32)) hx hb dX10_count_77 (by decide) ?_
  obtain ⟨rfl, rfl⟩ := zz_e2 hf
  exact hret _ _ _ _ dX10_count_79 hP hD hS
def rmX10_thiefDigest : Room := { frames := 8, cells := 0, slots := 0, locals := 183 }
set_option maxHeartbeats 4000000 in
set_option maxRecDepth 100000 in
theorem zc_X10_thiefDigest (l : Launch) (D : va_G) (tb : Nat → Nat) (q : Nat → Nat) (k : Nat → ClassId) (F : Nat) (u0 : Int64) (u1 : Int32) (S : zz_M) (r : Int64) (o1 : zz_M) (hf : pX10_thiefDigest F u0 u1 S = some (r, o1)) : zz_Ml l yX10_thiefDigest wsX10_thiefDigest rmX10_thiefDigest D tb [((k 1), .int), ((k 2), .int), ((k 3), .int), ((k 4), .int), ((k 5), .int), ((k 6), .int), ((k 7), .int), ((k 8), .boolean), ((k 9), .int), ((k 10), .int), ((k 11), .int), ((k 12), .int), ((k 13), .int), ((k 14), .int), ((k 15), .int), ((k 16), .boolean), ((k 17), .int), ((k 18), .int), ((k 19), .int), ((k 20), .int)] [.ref (q 0), .long u0, .int u1] (zw_10 q k S) (zw_10 q k o1) r := by
  refine zz_ofl (cc := cX10_thiefDigest) (maxL := 6) (by decide) rfl (Nat.le_of_ble_eq_true rfl) ?_
  intro p e s m args below meth c A Q hfx hK hA hE hret H locs hP hD hS ls hl
  obtain ⟨hx, hb, hml, hown, hts⟩ := id hfx
  have inX10 : ∀ w ∈ u_ws RX10 TX10 34, w ∈ wsX10_thiefDigest := by decide +kernel
  have lk22 := hts (.fieldLink RX10 22 "CatBeatModel" "wants" "[I") (by decide +kernel)
  have lk25 := hts (.fieldLink RX10 25 "CatBeatModel" "needs" "[I") (by decide +kernel)
  have kc297 := hts (.constantLong RX10 297 (31)) (by decide +kernel)
  have hl : lv_has ls 6 [(0, .ref (q 0)), (1, .long u0), (3, .int u1)] := hl
  unfold pX10_thiefDigest at hf
  refine lv_ldc2 (v := (31 : Int64)) hx hb hown kc297 dX10_thiefDigest_0 ?_
  refine lv_lload_n hx hb dX10_thiefDigest_3 rfl (lv_at hl 1 rfl) ?_
  refine lv_lmul hx hb dX10_thiefDigest_4 ?_
  refine lv_aload_n hx hb dX10_thiefDigest_5 rfl (lv_at hl 0 rfl) ?_
  refine va_get (D := D) (ci := 10) (v := .ref (q 5)) (C := RX10) (T := TX10) (N := 34) hx hb hts inX10 hown hK hP 0 rfl rfl 9 (by decide) lk22 (fun _ h9 => h9) rfl dX10_thiefDigest_6 ?_
  refine lv_iload_n hx hb dX10_thiefDigest_9 rfl (lv_at hl 2 rfl) ?_
  obtain ⟨hg1, hf⟩ := zz_gd hf
  refine va_iald hx hb hK hP 5 4 rfl rfl hg1 dX10_thiefDigest_10 ?_
  refine lv_i2l (v := (Int32.toInt64 ((zz_gA S 4) (Int32.toNatClampNeg u1)))) hx hb dX10_thiefDigest_11 rfl ?_
  refine lv_ladd hx hb dX10_thiefDigest_12 ?_
  obtain ⟨v2, hv2, hf⟩ := zz_lts hf
  refine zz_tl hv2 ?_
  refine lv_lstore (lv' := [(4, .long v2), (0, .ref (q 0)), (1, .long u0), (3, .int u1)]) hx hb dX10_thiefDigest_13 hl (by decide) rfl (fun ls hl => ?_)
  refine lv_ldc2 (v := (31 : Int64)) hx hb hown kc297 dX10_thiefDigest_15 ?_
  refine lv_lload hx hb dX10_thiefDigest_18 (lv_at hl 0 rfl) ?_
  refine lv_lmul hx hb dX10_thiefDigest_20 ?_
  refine lv_aload_n hx hb dX10_thiefDigest_21 rfl (lv_at hl 1 rfl) ?_
  refine va_get (D := D) (ci := 10) (v := .ref (q 6)) (C := RX10) (T := TX10) (N := 34) hx hb hts inX10 hown hK hP 0 rfl rfl 10 (by decide) lk25 (fun _ h9 => h9) rfl dX10_thiefDigest_22 ?_
  refine lv_iload_n hx hb dX10_thiefDigest_25 rfl (lv_at hl 3 rfl) ?_
  obtain ⟨hg3, hf⟩ := zz_gd hf
  refine va_iald hx hb hK hP 6 5 rfl rfl hg3 dX10_thiefDigest_26 ?_
  refine lv_i2l (v := (Int32.toInt64 ((zz_gA S 5) (Int32.toNatClampNeg u1)))) hx hb dX10_thiefDigest_27 rfl ?_
  refine lv_ladd hx hb dX10_thiefDigest_28 ?_
  obtain ⟨v4, hv4, hf⟩ := zz_lts hf
  refine zz_tl hv4 ?_
  refine lv_lstore (lv' := [(4, .long v4), (0, .ref (q 0)), (1, .long u0), (3, .int u1)]) hx hb dX10_thiefDigest_29 hl (by decide) rfl (fun ls hl => ?_)
  refine lv_ldc2 (v := (31 : Int64)) hx hb hown kc297 dX10_thiefDigest_31 ?_
  refine lv_lload hx hb dX10_thiefDigest_34 (lv_at hl 0 rfl) ?_
  refine lv_lmul hx hb dX10_thiefDigest_36 ?_
  refine lv_aload_n hx hb dX10_thiefDigest_37 rfl (lv_at hl 1 rfl) ?_
  refine lv_iload_n hx hb dX10_thiefDigest_38 rfl (lv_at hl 3 rfl) ?_
  obtain ⟨r5, S6, hc7, hf⟩ := zz_b2s hf
  refine zz_ji0 (va_runV (As := [.int u1]) (rest := [.long ((31 : Int64) * v4)]) hfx (zc_X10_takesOf l D tb q k F u1 S r5 S6 hc7 H.size) (cwV 1 hts gX10_thiefDigest_X10_takesOf rfl rfl rfl (by decide +kernel) ⟨Nat.le_of_ble_eq_true rfl, Nat.le_of_ble_eq_true rfl⟩) (zz_pre0V hK hP hD hS hA hE 0 rfl rfl rfl) rfl rfl hl.1 rfl (lv_room (Nat.le_of_ble_eq_true rfl)) dX10_thiefDigest_39 ⟨Nat.zero_le _, Nat.zero_le _⟩) hD hS hA (fun H locs hP hD hS => ?_)
  refine lv_i2l (v := (Int32.toInt64 r5)) hx hb dX10_thiefDigest_42 rfl ?_
  refine lv_ladd hx hb dX10_thiefDigest_43 ?_
  obtain ⟨v8, hv8, hf⟩ := zz_lts hf
  refine zz_tl hv8 ?_
  refine lv_lstore (lv' := [(4, .long v8), (0, .ref (q 0)), (1, .long u0), (3, .int u1)]) hx hb dX10_thiefDigest_44 hl (by decide) rfl (fun ls hl => ?_)
  refine lv_ldc2 (v := (31 : Int64)) hx hb hown kc297 dX10_thiefDigest_46 ?_
  refine lv_lload hx hb dX10_thiefDigest_49 (lv_at hl 0 rfl) ?_
  refine lv_lmul hx hb dX10_thiefDigest_51 ?_
  refine lv_aload_n hx hb dX10_thiefDigest_52 rfl (lv_at hl 1 rfl) ?_
  refine lv_iload_n hx hb dX10_thiefDigest_53 rfl (lv_at hl 3 rfl) ?_
  refine lv_iconst (v := (-1 : Int32)) hx hb dX10_thiefDigest_54 (by decide) ?_
  obtain ⟨r9, S10, hc11, hf⟩ := zz_b2s hf
  refine zz_ji0 (va_runV (As := [.int u1, .int (-1 : Int32)]) (rest := [.long ((31 : Int64) * v8)]) hfx (zc_X10_meantOf l D tb q k F u1 (-1 : Int32) S6 r9 S10 hc11 H.size) (cwV 2 hts gX10_thiefDigest_X10_meantOf rfl rfl rfl (by decide +kernel) ⟨Nat.le_of_ble_eq_true rfl, Nat.le_of_ble_eq_true rfl⟩) (zz_pre0V hK hP hD hS hA hE 0 rfl rfl rfl) rfl rfl hl.1 rfl (lv_room (Nat.le_of_ble_eq_true rfl)) dX10_thiefDigest_55 ⟨Nat.zero_le _, Nat.zero_le _⟩) hD hS hA (fun H locs hP hD hS => ?_)
  refine lv_i2l (v := (Int32.toInt64 r9)) hx hb dX10_thiefDigest_58 rfl ?_
  refine lv_ladd hx hb dX10_thiefDigest_59 ?_
  obtain ⟨v12, hv12, hf⟩ := zz_lts hf
  refine zz_tl hv12 ?_
  refine lv_lstore (lv' := [(4, .long v12), (0, .ref (q 0)), (1, .long u0), (3, .int u1)]) hx hb dX10_thiefDigest_60 hl (by decide) rfl (fun ls hl => ?_)
  refine lv_ldc2 (v := (31 : Int64)) hx hb hown kc297 dX10_thiefDigest_62 ?_
  refine lv_lload hx hb dX10_thiefDigest_65 (lv_at hl 0 rfl) ?_
  refine lv_lmul hx hb dX10_thiefDigest_67 ?_
  refine lv_aload_n hx hb dX10_thiefDigest_68 rfl (lv_at hl 1 rfl) ?_
  refine lv_iload_n hx hb dX10_thiefDigest_69 rfl (lv_at hl 3 rfl) ?_
  refine lv_iconst (v := (0 : Int32)) hx hb dX10_thiefDigest_70 (by decide) ?_
  obtain ⟨r13, S14, hc15, hf⟩ := zz_b2s hf
  refine zz_ji0 (va_runV (As := [.int u1, .int (0 : Int32)]) (rest := [.long ((31 : Int64) * v12)]) hfx (zc_X10_meantOf l D tb q k F u1 (0 : Int32) S10 r13 S14 hc15 H.size) (cwV 2 hts gX10_thiefDigest_X10_meantOf rfl rfl rfl (by decide +kernel) ⟨Nat.le_of_ble_eq_true rfl, Nat.le_of_ble_eq_true rfl⟩) (zz_pre0V hK hP hD hS hA hE 0 rfl rfl rfl) rfl rfl hl.1 rfl (lv_room (Nat.le_of_ble_eq_true rfl)) dX10_thiefDigest_71 ⟨Nat.zero_le _, Nat.zero_le _⟩) hD hS hA (fun H locs hP hD hS => ?_)
  refine lv_i2l (v := (Int32.toInt64 r13)) hx hb dX10_thiefDigest_74 rfl ?_
  refine lv_ladd hx hb dX10_thiefDigest_75 ?_
  obtain ⟨v16, hv16, hf⟩ := zz_lts hf
  refine zz_tl hv16 ?_
  refine lv_lstore (lv' := [(4, .long v16), (0, .ref (q 0)), (1, .long u0), (3, .int u1)]) hx hb dX10_thiefDigest_76 hl (by decide) rfl (fun ls hl => ?_)
  refine lv_ldc2 (v := (31 : Int64)) hx hb hown kc297 dX10_thiefDigest_78 ?_
  refine lv_lload hx hb dX10_thiefDigest_81 (lv_at hl 0 rfl) ?_
  refine lv_lmul hx hb dX10_thiefDigest_83 ?_
  refine lv_aload_n hx hb dX10_thiefDigest_84 rfl (lv_at hl 1 rfl) ?_
  refine lv_iconst (v := (5 : Int32)) hx hb dX10_thiefDigest_85 (by decide) ?_
  refine lv_iconst (v := (5 : Int32)) hx hb dX10_thiefDigest_86 (by decide) ?_
  refine lv_iload_n hx hb dX10_thiefDigest_87 rfl (lv_at hl 3 rfl) ?_
  refine lv_iconst (v := (0 : Int32)) hx hb dX10_thiefDigest_88 (by decide) ?_
  obtain ⟨r17, S18, hc19, hf⟩ := zz_b2s hf
  refine zz_jl0 (va_runV (As := [.int (5 : Int32), .int (5 : Int32), .int u1, .int (0 : Int32)]) (rest := [.long ((31 : Int64) * v16)]) hfx (zc_X10_foggedOf l D tb q k F (5 : Int32) (5 : Int32) u1 (0 : Int32) S14 r17 S18 hc19 H.size) (cwV 4 hts gX10_thiefDigest_X10_foggedOf rfl rfl rfl (by decide +kernel) ⟨Nat.le_of_ble_eq_true rfl, Nat.le_of_ble_eq_true rfl⟩) (zz_pre0V hK hP hD hS hA hE 0 rfl rfl rfl) rfl rfl hl.1 rfl (lv_room (Nat.le_of_ble_eq_true rfl)) dX10_thiefDigest_89 ⟨Nat.zero_le _, Nat.zero_le _⟩) hD hS hA (fun H locs hP hD hS => ?_)
  refine lv_ladd hx hb dX10_thiefDigest_92 ?_
  obtain ⟨v20, hv20, hf⟩ := zz_lts hf
  refine zz_tl hv20 ?_
  refine lv_lstore (lv' := [(4, .long v20), (0, .ref (q 0)), (1, .long u0), (3, .int u1)]) hx hb dX10_thiefDigest_93 hl (by decide) rfl (fun ls hl => ?_)
  refine lv_ldc2 (v := (31 : Int64)) hx hb hown kc297 dX10_thiefDigest_95 ?_
  refine lv_lload hx hb dX10_thiefDigest_98 (lv_at hl 0 rfl) ?_
  refine lv_lmul hx hb dX10_thiefDigest_100 ?_
  refine lv_aload_n hx hb dX10_thiefDigest_101 rfl (lv_at hl 1 rfl) ?_
  refine lv_iconst (v := (5 : Int32)) hx hb dX10_thiefDigest_102 (by decide) ?_
  refine lv_iconst (v := (5 : Int32)) hx hb dX10_thiefDigest_103 (by decide) ?_
  refine lv_iload_n hx hb dX10_thiefDigest_104 rfl (lv_at hl 3 rfl) ?_
  refine lv_iconst (v := (1 : Int32)) hx hb dX10_thiefDigest_105 (by decide) ?_
  obtain ⟨r21, S22, hc23, hf⟩ := zz_b2s hf
  refine zz_jl0 (va_runV (As := [.int (5 : Int32), .int (5 : Int32), .int u1, .int (1 : Int32)]) (rest := [.long ((31 : Int64) * v20)]) hfx (zc_X10_foggedOf l D tb q k F (5 : Int32) (5 : Int32) u1 (1 : Int32) S18 r21 S22 hc23 H.size) (cwV 4 hts gX10_thiefDigest_X10_foggedOf rfl rfl rfl (by decide +kernel) ⟨Nat.le_of_ble_eq_true rfl, Nat.le_of_ble_eq_true rfl⟩) (zz_pre0V hK hP hD hS hA hE 0 rfl rfl rfl) rfl rfl hl.1 rfl (lv_room (Nat.le_of_ble_eq_true rfl)) dX10_thiefDigest_106 ⟨Nat.zero_le _, Nat.zero_le _⟩) hD hS hA (fun H locs hP hD hS => ?_)
  refine lv_ladd hx hb dX10_thiefDigest_109 ?_
  obtain ⟨rfl, rfl⟩ := zz_e2 hf
  exact hret _ _ _ _ dX10_thiefDigest_110 hP hD hS
def rmX10_numberDigest : Room := { frames := 8, cells := 0, slots := 0, locals := 178 }
set_option maxHeartbeats 4000000 in
set_option maxRecDepth 100000 in
theorem zc_X10_numberDigest (l : Launch) (D : va_G) (tb : Nat → Nat) (q : Nat → Nat) (k : Nat → ClassId) (F : Nat) (u0 : Int64) (u1 : Int32) (S : zz_M) (r : Int64) (o1 : zz_M) (hf : pX10_numberDigest F u0 u1 S = some (r, o1)) : zz_Ml l yX10_numberDigest wsX10_numberDigest rmX10_numberDigest D tb [((k 1), .int), ((k 2), .int), ((k 3), .int), ((k 4), .int), ((k 5), .int), ((k 6), .int), ((k 7), .int), ((k 8), .boolean), ((k 9), .int), ((k 10), .int), ((k 11), .int), ((k 12), .int), ((k 13), .int), ((k 14), .int), ((k 15), .int), ((k 16), .boolean), ((k 17), .int), ((k 18), .int), ((k 19), .int), ((k 20), .int)] [.ref (q 0), .long u0, .int u1] (zw_10 q k S) (zw_10 q k o1) r := by
  refine zz_ofl (cc := cX10_numberDigest) (maxL := 6) (by decide) rfl (Nat.le_of_ble_eq_true rfl) ?_
  intro p e s m args below meth c A Q hfx hK hA hE hret H locs hP hD hS ls hl
  obtain ⟨hx, hb, hml, hown, hts⟩ := id hfx
  have kc297 := hts (.constantLong RX10 297 (31)) (by decide +kernel)
  have hl : lv_has ls 6 [(0, .ref (q 0)), (1, .long u0), (3, .int u1)] := hl
  unfold pX10_numberDigest at hf
  refine lv_ldc2 (v := (31 : Int64)) hx hb hown kc297 dX10_numberDigest_0 ?_
  refine lv_lload_n hx hb dX10_numberDigest_3 rfl (lv_at hl 1 rfl) ?_
  refine lv_lmul hx hb dX10_numberDigest_4 ?_
  refine lv_aload_n hx hb dX10_numberDigest_5 rfl (lv_at hl 0 rfl) ?_
  refine lv_iload_n hx hb dX10_numberDigest_6 rfl (lv_at hl 2 rfl) ?_
  obtain ⟨r1, S2, hc3, hf⟩ := zz_b2s hf
  refine zz_ji0 (va_runV (As := [.int u1]) (rest := [.long ((31 : Int64) * u0)]) hfx (zc_X10_atOf l D tb q k F u1 S r1 S2 hc3 H.size) (cwV 1 hts gX10_numberDigest_X10_atOf rfl rfl rfl (by decide +kernel) ⟨Nat.le_of_ble_eq_true rfl, Nat.le_of_ble_eq_true rfl⟩) (zz_pre0V hK hP hD hS hA hE 0 rfl rfl rfl) rfl rfl hl.1 rfl (lv_room (Nat.le_of_ble_eq_true rfl)) dX10_numberDigest_7 ⟨Nat.zero_le _, Nat.zero_le _⟩) hD hS hA (fun H locs hP hD hS => ?_)
  refine lv_i2l (v := (Int32.toInt64 r1)) hx hb dX10_numberDigest_10 rfl ?_
  refine lv_ladd hx hb dX10_numberDigest_11 ?_
  obtain ⟨v4, hv4, hf⟩ := zz_lts hf
  refine zz_tl hv4 ?_
  refine lv_lstore (lv' := [(4, .long v4), (0, .ref (q 0)), (1, .long u0), (3, .int u1)]) hx hb dX10_numberDigest_12 hl (by decide) rfl (fun ls hl => ?_)
  refine lv_ldc2 (v := (31 : Int64)) hx hb hown kc297 dX10_numberDigest_14 ?_
  refine lv_lload hx hb dX10_numberDigest_17 (lv_at hl 0 rfl) ?_
  refine lv_lmul hx hb dX10_numberDigest_19 ?_
  refine lv_aload_n hx hb dX10_numberDigest_20 rfl (lv_at hl 1 rfl) ?_
  refine lv_iload_n hx hb dX10_numberDigest_21 rfl (lv_at hl 3 rfl) ?_
  refine lv_iconst (v := (0 : Int32)) hx hb dX10_numberDigest_22 (by decide) ?_
  obtain ⟨r5, S6, hc7, hf⟩ := zz_b2s hf
  refine zz_ji0 (va_runV (As := [.int u1, .int (0 : Int32)]) (rest := [.long ((31 : Int64) * v4)]) hfx (zc_X10_seesOf l D tb q k F u1 (0 : Int32) S2 r5 S6 hc7 H.size) (cwV 2 hts gX10_numberDigest_X10_seesOf rfl rfl rfl (by decide +kernel) ⟨Nat.le_of_ble_eq_true rfl, Nat.le_of_ble_eq_true rfl⟩) (zz_pre0V hK hP hD hS hA hE 0 rfl rfl rfl) rfl rfl hl.1 rfl (lv_room (Nat.le_of_ble_eq_true rfl)) dX10_numberDigest_23 ⟨Nat.zero_le _, Nat.zero_le _⟩) hD hS hA (fun H locs hP hD hS => ?_)
  refine lv_i2l (v := (Int32.toInt64 r5)) hx hb dX10_numberDigest_26 rfl ?_
  refine lv_ladd hx hb dX10_numberDigest_27 ?_
  obtain ⟨v8, hv8, hf⟩ := zz_lts hf
  refine zz_tl hv8 ?_
  refine lv_lstore (lv' := [(4, .long v8), (0, .ref (q 0)), (1, .long u0), (3, .int u1)]) hx hb dX10_numberDigest_28 hl (by decide) rfl (fun ls hl => ?_)
  refine lv_ldc2 (v := (31 : Int64)) hx hb hown kc297 dX10_numberDigest_30 ?_
  refine lv_lload hx hb dX10_numberDigest_33 (lv_at hl 0 rfl) ?_
  refine lv_lmul hx hb dX10_numberDigest_35 ?_
  refine lv_aload_n hx hb dX10_numberDigest_36 rfl (lv_at hl 1 rfl) ?_
  refine lv_iload_n hx hb dX10_numberDigest_37 rfl (lv_at hl 3 rfl) ?_
  refine lv_iconst (v := (1 : Int32)) hx hb dX10_numberDigest_38 (by decide) ?_
  obtain ⟨r9, S10, hc11, hf⟩ := zz_b2s hf
  refine zz_ji0 (va_runV (As := [.int u1, .int (1 : Int32)]) (rest := [.long ((31 : Int64) * v8)]) hfx (zc_X10_seesOf l D tb q k F u1 (1 : Int32) S6 r9 S10 hc11 H.size) (cwV 2 hts gX10_numberDigest_X10_seesOf rfl rfl rfl (by decide +kernel) ⟨Nat.le_of_ble_eq_true rfl, Nat.le_of_ble_eq_true rfl⟩) (zz_pre0V hK hP hD hS hA hE 0 rfl rfl rfl) rfl rfl hl.1 rfl (lv_room (Nat.le_of_ble_eq_true rfl)) dX10_numberDigest_39 ⟨Nat.zero_le _, Nat.zero_le _⟩) hD hS hA (fun H locs hP hD hS => ?_)
  refine lv_i2l (v := (Int32.toInt64 r9)) hx hb dX10_numberDigest_42 rfl ?_
  refine lv_ladd hx hb dX10_numberDigest_43 ?_
  obtain ⟨rfl, rfl⟩ := zz_e2 hf
  exact hret _ _ _ _ dX10_numberDigest_44 hP hD hS
def rmX10_digest : Room := { frames := 9, cells := 0, slots := 0, locals := 208 }
set_option maxHeartbeats 4000000 in
set_option maxRecDepth 100000 in
theorem zc_X10_digest (l : Launch) (D : va_G) (tb : Nat → Nat) (q : Nat → Nat) (k : Nat → ClassId) (F : Nat)  (S : zz_M) (r : Int64) (o1 : zz_M) (hf : pX10_digest F S = some (r, o1)) : zz_Ml l yX10_digest wsX10_digest rmX10_digest D tb [((k 1), .int), ((k 2), .int), ((k 3), .int), ((k 4), .int), ((k 5), .int), ((k 6), .int), ((k 7), .int), ((k 8), .boolean), ((k 9), .int), ((k 10), .int), ((k 11), .int), ((k 12), .int), ((k 13), .int), ((k 14), .int), ((k 15), .int), ((k 16), .boolean), ((k 17), .int), ((k 18), .int), ((k 19), .int), ((k 20), .int)] [.ref (q 0)] (zw_10 q k S) (zw_10 q k o1) r := by
  refine zz_ofl (cc := cX10_digest) (maxL := 4) (by decide) rfl (Nat.le_of_ble_eq_true rfl) ?_
  intro p e s m args below meth c A Q hfx hK hA hE hret H locs hP hD hS ls hl
  obtain ⟨hx, hb, hml, hown, hts⟩ := id hfx
  have inX10 : ∀ w ∈ u_ws RX10 TX10 34, w ∈ wsX10_digest := by decide +kernel
  have lk88 := hts (.fieldLink RX10 88 "CatBeatModel" "cells" "I") (by decide +kernel)
  have lk101 := hts (.fieldLink RX10 101 "CatBeatModel" "steps" "I") (by decide +kernel)
  have lk111 := hts (.fieldLink RX10 111 "CatBeatModel" "thieves" "I") (by decide +kernel)
  have lk19 := hts (.fieldLink RX10 19 "CatBeatModel" "beatTold" "[I") (by decide +kernel)
  have lk16 := hts (.fieldLink RX10 16 "CatBeatModel" "kinds" "[I") (by decide +kernel)
  have kc299 := hts (.constantLong RX10 299 (17)) (by decide +kernel)
  have kc297 := hts (.constantLong RX10 297 (31)) (by decide +kernel)
  have hl : lv_has ls 4 [(0, .ref (q 0))] := hl
  unfold pX10_digest at hf
  refine lv_ldc2 (v := (17 : Int64)) hx hb hown kc299 dX10_digest_0 ?_
  refine lv_lstore_n (lv' := [(1, .long (17 : Int64)), (0, .ref (q 0))]) hx hb dX10_digest_3 rfl hl (by decide) rfl (fun ls hl => ?_)
  refine lv_iconst (v := (0 : Int32)) hx hb dX10_digest_4 (by decide) ?_
  refine lv_istore_n (lv' := [(3, .int (0 : Int32)), (1, .long (17 : Int64)), (0, .ref (q 0))]) hx hb dX10_digest_5 rfl hl (by decide) rfl (fun ls hl => ?_)
  have hLkL6_3 : ∀ (n6_3 : Nat) (x1 : Int64) (x2 : Int32) (z3 : zz_M) (H : Heap) (locs : List Loc), va_P D vwCl (zw_10 q k z3) H → va_D A (zw_10 q k z3) → va_S A s.heap H locs → ∀ ls : Array Slot, lv_has ls 4 [(0, .ref (q 0)), (1, .long x1), (3, .int x2)] → pX10_digest_L6_3 F n6_3 x1 x2 z3 = some (r, o1) → W p l e rmX10_digest s m args below meth c H locs 0 0 Q (F0 m 6 ls []) := by
    intro n6_3
    induction n6_3 with
    | zero =>
      intro x1 x2 z3 H locs hP hD hS ls hl hf
      exact nomatch (show (none : Option _) = some _ from hf)
    | succ n6_3 ihkL6_3 =>
      intro x1 x2 z3 H locs hP hD hS ls hl hf
      rw [pX10_digest_L6_3] at hf
      refine lv_iload_n hx hb dX10_digest_6 rfl (lv_at hl 2 rfl) ?_
      refine lv_bipush (v := (8 : Int32)) hx hb dX10_digest_7 (by decide) ?_
      refine lv_icmp_ge (tgt := 31) hx hb dX10_digest_9 (by decide) (fun c9 => ?_) (fun c9 => ?_)
      · have hf := zz_ps hf c9
        refine lv_iconst (v := (0 : Int32)) hx hb dX10_digest_31 (by decide) ?_
        refine lv_istore_n (lv' := [(3, .int (0 : Int32)), (0, .ref (q 0)), (1, .long x1)]) hx hb dX10_digest_32 rfl hl (by decide) rfl (fun ls hl => ?_)
        have hLkL33_7 : ∀ (n33_7 : Nat) (x5 : Int64) (x6 : Int32) (z7 : zz_M) (H : Heap) (locs : List Loc), va_P D vwCl (zw_10 q k z7) H → va_D A (zw_10 q k z7) → va_S A s.heap H locs → ∀ ls : Array Slot, lv_has ls 4 [(0, .ref (q 0)), (1, .long x5), (3, .int x6)] → pX10_digest_L33_7 F n33_7 x5 x6 z7 = some (r, o1) → W p l e rmX10_digest s m args below meth c H locs 0 0 Q (F0 m 33 ls []) := by
          intro n33_7
          induction n33_7 with
          | zero =>
            intro x5 x6 z7 H locs hP hD hS ls hl hf
            exact nomatch (show (none : Option _) = some _ from hf)
          | succ n33_7 ihkL33_7 =>
            intro x5 x6 z7 H locs hP hD hS ls hl hf
            rw [pX10_digest_L33_7] at hf
            refine lv_iload_n hx hb dX10_digest_33 rfl (lv_at hl 2 rfl) ?_
            refine lv_iconst (v := (3 : Int32)) hx hb dX10_digest_34 (by decide) ?_
            refine lv_icmp_ge (tgt := 57) hx hb dX10_digest_35 (by decide) (fun c35 => ?_) (fun c35 => ?_)
            · have hf := zz_ps hf c35
              refine lv_iconst (v := (0 : Int32)) hx hb dX10_digest_57 (by decide) ?_
              refine lv_istore_n (lv' := [(3, .int (0 : Int32)), (0, .ref (q 0)), (1, .long x5)]) hx hb dX10_digest_58 rfl hl (by decide) rfl (fun ls hl => ?_)
              have hLkL59_11 : ∀ (n59_11 : Nat) (x9 : Int64) (x10 : Int32) (z11 : zz_M) (H : Heap) (locs : List Loc), va_P D vwCl (zw_10 q k z11) H → va_D A (zw_10 q k z11) → va_S A s.heap H locs → ∀ ls : Array Slot, lv_has ls 4 [(0, .ref (q 0)), (1, .long x9), (3, .int x10)] → pX10_digest_L59_11 F n59_11 x9 x10 z11 = some (r, o1) → W p l e rmX10_digest s m args below meth c H locs 0 0 Q (F0 m 59 ls []) := by
                intro n59_11
                induction n59_11 with
                | zero =>
                  intro x9 x10 z11 H locs hP hD hS ls hl hf
                  exact nomatch (show (none : Option _) = some _ from hf)
                | succ n59_11 ihkL59_11 =>
                  intro x9 x10 z11 H locs hP hD hS ls hl hf
                  rw [pX10_digest_L59_11] at hf
                  refine lv_iload_n hx hb dX10_digest_59 rfl (lv_at hl 2 rfl) ?_
                  refine lv_aload_n hx hb dX10_digest_60 rfl (lv_at hl 0 rfl) ?_
                  refine va_get (D := D) (ci := 10) (v := .int (zz_gI z11 2)) (C := RX10) (T := TX10) (N := 34) hx hb hts inX10 hown hK hP 0 rfl rfl 4 (by decide) lk88 (fun _ h9 => h9) rfl dX10_digest_61 ?_
                  refine lv_icmp_ge (tgt := 115) hx hb dX10_digest_64 (by decide) (fun c64 => ?_) (fun c64 => ?_)
                  · have hf := zz_ps hf c64
                    refine lv_iconst (v := (0 : Int32)) hx hb dX10_digest_115 (by decide) ?_
                    refine lv_istore_n (lv' := [(3, .int (0 : Int32)), (0, .ref (q 0)), (1, .long x9)]) hx hb dX10_digest_116 rfl hl (by decide) rfl (fun ls hl => ?_)
                    have hLkL117_14 : ∀ (n117_14 : Nat) (x13 : Int64) (x14 : Int32) (H : Heap) (locs : List Loc), va_P D vwCl (zw_10 q k z11) H → va_D A (zw_10 q k z11) → va_S A s.heap H locs → ∀ ls : Array Slot, lv_has ls 4 [(0, .ref (q 0)), (1, .long x13), (3, .int x14)] → pX10_digest_L117_14 F z11 n117_14 x13 x14 = some (r, o1) → W p l e rmX10_digest s m args below meth c H locs 0 0 Q (F0 m 117 ls []) := by
                      intro n117_14
                      induction n117_14 with
                      | zero =>
                        intro x13 x14 H locs hP hD hS ls hl hf
                        exact nomatch (show (none : Option _) = some _ from hf)
                      | succ n117_14 ihkL117_14 =>
                        intro x13 x14 H locs hP hD hS ls hl hf
                        rw [pX10_digest_L117_14] at hf
                        refine lv_iload_n hx hb dX10_digest_117 rfl (lv_at hl 2 rfl) ?_
                        refine lv_aload_n hx hb dX10_digest_118 rfl (lv_at hl 0 rfl) ?_
                        refine va_get (D := D) (ci := 10) (v := .int (zz_gI z11 3)) (C := RX10) (T := TX10) (N := 34) hx hb hts inX10 hown hK hP 0 rfl rfl 6 (by decide) lk101 (fun _ h9 => h9) rfl dX10_digest_119 ?_
                        refine lv_icmp_ge (tgt := 145) hx hb dX10_digest_122 (by decide) (fun c122 => ?_) (fun c122 => ?_)
                        · have hf := zz_ps hf c122
                          refine lv_iconst (v := (0 : Int32)) hx hb dX10_digest_145 (by decide) ?_
                          refine lv_istore_n (lv' := [(3, .int (0 : Int32)), (0, .ref (q 0)), (1, .long x13)]) hx hb dX10_digest_146 rfl hl (by decide) rfl (fun ls hl => ?_)
                          have hLkL147_18 : ∀ (n147_18 : Nat) (x16 : Int64) (x17 : Int32) (z18 : zz_M) (H : Heap) (locs : List Loc), va_P D vwCl (zw_10 q k z18) H → va_D A (zw_10 q k z18) → va_S A s.heap H locs → ∀ ls : Array Slot, lv_has ls 4 [(0, .ref (q 0)), (1, .long x16), (3, .int x17)] → pX10_digest_L147_18 F n147_18 x16 x17 z18 = some (r, o1) → W p l e rmX10_digest s m args below meth c H locs 0 0 Q (F0 m 147 ls []) := by
                            intro n147_18
                            induction n147_18 with
                            | zero =>
                              intro x16 x17 z18 H locs hP hD hS ls hl hf
                              exact nomatch (show (none : Option _) = some _ from hf)
                            | succ n147_18 ihkL147_18 =>
                              intro x16 x17 z18 H locs hP hD hS ls hl hf
                              rw [pX10_digest_L147_18] at hf
                              refine lv_iload_n hx hb dX10_digest_147 rfl (lv_at hl 2 rfl) ?_
                              refine lv_aload_n hx hb dX10_digest_148 rfl (lv_at hl 0 rfl) ?_
                              refine va_get (D := D) (ci := 10) (v := .int (zz_gI z18 4)) (C := RX10) (T := TX10) (N := 34) hx hb hts inX10 hown hK hP 0 rfl rfl 8 (by decide) lk111 (fun _ h9 => h9) rfl dX10_digest_149 ?_
                              refine lv_icmp_ge (tgt := 168) hx hb dX10_digest_152 (by decide) (fun c152 => ?_) (fun c152 => ?_)
                              · have hf := zz_ps hf c152
                                refine lv_aload_n hx hb dX10_digest_168 rfl (lv_at hl 0 rfl) ?_
                                refine lv_lload_n hx hb dX10_digest_169 rfl (lv_at hl 1 rfl) ?_
                                refine lv_iconst (v := (0 : Int32)) hx hb dX10_digest_170 (by decide) ?_
                                obtain ⟨r20, S21, hc22, hf⟩ := zz_b2s hf
                                refine zz_jl0 (va_runV (As := [.long x16, .int (0 : Int32)]) (rest := []) hfx (zc_X10_numberDigest l D tb q k F x16 (0 : Int32) z18 r20 S21 hc22 H.size) (cwV 2 hts gX10_digest_X10_numberDigest rfl rfl rfl (by decide +kernel) ⟨Nat.le_of_ble_eq_true rfl, Nat.le_of_ble_eq_true rfl⟩) (zz_pre0V hK hP hD hS hA hE 0 rfl rfl rfl) rfl rfl hl.1 rfl (lv_room (Nat.le_of_ble_eq_true rfl)) dX10_digest_171 ⟨Nat.zero_le _, Nat.zero_le _⟩) hD hS hA (fun H locs hP hD hS => ?_)
                                refine lv_lstore_n (lv' := [(1, .long r20), (0, .ref (q 0)), (3, .int x17)]) hx hb dX10_digest_174 rfl hl (by decide) rfl (fun ls hl => ?_)
                                refine lv_aload_n hx hb dX10_digest_175 rfl (lv_at hl 1 rfl) ?_
                                refine lv_lload_n hx hb dX10_digest_176 rfl (lv_at hl 0 rfl) ?_
                                refine lv_bipush (v := (7 : Int32)) hx hb dX10_digest_177 (by decide) ?_
                                obtain ⟨r23, S24, hc25, hf⟩ := zz_b2s hf
                                refine zz_jl0 (va_runV (As := [.long r20, .int (7 : Int32)]) (rest := []) hfx (zc_X10_numberDigest l D tb q k F r20 (7 : Int32) S21 r23 S24 hc25 H.size) (cwV 2 hts gX10_digest_X10_numberDigest rfl rfl rfl (by decide +kernel) ⟨Nat.le_of_ble_eq_true rfl, Nat.le_of_ble_eq_true rfl⟩) (zz_pre0V hK hP hD hS hA hE 0 rfl rfl rfl) rfl rfl hl.1 rfl (lv_room (Nat.le_of_ble_eq_true rfl)) dX10_digest_179 ⟨Nat.zero_le _, Nat.zero_le _⟩) hD hS hA (fun H locs hP hD hS => ?_)
                                refine lv_lstore_n (lv' := [(1, .long r23), (0, .ref (q 0)), (3, .int x17)]) hx hb dX10_digest_182 rfl hl (by decide) rfl (fun ls hl => ?_)
                                refine lv_aload_n hx hb dX10_digest_183 rfl (lv_at hl 1 rfl) ?_
                                refine lv_lload_n hx hb dX10_digest_184 rfl (lv_at hl 0 rfl) ?_
                                refine lv_bipush (v := (50 : Int32)) hx hb dX10_digest_185 (by decide) ?_
                                obtain ⟨r26, S27, hc28, hf⟩ := zz_b2s hf
                                refine zz_jl0 (va_runV (As := [.long r23, .int (50 : Int32)]) (rest := []) hfx (zc_X10_numberDigest l D tb q k F r23 (50 : Int32) S24 r26 S27 hc28 H.size) (cwV 2 hts gX10_digest_X10_numberDigest rfl rfl rfl (by decide +kernel) ⟨Nat.le_of_ble_eq_true rfl, Nat.le_of_ble_eq_true rfl⟩) (zz_pre0V hK hP hD hS hA hE 0 rfl rfl rfl) rfl rfl hl.1 rfl (lv_room (Nat.le_of_ble_eq_true rfl)) dX10_digest_187 ⟨Nat.zero_le _, Nat.zero_le _⟩) hD hS hA (fun H locs hP hD hS => ?_)
                                refine lv_lstore_n (lv' := [(1, .long r26), (0, .ref (q 0)), (3, .int x17)]) hx hb dX10_digest_190 rfl hl (by decide) rfl (fun ls hl => ?_)
                                refine lv_aload_n hx hb dX10_digest_191 rfl (lv_at hl 1 rfl) ?_
                                refine lv_lload_n hx hb dX10_digest_192 rfl (lv_at hl 0 rfl) ?_
                                refine lv_bipush (v := (95 : Int32)) hx hb dX10_digest_193 (by decide) ?_
                                obtain ⟨r29, S30, hc31, hf⟩ := zz_b2s hf
                                refine zz_jl0 (va_runV (As := [.long r26, .int (95 : Int32)]) (rest := []) hfx (zc_X10_numberDigest l D tb q k F r26 (95 : Int32) S27 r29 S30 hc31 H.size) (cwV 2 hts gX10_digest_X10_numberDigest rfl rfl rfl (by decide +kernel) ⟨Nat.le_of_ble_eq_true rfl, Nat.le_of_ble_eq_true rfl⟩) (zz_pre0V hK hP hD hS hA hE 0 rfl rfl rfl) rfl rfl hl.1 rfl (lv_room (Nat.le_of_ble_eq_true rfl)) dX10_digest_195 ⟨Nat.zero_le _, Nat.zero_le _⟩) hD hS hA (fun H locs hP hD hS => ?_)
                                refine lv_lstore_n (lv' := [(1, .long r29), (0, .ref (q 0)), (3, .int x17)]) hx hb dX10_digest_198 rfl hl (by decide) rfl (fun ls hl => ?_)
                                refine lv_ldc2 (v := (31 : Int64)) hx hb hown kc297 dX10_digest_199 ?_
                                refine lv_lload_n hx hb dX10_digest_202 rfl (lv_at hl 0 rfl) ?_
                                refine lv_lmul hx hb dX10_digest_203 ?_
                                refine lv_aload_n hx hb dX10_digest_204 rfl (lv_at hl 1 rfl) ?_
                                refine lv_iconst (v := (0 : Int32)) hx hb dX10_digest_205 (by decide) ?_
                                obtain ⟨r32, S33, hc34, hf⟩ := zz_b2s hf
                                refine zz_ji0 (va_runV (As := [.int (0 : Int32)]) (rest := [.long ((31 : Int64) * r29)]) hfx (zc_X10_safeOf l D tb q k F (0 : Int32) S30 r32 S33 hc34 H.size) (cwV 1 hts gX10_digest_X10_safeOf rfl rfl rfl (by decide +kernel) ⟨Nat.le_of_ble_eq_true rfl, Nat.le_of_ble_eq_true rfl⟩) (zz_pre0V hK hP hD hS hA hE 0 rfl rfl rfl) rfl rfl hl.1 rfl (lv_room (Nat.le_of_ble_eq_true rfl)) dX10_digest_206 ⟨Nat.zero_le _, Nat.zero_le _⟩) hD hS hA (fun H locs hP hD hS => ?_)
                                refine lv_i2l (v := (Int32.toInt64 r32)) hx hb dX10_digest_209 rfl ?_
                                refine lv_ladd hx hb dX10_digest_210 ?_
                                obtain ⟨v35, hv35, hf⟩ := zz_lts hf
                                refine zz_tl hv35 ?_
                                refine lv_lstore_n (lv' := [(1, .long v35), (0, .ref (q 0)), (3, .int x17)]) hx hb dX10_digest_211 rfl hl (by decide) rfl (fun ls hl => ?_)
                                refine lv_ldc2 (v := (31 : Int64)) hx hb hown kc297 dX10_digest_212 ?_
                                refine lv_lload_n hx hb dX10_digest_215 rfl (lv_at hl 0 rfl) ?_
                                refine lv_lmul hx hb dX10_digest_216 ?_
                                refine lv_aload_n hx hb dX10_digest_217 rfl (lv_at hl 1 rfl) ?_
                                refine lv_iconst (v := (1 : Int32)) hx hb dX10_digest_218 (by decide) ?_
                                obtain ⟨r36, S37, hc38, hf⟩ := zz_b2s hf
                                refine zz_ji0 (va_runV (As := [.int (1 : Int32)]) (rest := [.long ((31 : Int64) * v35)]) hfx (zc_X10_safeOf l D tb q k F (1 : Int32) S33 r36 S37 hc38 H.size) (cwV 1 hts gX10_digest_X10_safeOf rfl rfl rfl (by decide +kernel) ⟨Nat.le_of_ble_eq_true rfl, Nat.le_of_ble_eq_true rfl⟩) (zz_pre0V hK hP hD hS hA hE 0 rfl rfl rfl) rfl rfl hl.1 rfl (lv_room (Nat.le_of_ble_eq_true rfl)) dX10_digest_219 ⟨Nat.zero_le _, Nat.zero_le _⟩) hD hS hA (fun H locs hP hD hS => ?_)
                                refine lv_i2l (v := (Int32.toInt64 r36)) hx hb dX10_digest_222 rfl ?_
                                refine lv_ladd hx hb dX10_digest_223 ?_
                                obtain ⟨v39, hv39, hf⟩ := zz_lts hf
                                refine zz_tl hv39 ?_
                                refine lv_lstore_n (lv' := [(1, .long v39), (0, .ref (q 0)), (3, .int x17)]) hx hb dX10_digest_224 rfl hl (by decide) rfl (fun ls hl => ?_)
                                refine lv_ldc2 (v := (31 : Int64)) hx hb hown kc297 dX10_digest_225 ?_
                                refine lv_lload_n hx hb dX10_digest_228 rfl (lv_at hl 0 rfl) ?_
                                refine lv_lmul hx hb dX10_digest_229 ?_
                                refine lv_aload_n hx hb dX10_digest_230 rfl (lv_at hl 1 rfl) ?_
                                obtain ⟨r40, S41, hc42, hf⟩ := zz_b2s hf
                                refine zz_ji0 (va_runV (As := []) (rest := [.long ((31 : Int64) * v39)]) hfx (zc_X10_lostTold l D tb q k F  S37 r40 S41 hc42 H.size) (cwV 0 hts gX10_digest_X10_lostTold rfl rfl rfl (by decide +kernel) ⟨Nat.le_of_ble_eq_true rfl, Nat.le_of_ble_eq_true rfl⟩) (zz_pre0V hK hP hD hS hA hE 0 rfl rfl rfl) rfl rfl hl.1 rfl (lv_room (Nat.le_of_ble_eq_true rfl)) dX10_digest_231 ⟨Nat.zero_le _, Nat.zero_le _⟩) hD hS hA (fun H locs hP hD hS => ?_)
                                refine lv_i2l (v := (Int32.toInt64 r40)) hx hb dX10_digest_234 rfl ?_
                                refine lv_ladd hx hb dX10_digest_235 ?_
                                obtain ⟨v43, hv43, hf⟩ := zz_lts hf
                                refine zz_tl hv43 ?_
                                refine lv_lstore_n (lv' := [(1, .long v43), (0, .ref (q 0)), (3, .int x17)]) hx hb dX10_digest_236 rfl hl (by decide) rfl (fun ls hl => ?_)
                                refine lv_ldc2 (v := (31 : Int64)) hx hb hown kc297 dX10_digest_237 ?_
                                refine lv_lload_n hx hb dX10_digest_240 rfl (lv_at hl 0 rfl) ?_
                                refine lv_lmul hx hb dX10_digest_241 ?_
                                refine lv_aload_n hx hb dX10_digest_242 rfl (lv_at hl 1 rfl) ?_
                                obtain ⟨r44, S45, hc46, hf⟩ := zz_b2s hf
                                refine zz_ji0 (va_runV (As := []) (rest := [.long ((31 : Int64) * v43)]) hfx (zc_X10_firstNow l D tb q k F  S41 r44 S45 hc46 H.size) (cwV 0 hts gX10_digest_X10_firstNow rfl rfl rfl (by decide +kernel) ⟨Nat.le_of_ble_eq_true rfl, Nat.le_of_ble_eq_true rfl⟩) (zz_pre0V hK hP hD hS hA hE 0 rfl rfl rfl) rfl rfl hl.1 rfl (lv_room (Nat.le_of_ble_eq_true rfl)) dX10_digest_243 ⟨Nat.zero_le _, Nat.zero_le _⟩) hD hS hA (fun H locs hP hD hS => ?_)
                                refine lv_i2l (v := (Int32.toInt64 r44)) hx hb dX10_digest_246 rfl ?_
                                refine lv_ladd hx hb dX10_digest_247 ?_
                                obtain ⟨v47, hv47, hf⟩ := zz_lts hf
                                refine zz_tl hv47 ?_
                                refine lv_lstore_n (lv' := [(1, .long v47), (0, .ref (q 0)), (3, .int x17)]) hx hb dX10_digest_248 rfl hl (by decide) rfl (fun ls hl => ?_)
                                refine lv_ldc2 (v := (31 : Int64)) hx hb hown kc297 dX10_digest_249 ?_
                                refine lv_lload_n hx hb dX10_digest_252 rfl (lv_at hl 0 rfl) ?_
                                refine lv_lmul hx hb dX10_digest_253 ?_
                                refine lv_aload_n hx hb dX10_digest_254 rfl (lv_at hl 1 rfl) ?_
                                obtain ⟨r48, S49, hc50, hf⟩ := zz_b2s hf
                                refine zz_ji0 (va_runV (As := []) (rest := [.long ((31 : Int64) * v47)]) hfx (zc_X10_spareNow l D tb q k F  S45 r48 S49 hc50 H.size) (cwV 0 hts gX10_digest_X10_spareNow rfl rfl rfl (by decide +kernel) ⟨Nat.le_of_ble_eq_true rfl, Nat.le_of_ble_eq_true rfl⟩) (zz_pre0V hK hP hD hS hA hE 0 rfl rfl rfl) rfl rfl hl.1 rfl (lv_room (Nat.le_of_ble_eq_true rfl)) dX10_digest_255 ⟨Nat.zero_le _, Nat.zero_le _⟩) hD hS hA (fun H locs hP hD hS => ?_)
                                refine lv_i2l (v := (Int32.toInt64 r48)) hx hb dX10_digest_258 rfl ?_
                                refine lv_ladd hx hb dX10_digest_259 ?_
                                obtain ⟨v51, hv51, hf⟩ := zz_lts hf
                                refine zz_tl hv51 ?_
                                refine lv_lstore_n (lv' := [(1, .long v51), (0, .ref (q 0)), (3, .int x17)]) hx hb dX10_digest_260 rfl hl (by decide) rfl (fun ls hl => ?_)
                                refine lv_aload_n hx hb dX10_digest_261 rfl (lv_at hl 1 rfl) ?_
                                obtain ⟨r52, S53, hc54, hf⟩ := zz_b2s hf
                                refine zz_ji0 (va_runV (As := []) (rest := []) hfx (zc_X10_trimBy l D tb q k F  S49 r52 S53 hc54 H.size) (cwV 0 hts gX10_digest_X10_trimBy rfl rfl rfl (by decide +kernel) ⟨Nat.le_of_ble_eq_true rfl, Nat.le_of_ble_eq_true rfl⟩) (zz_pre0V hK hP hD hS hA hE 0 rfl rfl rfl) rfl rfl hl.1 rfl (lv_room (Nat.le_of_ble_eq_true rfl)) dX10_digest_262 ⟨Nat.zero_le _, Nat.zero_le _⟩) hD hS hA (fun H locs hP hD hS => ?_)
                                refine lv_istore_n (lv' := [(3, .int r52), (1, .long v51), (0, .ref (q 0))]) hx hb dX10_digest_265 rfl hl (by decide) rfl (fun ls hl => ?_)
                                refine lv_ldc2 (v := (31 : Int64)) hx hb hown kc297 dX10_digest_266 ?_
                                refine lv_lload_n hx hb dX10_digest_269 rfl (lv_at hl 1 rfl) ?_
                                refine lv_lmul hx hb dX10_digest_270 ?_
                                refine lv_iload_n hx hb dX10_digest_271 rfl (lv_at hl 0 rfl) ?_
                                refine lv_i2l (v := (Int32.toInt64 r52)) hx hb dX10_digest_272 rfl ?_
                                refine lv_ladd hx hb dX10_digest_273 ?_
                                obtain ⟨v55, hv55, hf⟩ := zz_lts hf
                                refine zz_tl hv55 ?_
                                refine lv_lstore_n (lv' := [(1, .long v55), (3, .int r52), (0, .ref (q 0))]) hx hb dX10_digest_274 rfl hl (by decide) rfl (fun ls hl => ?_)
                                refine lv_ldc2 (v := (31 : Int64)) hx hb hown kc297 dX10_digest_275 ?_
                                refine lv_lload_n hx hb dX10_digest_278 rfl (lv_at hl 0 rfl) ?_
                                refine lv_lmul hx hb dX10_digest_279 ?_
                                refine lv_aload_n hx hb dX10_digest_280 rfl (lv_at hl 2 rfl) ?_
                                refine lv_iload_n hx hb dX10_digest_281 rfl (lv_at hl 1 rfl) ?_
                                refine lv_iconst (v := (0 : Int32)) hx hb dX10_digest_282 (by decide) ?_
                                obtain ⟨r56, hc57, hf⟩ := zz_b1s hf
                                refine zz_ji0 (va_runV (As := [.int r52, .int (0 : Int32)]) (rest := [.long ((31 : Int64) * v55)]) hfx (zc_X10_ofRow l D tb q k F r52 (0 : Int32) S53 r56 hc57 H.size) (cwV 2 hts gX10_digest_X10_ofRow rfl rfl rfl (by decide +kernel) ⟨Nat.le_of_ble_eq_true rfl, Nat.le_of_ble_eq_true rfl⟩) (zz_pre0V hK hP hD hS hA hE 0 rfl rfl rfl) rfl rfl hl.1 rfl (lv_room (Nat.le_of_ble_eq_true rfl)) dX10_digest_283 ⟨Nat.zero_le _, Nat.zero_le _⟩) hD hS hA (fun H locs hP hD hS => ?_)
                                refine lv_i2l (v := (Int32.toInt64 r56)) hx hb dX10_digest_286 rfl ?_
                                refine lv_ladd hx hb dX10_digest_287 ?_
                                obtain ⟨v58, hv58, hf⟩ := zz_lts hf
                                refine zz_tl hv58 ?_
                                refine lv_lstore_n (lv' := [(1, .long v58), (3, .int r52), (0, .ref (q 0))]) hx hb dX10_digest_288 rfl hl (by decide) rfl (fun ls hl => ?_)
                                refine lv_ldc2 (v := (31 : Int64)) hx hb hown kc297 dX10_digest_289 ?_
                                refine lv_lload_n hx hb dX10_digest_292 rfl (lv_at hl 0 rfl) ?_
                                refine lv_lmul hx hb dX10_digest_293 ?_
                                refine lv_aload_n hx hb dX10_digest_294 rfl (lv_at hl 2 rfl) ?_
                                refine lv_iconst (v := (0 : Int32)) hx hb dX10_digest_295 (by decide) ?_
                                obtain ⟨r59, S60, hc61, hf⟩ := zz_b2s hf
                                refine zz_ji0 (va_runV (As := [.int (0 : Int32)]) (rest := [.long ((31 : Int64) * v58)]) hfx (zc_X10_beginOf l D tb q k F (0 : Int32) S53 r59 S60 hc61 H.size) (cwV 1 hts gX10_digest_X10_beginOf rfl rfl rfl (by decide +kernel) ⟨Nat.le_of_ble_eq_true rfl, Nat.le_of_ble_eq_true rfl⟩) (zz_pre0V hK hP hD hS hA hE 0 rfl rfl rfl) rfl rfl hl.1 rfl (lv_room (Nat.le_of_ble_eq_true rfl)) dX10_digest_296 ⟨Nat.zero_le _, Nat.zero_le _⟩) hD hS hA (fun H locs hP hD hS => ?_)
                                refine lv_i2l (v := (Int32.toInt64 r59)) hx hb dX10_digest_299 rfl ?_
                                refine lv_ladd hx hb dX10_digest_300 ?_
                                obtain ⟨v62, hv62, hf⟩ := zz_lts hf
                                refine zz_tl hv62 ?_
                                refine lv_lstore_n (lv' := [(1, .long v62), (3, .int r52), (0, .ref (q 0))]) hx hb dX10_digest_301 rfl hl (by decide) rfl (fun ls hl => ?_)
                                refine lv_ldc2 (v := (31 : Int64)) hx hb hown kc297 dX10_digest_302 ?_
                                refine lv_lload_n hx hb dX10_digest_305 rfl (lv_at hl 0 rfl) ?_
                                refine lv_lmul hx hb dX10_digest_306 ?_
                                refine lv_aload_n hx hb dX10_digest_307 rfl (lv_at hl 2 rfl) ?_
                                refine lv_iconst (v := (1 : Int32)) hx hb dX10_digest_308 (by decide) ?_
                                obtain ⟨r63, S64, hc65, hf⟩ := zz_b2s hf
                                refine zz_ji0 (va_runV (As := [.int (1 : Int32)]) (rest := [.long ((31 : Int64) * v62)]) hfx (zc_X10_beginOf l D tb q k F (1 : Int32) S60 r63 S64 hc65 H.size) (cwV 1 hts gX10_digest_X10_beginOf rfl rfl rfl (by decide +kernel) ⟨Nat.le_of_ble_eq_true rfl, Nat.le_of_ble_eq_true rfl⟩) (zz_pre0V hK hP hD hS hA hE 0 rfl rfl rfl) rfl rfl hl.1 rfl (lv_room (Nat.le_of_ble_eq_true rfl)) dX10_digest_309 ⟨Nat.zero_le _, Nat.zero_le _⟩) hD hS hA (fun H locs hP hD hS => ?_)
                                refine lv_i2l (v := (Int32.toInt64 r63)) hx hb dX10_digest_312 rfl ?_
                                refine lv_ladd hx hb dX10_digest_313 ?_
                                obtain ⟨v66, hv66, hf⟩ := zz_lts hf
                                refine zz_tl hv66 ?_
                                refine lv_lstore_n (lv' := [(1, .long v66), (3, .int r52), (0, .ref (q 0))]) hx hb dX10_digest_314 rfl hl (by decide) rfl (fun ls hl => ?_)
                                refine lv_ldc2 (v := (31 : Int64)) hx hb hown kc297 dX10_digest_315 ?_
                                refine lv_lload_n hx hb dX10_digest_318 rfl (lv_at hl 0 rfl) ?_
                                refine lv_lmul hx hb dX10_digest_319 ?_
                                refine lv_aload_n hx hb dX10_digest_320 rfl (lv_at hl 2 rfl) ?_
                                refine lv_iconst (v := (0 : Int32)) hx hb dX10_digest_321 (by decide) ?_
                                obtain ⟨r67, S68, hc69, hf⟩ := zz_b2s hf
                                refine zz_ji0 (va_runV (As := [.int (0 : Int32)]) (rest := [.long ((31 : Int64) * v66)]) hfx (zc_X10_recruitOf l D tb q k F (0 : Int32) S64 r67 S68 hc69 H.size) (cwV 1 hts gX10_digest_X10_recruitOf rfl rfl rfl (by decide +kernel) ⟨Nat.le_of_ble_eq_true rfl, Nat.le_of_ble_eq_true rfl⟩) (zz_pre0V hK hP hD hS hA hE 0 rfl rfl rfl) rfl rfl hl.1 rfl (lv_room (Nat.le_of_ble_eq_true rfl)) dX10_digest_322 ⟨Nat.zero_le _, Nat.zero_le _⟩) hD hS hA (fun H locs hP hD hS => ?_)
                                refine lv_i2l (v := (Int32.toInt64 r67)) hx hb dX10_digest_325 rfl ?_
                                refine lv_ladd hx hb dX10_digest_326 ?_
                                obtain ⟨v70, hv70, hf⟩ := zz_lts hf
                                refine zz_tl hv70 ?_
                                refine lv_lstore_n (lv' := [(1, .long v70), (3, .int r52), (0, .ref (q 0))]) hx hb dX10_digest_327 rfl hl (by decide) rfl (fun ls hl => ?_)
                                refine lv_ldc2 (v := (31 : Int64)) hx hb hown kc297 dX10_digest_328 ?_
                                refine lv_lload_n hx hb dX10_digest_331 rfl (lv_at hl 0 rfl) ?_
                                refine lv_lmul hx hb dX10_digest_332 ?_
                                refine lv_aload_n hx hb dX10_digest_333 rfl (lv_at hl 2 rfl) ?_
                                refine lv_iconst (v := (1 : Int32)) hx hb dX10_digest_334 (by decide) ?_
                                obtain ⟨r71, S72, hc73, hf⟩ := zz_b2s hf
                                refine zz_ji0 (va_runV (As := [.int (1 : Int32)]) (rest := [.long ((31 : Int64) * v70)]) hfx (zc_X10_recruitOf l D tb q k F (1 : Int32) S68 r71 S72 hc73 H.size) (cwV 1 hts gX10_digest_X10_recruitOf rfl rfl rfl (by decide +kernel) ⟨Nat.le_of_ble_eq_true rfl, Nat.le_of_ble_eq_true rfl⟩) (zz_pre0V hK hP hD hS hA hE 0 rfl rfl rfl) rfl rfl hl.1 rfl (lv_room (Nat.le_of_ble_eq_true rfl)) dX10_digest_335 ⟨Nat.zero_le _, Nat.zero_le _⟩) hD hS hA (fun H locs hP hD hS => ?_)
                                refine lv_i2l (v := (Int32.toInt64 r71)) hx hb dX10_digest_338 rfl ?_
                                refine lv_ladd hx hb dX10_digest_339 ?_
                                obtain ⟨v74, hv74, hf⟩ := zz_lts hf
                                refine zz_tl hv74 ?_
                                refine lv_lstore_n (lv' := [(1, .long v74), (3, .int r52), (0, .ref (q 0))]) hx hb dX10_digest_340 rfl hl (by decide) rfl (fun ls hl => ?_)
                                refine lv_ldc2 (v := (31 : Int64)) hx hb hown kc297 dX10_digest_341 ?_
                                refine lv_lload_n hx hb dX10_digest_344 rfl (lv_at hl 0 rfl) ?_
                                refine lv_lmul hx hb dX10_digest_345 ?_
                                refine lv_aload_n hx hb dX10_digest_346 rfl (lv_at hl 2 rfl) ?_
                                obtain ⟨r75, S76, hc77, hf⟩ := zz_b2s hf
                                refine zz_ji0 (va_runV (As := []) (rest := [.long ((31 : Int64) * v74)]) hfx (zc_X10_omittedNow l D tb q k F  S72 r75 S76 hc77 H.size) (cwV 0 hts gX10_digest_X10_omittedNow rfl rfl rfl (by decide +kernel) ⟨Nat.le_of_ble_eq_true rfl, Nat.le_of_ble_eq_true rfl⟩) (zz_pre0V hK hP hD hS hA hE 0 rfl rfl rfl) rfl rfl hl.1 rfl (lv_room (Nat.le_of_ble_eq_true rfl)) dX10_digest_347 ⟨Nat.zero_le _, Nat.zero_le _⟩) hD hS hA (fun H locs hP hD hS => ?_)
                                refine lv_i2l (v := (Int32.toInt64 r75)) hx hb dX10_digest_350 rfl ?_
                                refine lv_ladd hx hb dX10_digest_351 ?_
                                obtain ⟨v78, hv78, hf⟩ := zz_lts hf
                                refine zz_tl hv78 ?_
                                refine lv_lstore_n (lv' := [(1, .long v78), (3, .int r52), (0, .ref (q 0))]) hx hb dX10_digest_352 rfl hl (by decide) rfl (fun ls hl => ?_)
                                refine lv_ldc2 (v := (31 : Int64)) hx hb hown kc297 dX10_digest_353 ?_
                                refine lv_lload_n hx hb dX10_digest_356 rfl (lv_at hl 0 rfl) ?_
                                refine lv_lmul hx hb dX10_digest_357 ?_
                                refine lv_aload_n hx hb dX10_digest_358 rfl (lv_at hl 2 rfl) ?_
                                obtain ⟨r79, S80, hc81, hf⟩ := zz_b2s hf
                                refine zz_ji0 (va_runV (As := []) (rest := [.long ((31 : Int64) * v78)]) hfx (zc_X10_askNow l D tb q k F  S76 r79 S80 hc81 H.size) (cwV 0 hts gX10_digest_X10_askNow rfl rfl rfl (by decide +kernel) ⟨Nat.le_of_ble_eq_true rfl, Nat.le_of_ble_eq_true rfl⟩) (zz_pre0V hK hP hD hS hA hE 0 rfl rfl rfl) rfl rfl hl.1 rfl (lv_room (Nat.le_of_ble_eq_true rfl)) dX10_digest_359 ⟨Nat.zero_le _, Nat.zero_le _⟩) hD hS hA (fun H locs hP hD hS => ?_)
                                refine lv_i2l (v := (Int32.toInt64 r79)) hx hb dX10_digest_362 rfl ?_
                                refine lv_ladd hx hb dX10_digest_363 ?_
                                obtain ⟨v82, hv82, hf⟩ := zz_lts hf
                                refine zz_tl hv82 ?_
                                refine lv_lstore_n (lv' := [(1, .long v82), (3, .int r52), (0, .ref (q 0))]) hx hb dX10_digest_364 rfl hl (by decide) rfl (fun ls hl => ?_)
                                refine lv_ldc2 (v := (31 : Int64)) hx hb hown kc297 dX10_digest_365 ?_
                                refine lv_lload_n hx hb dX10_digest_368 rfl (lv_at hl 0 rfl) ?_
                                refine lv_lmul hx hb dX10_digest_369 ?_
                                refine lv_aload_n hx hb dX10_digest_370 rfl (lv_at hl 2 rfl) ?_
                                refine lv_bipush (v := (7 : Int32)) hx hb dX10_digest_371 (by decide) ?_
                                refine lv_bipush (v := (12 : Int32)) hx hb dX10_digest_373 (by decide) ?_
                                refine lv_iconst (v := (0 : Int32)) hx hb dX10_digest_375 (by decide) ?_
                                obtain ⟨r83, S84, hc85, hf⟩ := zz_b2s hf
                                refine zz_ji0 (va_runV (As := [.int (7 : Int32), .int (12 : Int32), .int (0 : Int32)]) (rest := [.long ((31 : Int64) * v82)]) hfx (zc_X10_nightsOf l D tb q k F (7 : Int32) (12 : Int32) (0 : Int32) S80 r83 S84 hc85 H.size) (cwV 3 hts gX10_digest_X10_nightsOf rfl rfl rfl (by decide +kernel) ⟨Nat.le_of_ble_eq_true rfl, Nat.le_of_ble_eq_true rfl⟩) (zz_pre0V hK hP hD hS hA hE 0 rfl rfl rfl) rfl rfl hl.1 rfl (lv_room (Nat.le_of_ble_eq_true rfl)) dX10_digest_376 ⟨Nat.zero_le _, Nat.zero_le _⟩) hD hS hA (fun H locs hP hD hS => ?_)
                                refine lv_i2l (v := (Int32.toInt64 r83)) hx hb dX10_digest_379 rfl ?_
                                refine lv_ladd hx hb dX10_digest_380 ?_
                                obtain ⟨v86, hv86, hf⟩ := zz_lts hf
                                refine zz_tl hv86 ?_
                                refine lv_lstore_n (lv' := [(1, .long v86), (3, .int r52), (0, .ref (q 0))]) hx hb dX10_digest_381 rfl hl (by decide) rfl (fun ls hl => ?_)
                                refine lv_ldc2 (v := (31 : Int64)) hx hb hown kc297 dX10_digest_382 ?_
                                refine lv_lload_n hx hb dX10_digest_385 rfl (lv_at hl 0 rfl) ?_
                                refine lv_lmul hx hb dX10_digest_386 ?_
                                refine lv_aload_n hx hb dX10_digest_387 rfl (lv_at hl 2 rfl) ?_
                                refine lv_bipush (v := (7 : Int32)) hx hb dX10_digest_388 (by decide) ?_
                                refine lv_bipush (v := (12 : Int32)) hx hb dX10_digest_390 (by decide) ?_
                                refine lv_iconst (v := (1 : Int32)) hx hb dX10_digest_392 (by decide) ?_
                                obtain ⟨r87, S88, hc89, hf⟩ := zz_b2s hf
                                refine zz_ji0 (va_runV (As := [.int (7 : Int32), .int (12 : Int32), .int (1 : Int32)]) (rest := [.long ((31 : Int64) * v86)]) hfx (zc_X10_nightsOf l D tb q k F (7 : Int32) (12 : Int32) (1 : Int32) S84 r87 S88 hc89 H.size) (cwV 3 hts gX10_digest_X10_nightsOf rfl rfl rfl (by decide +kernel) ⟨Nat.le_of_ble_eq_true rfl, Nat.le_of_ble_eq_true rfl⟩) (zz_pre0V hK hP hD hS hA hE 0 rfl rfl rfl) rfl rfl hl.1 rfl (lv_room (Nat.le_of_ble_eq_true rfl)) dX10_digest_393 ⟨Nat.zero_le _, Nat.zero_le _⟩) hD hS hA (fun H locs hP hD hS => ?_)
                                refine lv_i2l (v := (Int32.toInt64 r87)) hx hb dX10_digest_396 rfl ?_
                                refine lv_ladd hx hb dX10_digest_397 ?_
                                obtain ⟨rfl, rfl⟩ := zz_e2 hf
                                exact hret _ _ _ _ dX10_digest_398 hP hD hS
                              · have hf := zz_ng hf c152
                                refine lv_aload_n hx hb dX10_digest_155 rfl (lv_at hl 0 rfl) ?_
                                refine lv_lload_n hx hb dX10_digest_156 rfl (lv_at hl 1 rfl) ?_
                                refine lv_iload_n hx hb dX10_digest_157 rfl (lv_at hl 2 rfl) ?_
                                obtain ⟨r90, S91, hc92, hf⟩ := zz_b2s hf
                                refine zz_jl0 (va_runV (As := [.long x16, .int x17]) (rest := []) hfx (zc_X10_thiefDigest l D tb q k F x16 x17 z18 r90 S91 hc92 H.size) (cwV 2 hts gX10_digest_X10_thiefDigest rfl rfl rfl (by decide +kernel) ⟨Nat.le_of_ble_eq_true rfl, Nat.le_of_ble_eq_true rfl⟩) (zz_pre0V hK hP hD hS hA hE 0 rfl rfl rfl) rfl rfl hl.1 rfl (lv_room (Nat.le_of_ble_eq_true rfl)) dX10_digest_158 ⟨Nat.zero_le _, Nat.zero_le _⟩) hD hS hA (fun H locs hP hD hS => ?_)
                                refine lv_lstore_n (lv' := [(1, .long r90), (0, .ref (q 0)), (3, .int x17)]) hx hb dX10_digest_161 rfl hl (by decide) rfl (fun ls hl => ?_)
                                obtain ⟨v93, hv93, hf⟩ := zz_lts hf
                                refine lv_iinc (v := v93) (lv' := [(3, .int v93), (1, .long r90), (0, .ref (q 0))]) hx hb dX10_digest_162 hl (k := 2) rfl (by rw [hv93]; rfl) (by decide) rfl (fun ls hl => ?_)
                                refine lv_goto (tgt := 147) hx hb dX10_digest_165 (by decide) ?_
                                exact ihkL147_18 r90 v93 S91 _ _ hP hD hS ls (lv_sub hl [2, 1, 0] rfl) hf
                          exact hLkL147_18 F x13 (0 : Int32) z11 _ _ hP hD hS ls (lv_sub hl [1, 2, 0] rfl) hf
                        · have hf := zz_ng hf c122
                          refine lv_ldc2 (v := (31 : Int64)) hx hb hown kc297 dX10_digest_125 ?_
                          refine lv_lload_n hx hb dX10_digest_128 rfl (lv_at hl 1 rfl) ?_
                          refine lv_lmul hx hb dX10_digest_129 ?_
                          refine lv_aload_n hx hb dX10_digest_130 rfl (lv_at hl 0 rfl) ?_
                          refine va_get (D := D) (ci := 10) (v := .ref (q 4)) (C := RX10) (T := TX10) (N := 34) hx hb hts inX10 hown hK hP 0 rfl rfl 7 (by decide) lk19 (fun _ h9 => h9) rfl dX10_digest_131 ?_
                          refine lv_iload_n hx hb dX10_digest_134 rfl (lv_at hl 2 rfl) ?_
                          obtain ⟨hg94, hf⟩ := zz_gd hf
                          refine va_iald hx hb hK hP 4 3 rfl rfl hg94 dX10_digest_135 ?_
                          refine lv_i2l (v := (Int32.toInt64 ((zz_gA z11 3) (Int32.toNatClampNeg x14)))) hx hb dX10_digest_136 rfl ?_
                          refine lv_ladd hx hb dX10_digest_137 ?_
                          obtain ⟨v95, hv95, hf⟩ := zz_lts hf
                          refine zz_tl hv95 ?_
                          refine lv_lstore_n (lv' := [(1, .long v95), (0, .ref (q 0)), (3, .int x14)]) hx hb dX10_digest_138 rfl hl (by decide) rfl (fun ls hl => ?_)
                          obtain ⟨v96, hv96, hf⟩ := zz_lts hf
                          refine lv_iinc (v := v96) (lv' := [(3, .int v96), (1, .long v95), (0, .ref (q 0))]) hx hb dX10_digest_139 hl (k := 2) rfl (by rw [hv96]; rfl) (by decide) rfl (fun ls hl => ?_)
                          refine lv_goto (tgt := 117) hx hb dX10_digest_142 (by decide) ?_
                          exact ihkL117_14 v95 v96 _ _ hP hD hS ls (lv_sub hl [2, 1, 0] rfl) hf
                    exact hLkL117_14 F x9 (0 : Int32) _ _ hP hD hS ls (lv_sub hl [1, 2, 0] rfl) hf
                  · have hf := zz_ng hf c64
                    refine lv_ldc2 (v := (31 : Int64)) hx hb hown kc297 dX10_digest_67 ?_
                    refine lv_lload_n hx hb dX10_digest_70 rfl (lv_at hl 1 rfl) ?_
                    refine lv_lmul hx hb dX10_digest_71 ?_
                    refine lv_aload_n hx hb dX10_digest_72 rfl (lv_at hl 0 rfl) ?_
                    refine va_get (D := D) (ci := 10) (v := .ref (q 3)) (C := RX10) (T := TX10) (N := 34) hx hb hts inX10 hown hK hP 0 rfl rfl 5 (by decide) lk16 (fun _ h9 => h9) rfl dX10_digest_73 ?_
                    refine lv_iload_n hx hb dX10_digest_76 rfl (lv_at hl 2 rfl) ?_
                    obtain ⟨hg97, hf⟩ := zz_gd hf
                    refine va_iald hx hb hK hP 3 2 rfl rfl hg97 dX10_digest_77 ?_
                    refine lv_i2l (v := (Int32.toInt64 ((zz_gA z11 2) (Int32.toNatClampNeg x10)))) hx hb dX10_digest_78 rfl ?_
                    refine lv_ladd hx hb dX10_digest_79 ?_
                    obtain ⟨v98, hv98, hf⟩ := zz_lts hf
                    refine zz_tl hv98 ?_
                    refine lv_lstore_n (lv' := [(1, .long v98), (0, .ref (q 0)), (3, .int x10)]) hx hb dX10_digest_80 rfl hl (by decide) rfl (fun ls hl => ?_)
                    refine lv_ldc2 (v := (31 : Int64)) hx hb hown kc297 dX10_digest_81 ?_
                    refine lv_lload_n hx hb dX10_digest_84 rfl (lv_at hl 0 rfl) ?_
                    refine lv_lmul hx hb dX10_digest_85 ?_
                    refine lv_aload_n hx hb dX10_digest_86 rfl (lv_at hl 1 rfl) ?_
                    refine lv_iload_n hx hb dX10_digest_87 rfl (lv_at hl 2 rfl) ?_
                    refine lv_iconst (v := (0 : Int32)) hx hb dX10_digest_88 (by decide) ?_
                    obtain ⟨r99, S100, hc101, hf⟩ := zz_b2s hf
                    refine zz_ji0 (va_runV (As := [.int x10, .int (0 : Int32)]) (rest := [.long ((31 : Int64) * v98)]) hfx (zc_X10_seenOf l D tb q k F x10 (0 : Int32) z11 r99 S100 hc101 H.size) (cwV 2 hts gX10_digest_X10_seenOf rfl rfl rfl (by decide +kernel) ⟨Nat.le_of_ble_eq_true rfl, Nat.le_of_ble_eq_true rfl⟩) (zz_pre0V hK hP hD hS hA hE 0 rfl rfl rfl) rfl rfl hl.1 rfl (lv_room (Nat.le_of_ble_eq_true rfl)) dX10_digest_89 ⟨Nat.zero_le _, Nat.zero_le _⟩) hD hS hA (fun H locs hP hD hS => ?_)
                    refine lv_i2l (v := (Int32.toInt64 r99)) hx hb dX10_digest_92 rfl ?_
                    refine lv_ladd hx hb dX10_digest_93 ?_
                    obtain ⟨v102, hv102, hf⟩ := zz_lts hf
                    refine zz_tl hv102 ?_
                    refine lv_lstore_n (lv' := [(1, .long v102), (0, .ref (q 0)), (3, .int x10)]) hx hb dX10_digest_94 rfl hl (by decide) rfl (fun ls hl => ?_)
                    refine lv_ldc2 (v := (31 : Int64)) hx hb hown kc297 dX10_digest_95 ?_
                    refine lv_lload_n hx hb dX10_digest_98 rfl (lv_at hl 0 rfl) ?_
                    refine lv_lmul hx hb dX10_digest_99 ?_
                    refine lv_aload_n hx hb dX10_digest_100 rfl (lv_at hl 1 rfl) ?_
                    refine lv_iload_n hx hb dX10_digest_101 rfl (lv_at hl 2 rfl) ?_
                    refine lv_iconst (v := (1 : Int32)) hx hb dX10_digest_102 (by decide) ?_
                    obtain ⟨r103, S104, hc105, hf⟩ := zz_b2s hf
                    refine zz_ji0 (va_runV (As := [.int x10, .int (1 : Int32)]) (rest := [.long ((31 : Int64) * v102)]) hfx (zc_X10_seenOf l D tb q k F x10 (1 : Int32) S100 r103 S104 hc105 H.size) (cwV 2 hts gX10_digest_X10_seenOf rfl rfl rfl (by decide +kernel) ⟨Nat.le_of_ble_eq_true rfl, Nat.le_of_ble_eq_true rfl⟩) (zz_pre0V hK hP hD hS hA hE 0 rfl rfl rfl) rfl rfl hl.1 rfl (lv_room (Nat.le_of_ble_eq_true rfl)) dX10_digest_103 ⟨Nat.zero_le _, Nat.zero_le _⟩) hD hS hA (fun H locs hP hD hS => ?_)
                    refine lv_i2l (v := (Int32.toInt64 r103)) hx hb dX10_digest_106 rfl ?_
                    refine lv_ladd hx hb dX10_digest_107 ?_
                    obtain ⟨v106, hv106, hf⟩ := zz_lts hf
                    refine zz_tl hv106 ?_
                    refine lv_lstore_n (lv' := [(1, .long v106), (0, .ref (q 0)), (3, .int x10)]) hx hb dX10_digest_108 rfl hl (by decide) rfl (fun ls hl => ?_)
                    obtain ⟨v107, hv107, hf⟩ := zz_lts hf
                    refine lv_iinc (v := v107) (lv' := [(3, .int v107), (1, .long v106), (0, .ref (q 0))]) hx hb dX10_digest_109 hl (k := 2) rfl (by rw [hv107]; rfl) (by decide) rfl (fun ls hl => ?_)
                    refine lv_goto (tgt := 59) hx hb dX10_digest_112 (by decide) ?_
                    exact ihkL59_11 v106 v107 S104 _ _ hP hD hS ls (lv_sub hl [2, 1, 0] rfl) hf
              exact hLkL59_11 F x5 (0 : Int32) z7 _ _ hP hD hS ls (lv_sub hl [1, 2, 0] rfl) hf
            · have hf := zz_ng hf c35
              refine lv_ldc2 (v := (31 : Int64)) hx hb hown kc297 dX10_digest_38 ?_
              refine lv_lload_n hx hb dX10_digest_41 rfl (lv_at hl 1 rfl) ?_
              refine lv_lmul hx hb dX10_digest_42 ?_
              refine lv_aload_n hx hb dX10_digest_43 rfl (lv_at hl 0 rfl) ?_
              refine lv_iload_n hx hb dX10_digest_44 rfl (lv_at hl 2 rfl) ?_
              obtain ⟨r108, S109, hc110, hf⟩ := zz_b2s hf
              refine zz_ji0 (va_runV (As := [.int x6]) (rest := [.long ((31 : Int64) * x5)]) hfx (zc_X10_faultOf l D tb q k F x6 z7 r108 S109 hc110 H.size) (cwV 1 hts gX10_digest_X10_faultOf rfl rfl rfl (by decide +kernel) ⟨Nat.le_of_ble_eq_true rfl, Nat.le_of_ble_eq_true rfl⟩) (zz_pre0V hK hP hD hS hA hE 0 rfl rfl rfl) rfl rfl hl.1 rfl (lv_room (Nat.le_of_ble_eq_true rfl)) dX10_digest_45 ⟨Nat.zero_le _, Nat.zero_le _⟩) hD hS hA (fun H locs hP hD hS => ?_)
              refine lv_i2l (v := (Int32.toInt64 r108)) hx hb dX10_digest_48 rfl ?_
              refine lv_ladd hx hb dX10_digest_49 ?_
              obtain ⟨v111, hv111, hf⟩ := zz_lts hf
              refine zz_tl hv111 ?_
              refine lv_lstore_n (lv' := [(1, .long v111), (0, .ref (q 0)), (3, .int x6)]) hx hb dX10_digest_50 rfl hl (by decide) rfl (fun ls hl => ?_)
              obtain ⟨v112, hv112, hf⟩ := zz_lts hf
              refine lv_iinc (v := v112) (lv' := [(3, .int v112), (1, .long v111), (0, .ref (q 0))]) hx hb dX10_digest_51 hl (k := 2) rfl (by rw [hv112]; rfl) (by decide) rfl (fun ls hl => ?_)
              refine lv_goto (tgt := 33) hx hb dX10_digest_54 (by decide) ?_
              exact ihkL33_7 v111 v112 S109 _ _ hP hD hS ls (lv_sub hl [2, 1, 0] rfl) hf
        exact hLkL33_7 F x1 (0 : Int32) z3 _ _ hP hD hS ls (lv_sub hl [1, 2, 0] rfl) hf
      · have hf := zz_ng hf c9
        refine lv_ldc2 (v := (31 : Int64)) hx hb hown kc297 dX10_digest_12 ?_
        refine lv_lload_n hx hb dX10_digest_15 rfl (lv_at hl 1 rfl) ?_
        refine lv_lmul hx hb dX10_digest_16 ?_
        refine lv_aload_n hx hb dX10_digest_17 rfl (lv_at hl 0 rfl) ?_
        refine lv_iload_n hx hb dX10_digest_18 rfl (lv_at hl 2 rfl) ?_
        obtain ⟨r113, S114, hc115, hf⟩ := zz_b2s hf
        refine zz_ji0 (va_runV (As := [.int x2]) (rest := [.long ((31 : Int64) * x1)]) hfx (zc_X10_count l D tb q k F x2 z3 r113 S114 hc115 H.size) (cwV 1 hts gX10_digest_X10_count rfl rfl rfl (by decide +kernel) ⟨Nat.le_of_ble_eq_true rfl, Nat.le_of_ble_eq_true rfl⟩) (zz_pre0V hK hP hD hS hA hE 0 rfl rfl rfl) rfl rfl hl.1 rfl (lv_room (Nat.le_of_ble_eq_true rfl)) dX10_digest_19 ⟨Nat.zero_le _, Nat.zero_le _⟩) hD hS hA (fun H locs hP hD hS => ?_)
        refine lv_i2l (v := (Int32.toInt64 r113)) hx hb dX10_digest_22 rfl ?_
        refine lv_ladd hx hb dX10_digest_23 ?_
        obtain ⟨v116, hv116, hf⟩ := zz_lts hf
        refine zz_tl hv116 ?_
        refine lv_lstore_n (lv' := [(1, .long v116), (0, .ref (q 0)), (3, .int x2)]) hx hb dX10_digest_24 rfl hl (by decide) rfl (fun ls hl => ?_)
        obtain ⟨v117, hv117, hf⟩ := zz_lts hf
        refine lv_iinc (v := v117) (lv' := [(3, .int v117), (1, .long v116), (0, .ref (q 0))]) hx hb dX10_digest_25 hl (k := 2) rfl (by rw [hv117]; rfl) (by decide) rfl (fun ls hl => ?_)
        refine lv_goto (tgt := 6) hx hb dX10_digest_28 (by decide) ?_
        exact ihkL6_3 v116 v117 S114 _ _ hP hD hS ls (lv_sub hl [2, 1, 0] rfl) hf
  exact hLkL6_3 F (17 : Int64) (0 : Int32) S _ _ hP hD hS ls (lv_sub hl [2, 1, 0] rfl) hf
