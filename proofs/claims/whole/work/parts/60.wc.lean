def rmX9_missed : Room := { frames := 2, cells := 0, slots := 0, locals := 41 }
set_option maxHeartbeats 4000000 in
set_option maxRecDepth 100000 in
theorem zc_X9_missed (l : Launch) (D : va_G) (tb : Nat → Nat) (q : Nat → Nat) (k : Nat → ClassId) (F : Nat) (u0 : Int32) (u1 : Int32) (S : zz_M) (r : Int32) (o1 : zz_M) (hf : pX9_missed F u0 u1 S = some (r, o1)) : zz_Mi l yX9_missed wsX9_missed rmX9_missed D tb [((k 1), .object "CatBeat$Text"), ((k 3), .int), ((k 5), .int), ((k 7), .int), ((k 8), .int), ((k 9), .int), ((k 11), .int), ((k 13), .int), ((k 15), .int), ((k 16), .int), ((k 18), .int), ((k 19), .int), ((k 20), .object "CatBeat$Sheet"), ((k 22), .int), ((k 24), .int), ((k 26), .int), ((k 28), .int), ((k 30), .int), ((k 31), .long), ((k 32), .boolean), ((k 34), .int), ((k 35), .long), ((k 37), .int), ((k 39), .int), ((k 40), .long), ((k 41), .boolean), ((k 43), .int), ((k 44), .long), ((k 46), .long), ((k 47), .int)] [.ref (q 0), .int u0, .int u1] (zw_9 q k S) (zw_9 q k o1) r := by
  refine zz_ofi (cc := cX9_missed) (maxL := 3) (by decide) rfl (Nat.le_of_ble_eq_true rfl) ?_
  intro p e s m args below meth c A Q hfx hK hA hE hret H locs hP hD hS ls hl
  obtain ⟨hx, hb, hml, hown, hts⟩ := id hfx
  have inX9 : ∀ w ∈ u_ws RX9 TX9 18, w ∈ wsX9_missed := by decide +kernel
  have inX1 : ∀ w ∈ u_ws RX1 TX1 3, w ∈ wsX9_missed := by decide +kernel
  have lk46 := hts (.fieldLink RX9 46 "CatBeat" "missing" "LCatBeat$Missed;") (by decide +kernel)
  have lk231 := hts (.fieldLink RX9 231 "CatBeat$Missed" "count" "I") (by decide +kernel)
  have hl : lv_has ls 3 [(0, .ref (q 0)), (1, .int u0), (2, .int u1)] := hl
  unfold pX9_missed at hf
  refine lv_iload_n hx hb dX9_missed_0 rfl (lv_at hl 1 rfl) ?_
  refine lv_iload_n hx hb dX9_missed_1 rfl (lv_at hl 2 rfl) ?_
  obtain ⟨r1, hc2, hf⟩ := zz_b1s hf
  refine zz_ji (va_runS (As := [.int u0, .int u1]) (rest := []) hfx (zc_X1_mayBe l D tb  F u0 u1  r1 hc2 H.size) (va_cwS 2 hts gX9_missed_X1_mayBe rfl rfl rfl (by decide +kernel) ⟨Nat.le_of_ble_eq_true rfl, Nat.le_of_ble_eq_true rfl⟩) (zz_preS hK hP hD hS hA hE [] [] rfl (by decide) rfl) rfl rfl hl.1 rfl (lv_room (Nat.le_of_ble_eq_true rfl)) dX9_missed_2 ⟨Nat.zero_le _, Nat.zero_le _⟩) hP hD hS hA [] rfl rfl (fun H locs hP hD hS => ?_)
  have hP : va_P D vwCl (zw_9 q k S) H := hP
  have hD : va_D A (zw_9 q k S) := hD
  refine lv_if_ne (tgt := 11) hx hb dX9_missed_5 (by decide) (fun c5 => ?_) (fun c5 => ?_)
  · have hf := zz_ng hf c5
    refine lv_aload_n hx hb dX9_missed_11 rfl (lv_at hl 0 rfl) ?_
    refine va_get (D := D) (ci := 9) (v := .ref (q 17)) (C := RX9) (T := TX9) (N := 18) hx hb hts inX9 hown hK hP 0 rfl rfl 6 (by decide) lk46 (fun _ h9 => h9) rfl dX9_missed_12 ?_
    refine lv_iload_n hx hb dX9_missed_15 rfl (lv_at hl 1 rfl) ?_
    refine lv_iload_n hx hb dX9_missed_16 rfl (lv_at hl 2 rfl) ?_
    obtain ⟨r3, f4, f5, f6, hc7, hf⟩ := zz_b4s hf
    obtain ⟨S8, hS8, hf⟩ := zz_lts hf
    refine zz_ji (va_runV (As := [.int u0, .int u1]) (rest := []) hfx (zc_X1_add l D tb (q 17) (q 18) (q 19) (k 18) (k 19) F u0 u1 (zz_gI S 7) (zz_gA S 9) (zz_gA S 10) r3 f4 f5 f6 hc7 H.size) (cwV 2 hts gX9_missed_X1_add rfl rfl rfl (by decide +kernel) ⟨Nat.le_of_ble_eq_true rfl, Nat.le_of_ble_eq_true rfl⟩) (zz_preV hK hP hD hS hA hE [17, 18, 19] [10, 11] rfl (by decide) rfl 17 rfl rfl rfl) rfl rfl hl.1 rfl (lv_room (Nat.le_of_ble_eq_true rfl)) dX9_missed_17 ⟨Nat.zero_le _, Nat.zero_le _⟩) hP hD hS hA [17, 18, 19] rfl rfl (fun H locs hP hD hS => ?_)
    have hP : va_P D vwCl (zw_9 q k S8) H := by rw [hS8]; exact hP
    have hD : va_D A (zw_9 q k S8) := by rw [hS8]; exact hD
    obtain ⟨v9, hv9, hf⟩ := zz_lts hf
    have hK10 : ∀ ls : Array Slot, lv_has ls 3 [] → W p l e rmX9_missed s m args below meth c H locs 0 0 Q (F0 m 35 ls [.int v9]) := by
      intro ls hl
      obtain ⟨rfl, rfl⟩ := zz_e2 hf
      exact hret _ _ _ _ dX9_missed_35 hP hD hS
    refine lv_if_eq (tgt := 33) hx hb dX9_missed_20 (by decide) (fun c20 => ?_) (fun c20 => ?_)
    · refine lv_bipush (v := (-4 : Int32)) hx hb dX9_missed_33 (by decide) ?_
      refine zz_ti (show v9 = (-4 : Int32) by rw [hv9, if_pos c20]) ?_
      exact hK10 ls (lv_sub hl [] rfl)
    · refine lv_aload_n hx hb dX9_missed_23 rfl (lv_at hl 0 rfl) ?_
      refine va_get (D := D) (ci := 9) (v := .ref (q 17)) (C := RX9) (T := TX9) (N := 18) hx hb hts inX9 hown hK hP 0 rfl rfl 6 (by decide) lk46 (fun _ h9 => h9) rfl dX9_missed_24 ?_
      refine va_get (D := D) (ci := 1) (v := .int (zz_gI S8 7)) (C := RX1) (T := TX1) (N := 3) hx hb hts inX1 hown hK hP 17 rfl rfl 2 (by decide) lk231 (fun _ h9 => h9) rfl dX9_missed_27 ?_
      refine lv_goto (tgt := 35) hx hb dX9_missed_30 (by decide) ?_
      refine zz_ti (show v9 = (zz_gI S8 7) by rw [hv9, if_neg c20]) ?_
      exact hK10 ls (lv_sub hl [] rfl)
  · have hf := zz_ps hf c5
    refine lv_bipush (v := (-2 : Int32)) hx hb dX9_missed_8 (by decide) ?_
    obtain ⟨rfl, rfl⟩ := zz_e2 hf
    exact hret _ _ _ _ dX9_missed_10 hP hD hS
def rmX9_forget : Room := { frames := 0, cells := 0, slots := 0, locals := 0 }
set_option maxHeartbeats 4000000 in
set_option maxRecDepth 100000 in
theorem zc_X9_forget (l : Launch) (D : va_G) (tb : Nat → Nat) (q : Nat → Nat) (k : Nat → ClassId) (F : Nat)  (S : zz_M) (r : Int32) (o1 : zz_M) (hf : pX9_forget F S = some (r, o1)) : zz_Mi l yX9_forget wsX9_forget rmX9_forget D tb [((k 1), .object "CatBeat$Text"), ((k 3), .int), ((k 5), .int), ((k 7), .int), ((k 8), .int), ((k 9), .int), ((k 11), .int), ((k 13), .int), ((k 15), .int), ((k 16), .int), ((k 18), .int), ((k 19), .int), ((k 20), .object "CatBeat$Sheet"), ((k 22), .int), ((k 24), .int), ((k 26), .int), ((k 28), .int), ((k 30), .int), ((k 31), .long), ((k 32), .boolean), ((k 34), .int), ((k 35), .long), ((k 37), .int), ((k 39), .int), ((k 40), .long), ((k 41), .boolean), ((k 43), .int), ((k 44), .long), ((k 46), .long), ((k 47), .int)] [.ref (q 0)] (zw_9 q k S) (zw_9 q k o1) r := by
  refine zz_ofi (cc := cX9_forget) (maxL := 2) (by decide) rfl (Nat.le_of_ble_eq_true rfl) ?_
  intro p e s m args below meth c A Q hfx hK hA hE hret H locs hP hD hS ls hl
  obtain ⟨hx, hb, hml, hown, hts⟩ := id hfx
  have inX9 : ∀ w ∈ u_ws RX9 TX9 18, w ∈ wsX9_forget := by decide +kernel
  have inX1 : ∀ w ∈ u_ws RX1 TX1 3, w ∈ wsX9_forget := by decide +kernel
  have lk46 := hts (.fieldLink RX9 46 "CatBeat" "missing" "LCatBeat$Missed;") (by decide +kernel)
  have lk231 := hts (.fieldLink RX9 231 "CatBeat$Missed" "count" "I") (by decide +kernel)
  have hl : lv_has ls 2 [(0, .ref (q 0))] := hl
  unfold pX9_forget at hf
  refine lv_aload_n hx hb dX9_forget_0 rfl (lv_at hl 0 rfl) ?_
  refine va_get (D := D) (ci := 9) (v := .ref (q 17)) (C := RX9) (T := TX9) (N := 18) hx hb hts inX9 hown hK hP 0 rfl rfl 6 (by decide) lk46 (fun _ h9 => h9) rfl dX9_forget_1 ?_
  refine va_get (D := D) (ci := 1) (v := .int (zz_gI S 7)) (C := RX1) (T := TX1) (N := 3) hx hb hts inX1 hown hK hP 17 rfl rfl 2 (by decide) lk231 (fun _ h9 => h9) rfl dX9_forget_4 ?_
  obtain ⟨v1, hv1, hf⟩ := zz_lts hf
  refine zz_ti hv1 ?_
  refine lv_istore_n (lv' := [(1, .int v1), (0, .ref (q 0))]) hx hb dX9_forget_7 rfl hl (by decide) rfl (fun ls hl => ?_)
  refine lv_aload_n hx hb dX9_forget_8 rfl (lv_at hl 1 rfl) ?_
  refine va_get (D := D) (ci := 9) (v := .ref (q 17)) (C := RX9) (T := TX9) (N := 18) hx hb hts inX9 hown hK hP 0 rfl rfl 6 (by decide) lk46 (fun _ h9 => h9) rfl dX9_forget_9 ?_
  refine lv_iconst (v := (0 : Int32)) hx hb dX9_forget_12 (by decide) ?_
  obtain ⟨S2, hS2, hf⟩ := zz_lts hf
  refine va_put (D := D) (ci := 1) (v := .int (0 : Int32)) (ty := .int) (C := RX1) (T := TX1) (N := 3) hx hb hts inX1 tyX1 tyX1_ok nmX1 hown hK hP hD hS 17 rfl rfl 2 (by decide) lk231 (fun _ h9 => h9) rfl (by decide +kernel) rfl rfl (Nat.le_of_ble_eq_true rfl) dX9_forget_13 (fun H locs hP hD hS => ?_)
  have hP : va_P D vwCl (zw_9 q k S2) H := by rw [hS2]; exact hP
  have hD : va_D A (zw_9 q k S2) := by rw [hS2]; exact hD
  refine lv_iload_n hx hb dX9_forget_16 rfl (lv_at hl 0 rfl) ?_
  obtain ⟨rfl, rfl⟩ := zz_e2 hf
  exact hret _ _ _ _ dX9_forget_17 hP hD hS
def rmX9_isSheet : Room := { frames := 0, cells := 0, slots := 0, locals := 0 }
set_option maxHeartbeats 4000000 in
set_option maxRecDepth 100000 in
theorem zc_X9_isSheet (l : Launch) (D : va_G) (tb : Nat → Nat) (q : Nat → Nat) (k : Nat → ClassId) (F : Nat) (u0 : Int32) (S : zz_M) (r : Int32) (hf : pX9_isSheet F u0 S = some r) : zz_Mi l yX9_isSheet wsX9_isSheet rmX9_isSheet D tb [((k 1), .object "CatBeat$Text"), ((k 3), .int), ((k 5), .int), ((k 7), .int), ((k 8), .int), ((k 9), .int), ((k 11), .int), ((k 13), .int), ((k 15), .int), ((k 16), .int), ((k 18), .int), ((k 19), .int), ((k 20), .object "CatBeat$Sheet"), ((k 22), .int), ((k 24), .int), ((k 26), .int), ((k 28), .int), ((k 30), .int), ((k 31), .long), ((k 32), .boolean), ((k 34), .int), ((k 35), .long), ((k 37), .int), ((k 39), .int), ((k 40), .long), ((k 41), .boolean), ((k 43), .int), ((k 44), .long), ((k 46), .long), ((k 47), .int)] [.ref (q 0), .int u0] (zw_9 q k S) (zw_9 q k S) r := by
  refine zz_ofz (cc := cX9_isSheet) (maxL := 2) (by decide) rfl (Nat.le_of_ble_eq_true rfl) ?_
  intro p e s m args below meth c A Q hfx hK hA hE hret H locs hP hD hS ls hl
  obtain ⟨hx, hb, hml, hown, hts⟩ := id hfx
  have inX9 : ∀ w ∈ u_ws RX9 TX9 18, w ∈ wsX9_isSheet := by decide +kernel
  have lk52 := hts (.fieldLink RX9 52 "CatBeat" "sheets" "[LCatBeat$Sheet;") (by decide +kernel)
  have hl : lv_has ls 2 [(0, .ref (q 0)), (1, .int u0)] := hl
  unfold pX9_isSheet at hf
  refine lv_iload_n hx hb dX9_isSheet_0 rfl (lv_at hl 1 rfl) ?_
  obtain ⟨j18_2, hj18_2, hf⟩ := zz_lts hf
  have Kj18_2 : ∀ (y1 : Int32) (H : Heap) (locs : List Loc), va_P D vwCl (zw_9 q k S) H → va_D A (zw_9 q k S) → va_S A s.heap H locs → ∀ ls : Array Slot, lv_has ls 2 [] → j18_2 y1 = some r → W p l e rmX9_isSheet s m args below meth c H locs 0 0 Q (F0 m 18 ls [.int y1]) := by
    intro y1 H locs hP hD hS ls hl hf
    rw [hj18_2] at hf
    obtain ⟨hg3, hf⟩ := zz_gd hf
    obtain rfl := zz_e1 hf
    exact hret _ _ _ _ (zz_nb hg3) dX9_isSheet_18 hP hD hS
  obtain ⟨j17_4, hj17_4, hf⟩ := zz_lts hf
  have Kj17_4 : ∀  (H : Heap) (locs : List Loc), va_P D vwCl (zw_9 q k S) H → va_D A (zw_9 q k S) → va_S A s.heap H locs → ∀ ls : Array Slot, lv_has ls 2 [] → j17_4 () = some r → W p l e rmX9_isSheet s m args below meth c H locs 0 0 Q (F0 m 17 ls []) := by
    intro  H locs hP hD hS ls hl hf
    rw [hj17_4] at hf
    refine lv_iconst (v := (0 : Int32)) hx hb dX9_isSheet_17 (by decide) ?_
    exact Kj18_2 (0 : Int32) _ _ hP hD hS ls (lv_sub hl [] rfl) hf
  refine lv_if_lt (tgt := 17) hx hb dX9_isSheet_1 (by decide) (fun c1 => ?_) (fun c1 => ?_)
  · have hf := zz_ps hf c1
    exact Kj17_4  _ _ hP hD hS ls (lv_sub hl [] rfl) hf
  · have hf := zz_ng hf c1
    refine lv_iload_n hx hb dX9_isSheet_4 rfl (lv_at hl 1 rfl) ?_
    refine lv_aload_n hx hb dX9_isSheet_5 rfl (lv_at hl 0 rfl) ?_
    refine va_get (D := D) (ci := 9) (v := .ref (q 20)) (C := RX9) (T := TX9) (N := 18) hx hb hts inX9 hown hK hP 0 rfl rfl 7 (by decide) lk52 (fun _ h9 => h9) rfl dX9_isSheet_6 ?_
    refine va_alen (v := (4 : Int32)) hx hb hK hP 20 12 rfl rfl rfl dX9_isSheet_9 ?_
    refine lv_icmp_ge (tgt := 17) hx hb dX9_isSheet_10 (by decide) (fun c10 => ?_) (fun c10 => ?_)
    · have hf := zz_ps hf c10
      exact Kj17_4  _ _ hP hD hS ls (lv_sub hl [] rfl) hf
    · have hf := zz_ng hf c10
      refine lv_iconst (v := (1 : Int32)) hx hb dX9_isSheet_13 (by decide) ?_
      refine lv_goto (tgt := 18) hx hb dX9_isSheet_14 (by decide) ?_
      exact Kj18_2 (1 : Int32) _ _ hP hD hS ls (lv_sub hl [] rfl) hf
def rmX9_found : Room := { frames := 0, cells := 0, slots := 0, locals := 0 }
set_option maxHeartbeats 4000000 in
set_option maxRecDepth 100000 in
theorem zc_X9_found (l : Launch) (D : va_G) (tb : Nat → Nat) (q : Nat → Nat) (k : Nat → ClassId) (F : Nat) (u0 : Int32) (S : zz_M) (r : Int32) (o1 : zz_M) (hf : pX9_found F u0 S = some (r, o1)) : zz_Mi l yX9_found wsX9_found rmX9_found D tb [((k 1), .object "CatBeat$Text"), ((k 3), .int), ((k 5), .int), ((k 7), .int), ((k 8), .int), ((k 9), .int), ((k 11), .int), ((k 13), .int), ((k 15), .int), ((k 16), .int), ((k 18), .int), ((k 19), .int), ((k 20), .object "CatBeat$Sheet"), ((k 22), .int), ((k 24), .int), ((k 26), .int), ((k 28), .int), ((k 30), .int), ((k 31), .long), ((k 32), .boolean), ((k 34), .int), ((k 35), .long), ((k 37), .int), ((k 39), .int), ((k 40), .long), ((k 41), .boolean), ((k 43), .int), ((k 44), .long), ((k 46), .long), ((k 47), .int)] [.ref (q 0), .int u0] (zw_9 q k S) (zw_9 q k o1) r := by
  refine zz_ofi (cc := cX9_found) (maxL := 2) (by decide) rfl (Nat.le_of_ble_eq_true rfl) ?_
  intro p e s m args below meth c A Q hfx hK hA hE hret H locs hP hD hS ls hl
  obtain ⟨hx, hb, hml, hown, hts⟩ := id hfx
  have inX9 : ∀ w ∈ u_ws RX9 TX9 18, w ∈ wsX9_found := by decide +kernel
  have lk89 := hts (.fieldLink RX9 89 "CatBeat" "latestFinding" "I") (by decide +kernel)
  have hl : lv_has ls 2 [(0, .ref (q 0)), (1, .int u0)] := hl
  unfold pX9_found at hf
  refine lv_aload_n hx hb dX9_found_0 rfl (lv_at hl 0 rfl) ?_
  refine lv_iload_n hx hb dX9_found_1 rfl (lv_at hl 1 rfl) ?_
  obtain ⟨S1, hS1, hf⟩ := zz_lts hf
  refine va_put (D := D) (ci := 9) (v := .int u0) (ty := .int) (C := RX9) (T := TX9) (N := 18) hx hb hts inX9 tyX9 tyX9_ok nmX9 hown hK hP hD hS 0 rfl rfl 15 (by decide) lk89 (fun _ h9 => h9) rfl (by decide +kernel) rfl rfl (Nat.le_of_ble_eq_true rfl) dX9_found_2 (fun H locs hP hD hS => ?_)
  have hP : va_P D vwCl (zw_9 q k S1) H := by rw [hS1]; exact hP
  have hD : va_D A (zw_9 q k S1) := by rw [hS1]; exact hD
  refine lv_bipush (v := (-10 : Int32)) hx hb dX9_found_5 (by decide) ?_
  refine lv_iload_n hx hb dX9_found_7 rfl (lv_at hl 1 rfl) ?_
  refine lv_isub hx hb dX9_found_8 ?_
  obtain ⟨rfl, rfl⟩ := zz_e2 hf
  exact hret _ _ _ _ dX9_found_9 hP hD hS
def rmX9_read : Room := { frames := 3, cells := 0, slots := 0, locals := 66 }
set_option maxHeartbeats 4000000 in
set_option maxRecDepth 100000 in
theorem zc_X9_read (l : Launch) (D : va_G) (tb : Nat → Nat) (q : Nat → Nat) (k : Nat → ClassId) (F : Nat) (u0 : Int32) (S : zz_M) (r : Int32) (o1 : zz_M) (hf : pX9_read F u0 S = some (r, o1)) : zz_Mi l yX9_read wsX9_read rmX9_read D tb [((k 1), .object "CatBeat$Text"), ((k 3), .int), ((k 5), .int), ((k 7), .int), ((k 8), .int), ((k 9), .int), ((k 11), .int), ((k 13), .int), ((k 15), .int), ((k 16), .int), ((k 18), .int), ((k 19), .int), ((k 20), .object "CatBeat$Sheet"), ((k 22), .int), ((k 24), .int), ((k 26), .int), ((k 28), .int), ((k 30), .int), ((k 31), .long), ((k 32), .boolean), ((k 34), .int), ((k 35), .long), ((k 37), .int), ((k 39), .int), ((k 40), .long), ((k 41), .boolean), ((k 43), .int), ((k 44), .long), ((k 46), .long), ((k 47), .int)] [.ref (q 0), .int u0] (zw_9 q k S) (zw_9 q k o1) r := by
  refine zz_ofi (cc := cX9_read) (maxL := 2) (by decide) rfl (Nat.le_of_ble_eq_true rfl) ?_
  intro p e s m args below meth c A Q hfx hK hA hE hret H locs hP hD hS ls hl
  obtain ⟨hx, hb, hml, hown, hts⟩ := id hfx
  have inX9 : ∀ w ∈ u_ws RX9 TX9 18, w ∈ wsX9_read := by decide +kernel
  have inX5 : ∀ w ∈ u_ws RX5 TX5 4, w ∈ wsX9_read := by decide +kernel
  have lk52 := hts (.fieldLink RX9 52 "CatBeat" "sheets" "[LCatBeat$Sheet;") (by decide +kernel)
  have lk235 := hts (.fieldLink RX9 235 "CatBeat$Sheet" "lost" "Z") (by decide +kernel)
  have lk46 := hts (.fieldLink RX9 46 "CatBeat" "missing" "LCatBeat$Missed;") (by decide +kernel)
  have hl : lv_has ls 2 [(0, .ref (q 0)), (1, .int u0)] := hl
  unfold pX9_read at hf
  refine lv_aload_n hx hb dX9_read_0 rfl (lv_at hl 0 rfl) ?_
  refine lv_iload_n hx hb dX9_read_1 rfl (lv_at hl 1 rfl) ?_
  obtain ⟨r1, hc2, hf⟩ := zz_b1s hf
  refine zz_ji0 (va_runV (As := [.int u0]) (rest := []) hfx (zc_X9_isSheet l D tb q k F u0 S r1 hc2 H.size) (cwV 1 hts gX9_read_X9_isSheet rfl rfl rfl (by decide +kernel) ⟨Nat.le_of_ble_eq_true rfl, Nat.le_of_ble_eq_true rfl⟩) (zz_pre0V hK hP hD hS hA hE 0 rfl rfl rfl) rfl rfl hl.1 rfl (lv_room (Nat.le_of_ble_eq_true rfl)) dX9_read_2 ⟨Nat.zero_le _, Nat.zero_le _⟩) hD hS hA (fun H locs hP hD hS => ?_)
  refine lv_if_ne (tgt := 11) hx hb dX9_read_5 (by decide) (fun c5 => ?_) (fun c5 => ?_)
  · have hf := zz_ng hf c5
    refine lv_aload_n hx hb dX9_read_11 rfl (lv_at hl 0 rfl) ?_
    refine va_get (D := D) (ci := 9) (v := .ref (q 20)) (C := RX9) (T := TX9) (N := 18) hx hb hts inX9 hown hK hP 0 rfl rfl 7 (by decide) lk52 (fun _ h9 => h9) rfl dX9_read_12 ?_
    refine lv_iload_n hx hb dX9_read_15 rfl (lv_at hl 1 rfl) ?_
    by_cases ci16_0 : u0 = (0 : Int32)
    · have hf := zz_ps hf ci16_0
      have hl : lv_has ls 2 [(0, .ref (q 0)), (1, .int (0 : Int32))] := ci16_0 ▸ hl
      refine zz_ti (y := (0 : Int32)) ci16_0.symm ?_
      refine va_aldq hx hb hK hP 20 12 rfl rfl (show zz_in (0 : Int32) 4 by decide) dX9_read_16 ?_
      refine W.eq (g2 := F0 m 17 ls [.ref (q 21)]) rfl ?_
      refine va_get (D := D) (ci := 5) (v := .int (zz_gI S 8)) (C := RX5) (T := TX5) (N := 4) hx hb hts inX5 hown hK hP 21 rfl rfl 1 (by decide) lk235 (fun _ h9 => h9) rfl dX9_read_17 ?_
      refine lv_if_eq (tgt := 29) hx hb dX9_read_20 (by decide) (fun c20 => ?_) (fun c20 => ?_)
      · have hf := zz_ps hf c20
        refine lv_aload_n hx hb dX9_read_29 rfl (lv_at hl 0 rfl) ?_
        refine va_get (D := D) (ci := 9) (v := .ref (q 17)) (C := RX9) (T := TX9) (N := 18) hx hb hts inX9 hown hK hP 0 rfl rfl 6 (by decide) lk46 (fun _ h9 => h9) rfl dX9_read_30 ?_
        refine lv_aload_n hx hb dX9_read_33 rfl (lv_at hl 0 rfl) ?_
        refine va_get (D := D) (ci := 9) (v := .ref (q 20)) (C := RX9) (T := TX9) (N := 18) hx hb hts inX9 hown hK hP 0 rfl rfl 7 (by decide) lk52 (fun _ h9 => h9) rfl dX9_read_34 ?_
        refine lv_iload_n hx hb dX9_read_37 rfl (lv_at hl 1 rfl) ?_
        refine va_aldq hx hb hK hP 20 12 rfl rfl (show zz_in (0 : Int32) 4 by decide) dX9_read_38 ?_
        refine W.eq (g2 := F0 m 39 ls [.ref (q 21), .ref (q 17)]) rfl ?_
        obtain ⟨r3, f4, f5, f6, hc7, hf⟩ := zz_b4s hf
        obtain ⟨S8, hS8, hf⟩ := zz_lts hf
        refine zz_ji (va_runV (As := [.ref (q 21)]) (rest := []) hfx (zc_X1_addFrom l D tb (q 17) (q 18) (q 19) (q 21) (q 22) (k 18) (k 19) (k 22) F  (zz_gI S 7) (zz_gA S 9) (zz_gA S 10) (zz_gI S 8) (zz_gI S 9) (zz_gI S 10) (zz_gA S 11) r3 f4 f5 f6 hc7 H.size) (cwV 1 hts gX9_read_X1_addFrom rfl rfl rfl (by decide +kernel) ⟨Nat.le_of_ble_eq_true rfl, Nat.le_of_ble_eq_true rfl⟩) (zz_preV hK hP hD hS hA hE [17, 18, 19, 21, 22] [10, 11, 13] rfl (by decide) rfl 17 rfl rfl rfl) rfl rfl hl.1 rfl (lv_room (Nat.le_of_ble_eq_true rfl)) dX9_read_39 ⟨Nat.zero_le _, Nat.zero_le _⟩) hP hD hS hA [17, 18, 19, 21, 22] rfl rfl (fun H locs hP hD hS => ?_)
        have hP : va_P D vwCl (zw_9 q k S8) H := by rw [hS8]; exact hP
        have hD : va_D A (zw_9 q k S8) := by rw [hS8]; exact hD
        obtain ⟨rfl, rfl⟩ := zz_e2 hf
        exact hret _ _ _ _ dX9_read_42 hP hD hS
      · have hf := zz_ng hf c20
        refine lv_aload_n hx hb dX9_read_23 rfl (lv_at hl 0 rfl) ?_
        refine lv_iconst (v := (1 : Int32)) hx hb dX9_read_24 (by decide) ?_
        obtain ⟨r9, S10, hc11, hf⟩ := zz_b2s hf
        refine zz_ji0 (va_runV (As := [.int (1 : Int32)]) (rest := []) hfx (zc_X9_found l D tb q k F (1 : Int32) S r9 S10 hc11 H.size) (cwV 1 hts gX9_read_X9_found rfl rfl rfl (by decide +kernel) ⟨Nat.le_of_ble_eq_true rfl, Nat.le_of_ble_eq_true rfl⟩) (zz_pre0V hK hP hD hS hA hE 0 rfl rfl rfl) rfl rfl hl.1 rfl (lv_room (Nat.le_of_ble_eq_true rfl)) dX9_read_25 ⟨Nat.zero_le _, Nat.zero_le _⟩) hD hS hA (fun H locs hP hD hS => ?_)
        obtain ⟨rfl, rfl⟩ := zz_e2 hf
        exact hret _ _ _ _ dX9_read_28 hP hD hS
    have hf := zz_ng hf ci16_0
    by_cases ci16_1 : u0 = (1 : Int32)
    · have hf := zz_ps hf ci16_1
      have hl : lv_has ls 2 [(0, .ref (q 0)), (1, .int (1 : Int32))] := ci16_1 ▸ hl
      refine zz_ti (y := (1 : Int32)) ci16_1.symm ?_
      refine va_aldq hx hb hK hP 20 12 rfl rfl (show zz_in (1 : Int32) 4 by decide) dX9_read_16 ?_
      refine W.eq (g2 := F0 m 17 ls [.ref (q 23)]) rfl ?_
      refine va_get (D := D) (ci := 5) (v := .int (zz_gI S 11)) (C := RX5) (T := TX5) (N := 4) hx hb hts inX5 hown hK hP 23 rfl rfl 1 (by decide) lk235 (fun _ h9 => h9) rfl dX9_read_17 ?_
      refine lv_if_eq (tgt := 29) hx hb dX9_read_20 (by decide) (fun c20 => ?_) (fun c20 => ?_)
      · have hf := zz_ps hf c20
        refine lv_aload_n hx hb dX9_read_29 rfl (lv_at hl 0 rfl) ?_
        refine va_get (D := D) (ci := 9) (v := .ref (q 17)) (C := RX9) (T := TX9) (N := 18) hx hb hts inX9 hown hK hP 0 rfl rfl 6 (by decide) lk46 (fun _ h9 => h9) rfl dX9_read_30 ?_
        refine lv_aload_n hx hb dX9_read_33 rfl (lv_at hl 0 rfl) ?_
        refine va_get (D := D) (ci := 9) (v := .ref (q 20)) (C := RX9) (T := TX9) (N := 18) hx hb hts inX9 hown hK hP 0 rfl rfl 7 (by decide) lk52 (fun _ h9 => h9) rfl dX9_read_34 ?_
        refine lv_iload_n hx hb dX9_read_37 rfl (lv_at hl 1 rfl) ?_
        refine va_aldq hx hb hK hP 20 12 rfl rfl (show zz_in (1 : Int32) 4 by decide) dX9_read_38 ?_
        refine W.eq (g2 := F0 m 39 ls [.ref (q 23), .ref (q 17)]) rfl ?_
        obtain ⟨r12, f13, f14, f15, hc16, hf⟩ := zz_b4s hf
        obtain ⟨S17, hS17, hf⟩ := zz_lts hf
        refine zz_ji (va_runV (As := [.ref (q 23)]) (rest := []) hfx (zc_X1_addFrom l D tb (q 17) (q 18) (q 19) (q 23) (q 24) (k 18) (k 19) (k 24) F  (zz_gI S 7) (zz_gA S 9) (zz_gA S 10) (zz_gI S 11) (zz_gI S 12) (zz_gI S 13) (zz_gA S 12) r12 f13 f14 f15 hc16 H.size) (cwV 1 hts gX9_read_X1_addFrom rfl rfl rfl (by decide +kernel) ⟨Nat.le_of_ble_eq_true rfl, Nat.le_of_ble_eq_true rfl⟩) (zz_preV hK hP hD hS hA hE [17, 18, 19, 23, 24] [10, 11, 14] rfl (by decide) rfl 17 rfl rfl rfl) rfl rfl hl.1 rfl (lv_room (Nat.le_of_ble_eq_true rfl)) dX9_read_39 ⟨Nat.zero_le _, Nat.zero_le _⟩) hP hD hS hA [17, 18, 19, 23, 24] rfl rfl (fun H locs hP hD hS => ?_)
        have hP : va_P D vwCl (zw_9 q k S17) H := by rw [hS17]; exact hP
        have hD : va_D A (zw_9 q k S17) := by rw [hS17]; exact hD
        obtain ⟨rfl, rfl⟩ := zz_e2 hf
        exact hret _ _ _ _ dX9_read_42 hP hD hS
      · have hf := zz_ng hf c20
        refine lv_aload_n hx hb dX9_read_23 rfl (lv_at hl 0 rfl) ?_
        refine lv_iconst (v := (1 : Int32)) hx hb dX9_read_24 (by decide) ?_
        obtain ⟨r18, S19, hc20, hf⟩ := zz_b2s hf
        refine zz_ji0 (va_runV (As := [.int (1 : Int32)]) (rest := []) hfx (zc_X9_found l D tb q k F (1 : Int32) S r18 S19 hc20 H.size) (cwV 1 hts gX9_read_X9_found rfl rfl rfl (by decide +kernel) ⟨Nat.le_of_ble_eq_true rfl, Nat.le_of_ble_eq_true rfl⟩) (zz_pre0V hK hP hD hS hA hE 0 rfl rfl rfl) rfl rfl hl.1 rfl (lv_room (Nat.le_of_ble_eq_true rfl)) dX9_read_25 ⟨Nat.zero_le _, Nat.zero_le _⟩) hD hS hA (fun H locs hP hD hS => ?_)
        obtain ⟨rfl, rfl⟩ := zz_e2 hf
        exact hret _ _ _ _ dX9_read_28 hP hD hS
    have hf := zz_ng hf ci16_1
    by_cases ci16_2 : u0 = (2 : Int32)
    · have hf := zz_ps hf ci16_2
      have hl : lv_has ls 2 [(0, .ref (q 0)), (1, .int (2 : Int32))] := ci16_2 ▸ hl
      refine zz_ti (y := (2 : Int32)) ci16_2.symm ?_
      refine va_aldq hx hb hK hP 20 12 rfl rfl (show zz_in (2 : Int32) 4 by decide) dX9_read_16 ?_
      refine W.eq (g2 := F0 m 17 ls [.ref (q 25)]) rfl ?_
      refine va_get (D := D) (ci := 5) (v := .int (zz_gI S 14)) (C := RX5) (T := TX5) (N := 4) hx hb hts inX5 hown hK hP 25 rfl rfl 1 (by decide) lk235 (fun _ h9 => h9) rfl dX9_read_17 ?_
      refine lv_if_eq (tgt := 29) hx hb dX9_read_20 (by decide) (fun c20 => ?_) (fun c20 => ?_)
      · have hf := zz_ps hf c20
        refine lv_aload_n hx hb dX9_read_29 rfl (lv_at hl 0 rfl) ?_
        refine va_get (D := D) (ci := 9) (v := .ref (q 17)) (C := RX9) (T := TX9) (N := 18) hx hb hts inX9 hown hK hP 0 rfl rfl 6 (by decide) lk46 (fun _ h9 => h9) rfl dX9_read_30 ?_
        refine lv_aload_n hx hb dX9_read_33 rfl (lv_at hl 0 rfl) ?_
        refine va_get (D := D) (ci := 9) (v := .ref (q 20)) (C := RX9) (T := TX9) (N := 18) hx hb hts inX9 hown hK hP 0 rfl rfl 7 (by decide) lk52 (fun _ h9 => h9) rfl dX9_read_34 ?_
        refine lv_iload_n hx hb dX9_read_37 rfl (lv_at hl 1 rfl) ?_
        refine va_aldq hx hb hK hP 20 12 rfl rfl (show zz_in (2 : Int32) 4 by decide) dX9_read_38 ?_
        refine W.eq (g2 := F0 m 39 ls [.ref (q 25), .ref (q 17)]) rfl ?_
        obtain ⟨r21, f22, f23, f24, hc25, hf⟩ := zz_b4s hf
        obtain ⟨S26, hS26, hf⟩ := zz_lts hf
        refine zz_ji (va_runV (As := [.ref (q 25)]) (rest := []) hfx (zc_X1_addFrom l D tb (q 17) (q 18) (q 19) (q 25) (q 26) (k 18) (k 19) (k 26) F  (zz_gI S 7) (zz_gA S 9) (zz_gA S 10) (zz_gI S 14) (zz_gI S 15) (zz_gI S 16) (zz_gA S 13) r21 f22 f23 f24 hc25 H.size) (cwV 1 hts gX9_read_X1_addFrom rfl rfl rfl (by decide +kernel) ⟨Nat.le_of_ble_eq_true rfl, Nat.le_of_ble_eq_true rfl⟩) (zz_preV hK hP hD hS hA hE [17, 18, 19, 25, 26] [10, 11, 15] rfl (by decide) rfl 17 rfl rfl rfl) rfl rfl hl.1 rfl (lv_room (Nat.le_of_ble_eq_true rfl)) dX9_read_39 ⟨Nat.zero_le _, Nat.zero_le _⟩) hP hD hS hA [17, 18, 19, 25, 26] rfl rfl (fun H locs hP hD hS => ?_)
        have hP : va_P D vwCl (zw_9 q k S26) H := by rw [hS26]; exact hP
        have hD : va_D A (zw_9 q k S26) := by rw [hS26]; exact hD
        obtain ⟨rfl, rfl⟩ := zz_e2 hf
        exact hret _ _ _ _ dX9_read_42 hP hD hS
      · have hf := zz_ng hf c20
        refine lv_aload_n hx hb dX9_read_23 rfl (lv_at hl 0 rfl) ?_
        refine lv_iconst (v := (1 : Int32)) hx hb dX9_read_24 (by decide) ?_
        obtain ⟨r27, S28, hc29, hf⟩ := zz_b2s hf
        refine zz_ji0 (va_runV (As := [.int (1 : Int32)]) (rest := []) hfx (zc_X9_found l D tb q k F (1 : Int32) S r27 S28 hc29 H.size) (cwV 1 hts gX9_read_X9_found rfl rfl rfl (by decide +kernel) ⟨Nat.le_of_ble_eq_true rfl, Nat.le_of_ble_eq_true rfl⟩) (zz_pre0V hK hP hD hS hA hE 0 rfl rfl rfl) rfl rfl hl.1 rfl (lv_room (Nat.le_of_ble_eq_true rfl)) dX9_read_25 ⟨Nat.zero_le _, Nat.zero_le _⟩) hD hS hA (fun H locs hP hD hS => ?_)
        obtain ⟨rfl, rfl⟩ := zz_e2 hf
        exact hret _ _ _ _ dX9_read_28 hP hD hS
    have hf := zz_ng hf ci16_2
    by_cases ci16_3 : u0 = (3 : Int32)
    · have hf := zz_ps hf ci16_3
      have hl : lv_has ls 2 [(0, .ref (q 0)), (1, .int (3 : Int32))] := ci16_3 ▸ hl
      refine zz_ti (y := (3 : Int32)) ci16_3.symm ?_
      refine va_aldq hx hb hK hP 20 12 rfl rfl (show zz_in (3 : Int32) 4 by decide) dX9_read_16 ?_
      refine W.eq (g2 := F0 m 17 ls [.ref (q 27)]) rfl ?_
      refine va_get (D := D) (ci := 5) (v := .int (zz_gI S 17)) (C := RX5) (T := TX5) (N := 4) hx hb hts inX5 hown hK hP 27 rfl rfl 1 (by decide) lk235 (fun _ h9 => h9) rfl dX9_read_17 ?_
      refine lv_if_eq (tgt := 29) hx hb dX9_read_20 (by decide) (fun c20 => ?_) (fun c20 => ?_)
      · have hf := zz_ps hf c20
        refine lv_aload_n hx hb dX9_read_29 rfl (lv_at hl 0 rfl) ?_
        refine va_get (D := D) (ci := 9) (v := .ref (q 17)) (C := RX9) (T := TX9) (N := 18) hx hb hts inX9 hown hK hP 0 rfl rfl 6 (by decide) lk46 (fun _ h9 => h9) rfl dX9_read_30 ?_
        refine lv_aload_n hx hb dX9_read_33 rfl (lv_at hl 0 rfl) ?_
        refine va_get (D := D) (ci := 9) (v := .ref (q 20)) (C := RX9) (T := TX9) (N := 18) hx hb hts inX9 hown hK hP 0 rfl rfl 7 (by decide) lk52 (fun _ h9 => h9) rfl dX9_read_34 ?_
        refine lv_iload_n hx hb dX9_read_37 rfl (lv_at hl 1 rfl) ?_
        refine va_aldq hx hb hK hP 20 12 rfl rfl (show zz_in (3 : Int32) 4 by decide) dX9_read_38 ?_
        refine W.eq (g2 := F0 m 39 ls [.ref (q 27), .ref (q 17)]) rfl ?_
        obtain ⟨r30, f31, f32, f33, hc34, hf⟩ := zz_b4s hf
        obtain ⟨S35, hS35, hf⟩ := zz_lts hf
        refine zz_ji (va_runV (As := [.ref (q 27)]) (rest := []) hfx (zc_X1_addFrom l D tb (q 17) (q 18) (q 19) (q 27) (q 28) (k 18) (k 19) (k 28) F  (zz_gI S 7) (zz_gA S 9) (zz_gA S 10) (zz_gI S 17) (zz_gI S 18) (zz_gI S 19) (zz_gA S 14) r30 f31 f32 f33 hc34 H.size) (cwV 1 hts gX9_read_X1_addFrom rfl rfl rfl (by decide +kernel) ⟨Nat.le_of_ble_eq_true rfl, Nat.le_of_ble_eq_true rfl⟩) (zz_preV hK hP hD hS hA hE [17, 18, 19, 27, 28] [10, 11, 16] rfl (by decide) rfl 17 rfl rfl rfl) rfl rfl hl.1 rfl (lv_room (Nat.le_of_ble_eq_true rfl)) dX9_read_39 ⟨Nat.zero_le _, Nat.zero_le _⟩) hP hD hS hA [17, 18, 19, 27, 28] rfl rfl (fun H locs hP hD hS => ?_)
        have hP : va_P D vwCl (zw_9 q k S35) H := by rw [hS35]; exact hP
        have hD : va_D A (zw_9 q k S35) := by rw [hS35]; exact hD
        obtain ⟨rfl, rfl⟩ := zz_e2 hf
        exact hret _ _ _ _ dX9_read_42 hP hD hS
      · have hf := zz_ng hf c20
        refine lv_aload_n hx hb dX9_read_23 rfl (lv_at hl 0 rfl) ?_
        refine lv_iconst (v := (1 : Int32)) hx hb dX9_read_24 (by decide) ?_
        obtain ⟨r36, S37, hc38, hf⟩ := zz_b2s hf
        refine zz_ji0 (va_runV (As := [.int (1 : Int32)]) (rest := []) hfx (zc_X9_found l D tb q k F (1 : Int32) S r36 S37 hc38 H.size) (cwV 1 hts gX9_read_X9_found rfl rfl rfl (by decide +kernel) ⟨Nat.le_of_ble_eq_true rfl, Nat.le_of_ble_eq_true rfl⟩) (zz_pre0V hK hP hD hS hA hE 0 rfl rfl rfl) rfl rfl hl.1 rfl (lv_room (Nat.le_of_ble_eq_true rfl)) dX9_read_25 ⟨Nat.zero_le _, Nat.zero_le _⟩) hD hS hA (fun H locs hP hD hS => ?_)
        obtain ⟨rfl, rfl⟩ := zz_e2 hf
        exact hret _ _ _ _ dX9_read_28 hP hD hS
    have hf := zz_ng hf ci16_3
    exact nomatch hf
  · have hf := zz_ps hf c5
    refine lv_bipush (v := (-2 : Int32)) hx hb dX9_read_8 (by decide) ?_
    obtain ⟨rfl, rfl⟩ := zz_e2 hf
    exact hret _ _ _ _ dX9_read_10 hP hD hS
def rmX9_takenFromWithout : Room := { frames := 3, cells := 0, slots := 0, locals := 75 }
set_option maxHeartbeats 4000000 in
set_option maxRecDepth 100000 in
theorem zc_X9_takenFromWithout (l : Launch) (D : va_G) (tb : Nat → Nat) (q : Nat → Nat) (k : Nat → ClassId) (F : Nat) (u0 : Int32) (S : zz_M) (r : Int64) (o1 : zz_M) (hf : pX9_takenFromWithout F u0 S = some (r, o1)) : zz_Ml l yX9_takenFromWithout wsX9_takenFromWithout rmX9_takenFromWithout D tb [((k 1), .object "CatBeat$Text"), ((k 3), .int), ((k 5), .int), ((k 7), .int), ((k 8), .int), ((k 9), .int), ((k 11), .int), ((k 13), .int), ((k 15), .int), ((k 16), .int), ((k 18), .int), ((k 19), .int), ((k 20), .object "CatBeat$Sheet"), ((k 22), .int), ((k 24), .int), ((k 26), .int), ((k 28), .int), ((k 30), .int), ((k 31), .long), ((k 32), .boolean), ((k 34), .int), ((k 35), .long), ((k 37), .int), ((k 39), .int), ((k 40), .long), ((k 41), .boolean), ((k 43), .int), ((k 44), .long), ((k 46), .long), ((k 47), .int)] [.ref (q 0), .int u0] (zw_9 q k S) (zw_9 q k o1) r := by
  refine zz_ofl (cc := cX9_takenFromWithout) (maxL := 2) (by decide) rfl (Nat.le_of_ble_eq_true rfl) ?_
  intro p e s m args below meth c A Q hfx hK hA hE hret H locs hP hD hS ls hl
  obtain ⟨hx, hb, hml, hown, hts⟩ := id hfx
  have inX9 : ∀ w ∈ u_ws RX9 TX9 18, w ∈ wsX9_takenFromWithout := by decide +kernel
  have lk70 := hts (.fieldLink RX9 70 "CatBeat" "otherRound" "LCatBeat$Round;") (by decide +kernel)
  have lk32 := hts (.fieldLink RX9 32 "CatBeat" "round" "LCatBeat$Round;") (by decide +kernel)
  have lk76 := hts (.fieldLink RX9 76 "CatBeat" "otherNight" "LCatBeat$Night;") (by decide +kernel)
  have lk59 := hts (.fieldLink RX9 59 "CatBeat" "ground" "LCatBeat$Ground;") (by decide +kernel)
  have lk19 := hts (.fieldLink RX9 19 "CatBeat" "settings" "[I") (by decide +kernel)
  have lk39 := hts (.fieldLink RX9 39 "CatBeat" "thieves" "LCatBeat$Thieves;") (by decide +kernel)
  have lk25 := hts (.fieldLink RX9 25 "CatBeat" "ward" "LCatBeat$Ward;") (by decide +kernel)
  have hl : lv_has ls 2 [(0, .ref (q 0)), (1, .int u0)] := hl
  unfold pX9_takenFromWithout at hf
  refine lv_aload_n hx hb dX9_takenFromWithout_0 rfl (lv_at hl 0 rfl) ?_
  refine va_get (D := D) (ci := 9) (v := .ref (q 36)) (C := RX9) (T := TX9) (N := 18) hx hb hts inX9 hown hK hP 0 rfl rfl 10 (by decide) lk70 (fun _ h9 => h9) rfl dX9_takenFromWithout_1 ?_
  refine lv_aload_n hx hb dX9_takenFromWithout_4 rfl (lv_at hl 0 rfl) ?_
  refine va_get (D := D) (ci := 9) (v := .ref (q 12)) (C := RX9) (T := TX9) (N := 18) hx hb hts inX9 hown hK hP 0 rfl rfl 4 (by decide) lk32 (fun _ h9 => h9) rfl dX9_takenFromWithout_5 ?_
  refine lv_iload_n hx hb dX9_takenFromWithout_8 rfl (lv_at hl 1 rfl) ?_
  refine lv_iconst (v := (-1 : Int32)) hx hb dX9_takenFromWithout_9 (by decide) ?_
  obtain ⟨f1, f2, hc3, hf⟩ := zz_b2s hf
  obtain ⟨S4, hS4, hf⟩ := zz_lts hf
  refine zz_jv (va_runV (As := [.ref (q 12), .int u0, .int (-1 : Int32)]) (rest := []) hfx (zc_X4_takeAllBut l D tb (q 36) (q 37) (q 12) (q 13) (k 37) (k 13) F u0 (-1 : Int32) (zz_gI S 21) (zz_gA S 18) (zz_gI S 5) (zz_gA S 6) f1 f2 hc3 H.size) (cwV 3 hts gX9_takenFromWithout_X4_takeAllBut rfl rfl rfl (by decide +kernel) ⟨Nat.le_of_ble_eq_true rfl, Nat.le_of_ble_eq_true rfl⟩) (zz_preV hK hP hD hS hA hE [36, 37, 12, 13] [22, 7] rfl (by decide) rfl 36 rfl rfl rfl) rfl rfl hl.1 rfl (lv_room (Nat.le_of_ble_eq_true rfl)) dX9_takenFromWithout_10 ⟨Nat.zero_le _, Nat.zero_le _⟩) hP hD hS hA [36, 37, 12, 13] rfl rfl (fun H locs hP hD hS => ?_)
  have hP : va_P D vwCl (zw_9 q k S4) H := by rw [hS4]; exact hP
  have hD : va_D A (zw_9 q k S4) := by rw [hS4]; exact hD
  refine lv_aload_n hx hb dX9_takenFromWithout_13 rfl (lv_at hl 0 rfl) ?_
  refine va_get (D := D) (ci := 9) (v := .ref (q 42)) (C := RX9) (T := TX9) (N := 18) hx hb hts inX9 hown hK hP 0 rfl rfl 12 (by decide) lk76 (fun _ h9 => h9) rfl dX9_takenFromWithout_14 ?_
  refine lv_aload_n hx hb dX9_takenFromWithout_17 rfl (lv_at hl 0 rfl) ?_
  refine va_get (D := D) (ci := 9) (v := .ref (q 29)) (C := RX9) (T := TX9) (N := 18) hx hb hts inX9 hown hK hP 0 rfl rfl 8 (by decide) lk59 (fun _ h9 => h9) rfl dX9_takenFromWithout_18 ?_
  refine lv_aload_n hx hb dX9_takenFromWithout_21 rfl (lv_at hl 0 rfl) ?_
  refine va_get (D := D) (ci := 9) (v := .ref (q 9)) (C := RX9) (T := TX9) (N := 18) hx hb hts inX9 hown hK hP 0 rfl rfl 2 (by decide) lk19 (fun _ h9 => h9) rfl dX9_takenFromWithout_22 ?_
  refine lv_iconst (v := (0 : Int32)) hx hb dX9_takenFromWithout_25 (by decide) ?_
  refine va_iald hx hb hK hP 9 5 rfl rfl (show zz_in (0 : Int32) 4 by decide) dX9_takenFromWithout_26 ?_
  refine lv_aload_n hx hb dX9_takenFromWithout_27 rfl (lv_at hl 0 rfl) ?_
  refine va_get (D := D) (ci := 9) (v := .ref (q 36)) (C := RX9) (T := TX9) (N := 18) hx hb hts inX9 hown hK hP 0 rfl rfl 10 (by decide) lk70 (fun _ h9 => h9) rfl dX9_takenFromWithout_28 ?_
  obtain ⟨f5, f6, hc7, hf⟩ := zz_b2s hf
  obtain ⟨S8, hS8, hf⟩ := zz_lts hf
  refine zz_jv (va_runV (As := [.ref (q 29), .int ((zz_gA S4 4) (Int32.toNatClampNeg (0 : Int32))), .ref (q 36)]) (rest := []) hfx (zc_X2_walk l D tb (q 42) (q 43) (q 44) (q 29) (q 30) (q 31) (q 32) (q 36) (q 37) (k 43) (k 44) (k 30) (k 31) (k 32) (k 37) F ((zz_gA S4 4) (Int32.toNatClampNeg (0 : Int32))) (zz_gA S4 21) (zz_gL S4 4) (zz_gI S4 20) (zz_gA S4 15) (zz_gL S4 1) (zz_gA S4 16) (zz_gI S4 21) (zz_gA S4 18) f5 f6 hc7 H.size) (cwV 3 hts gX9_takenFromWithout_X2_walk rfl rfl rfl (by decide +kernel) ⟨Nat.le_of_ble_eq_true rfl, Nat.le_of_ble_eq_true rfl⟩) (zz_preV hK hP hD hS hA hE [42, 43, 44, 29, 30, 31, 32, 36, 37] [26, 27, 17, 18, 19, 22] rfl (by decide) rfl 42 rfl rfl rfl) rfl rfl hl.1 rfl (lv_room (Nat.le_of_ble_eq_true rfl)) dX9_takenFromWithout_31 ⟨Nat.zero_le _, Nat.zero_le _⟩) hP hD hS hA [42, 43, 44, 29, 30, 31, 32, 36, 37] rfl rfl (fun H locs hP hD hS => ?_)
  have hP : va_P D vwCl (zw_9 q k S8) H := by rw [hS8]; exact hP
  have hD : va_D A (zw_9 q k S8) := by rw [hS8]; exact hD
  refine lv_aload_n hx hb dX9_takenFromWithout_34 rfl (lv_at hl 0 rfl) ?_
  refine va_get (D := D) (ci := 9) (v := .ref (q 14)) (C := RX9) (T := TX9) (N := 18) hx hb hts inX9 hown hK hP 0 rfl rfl 5 (by decide) lk39 (fun _ h9 => h9) rfl dX9_takenFromWithout_35 ?_
  refine lv_aload_n hx hb dX9_takenFromWithout_38 rfl (lv_at hl 0 rfl) ?_
  refine va_get (D := D) (ci := 9) (v := .ref (q 10)) (C := RX9) (T := TX9) (N := 18) hx hb hts inX9 hown hK hP 0 rfl rfl 3 (by decide) lk25 (fun _ h9 => h9) rfl dX9_takenFromWithout_39 ?_
  refine lv_aload_n hx hb dX9_takenFromWithout_42 rfl (lv_at hl 0 rfl) ?_
  refine va_get (D := D) (ci := 9) (v := .ref (q 42)) (C := RX9) (T := TX9) (N := 18) hx hb hts inX9 hown hK hP 0 rfl rfl 12 (by decide) lk76 (fun _ h9 => h9) rfl dX9_takenFromWithout_43 ?_
  refine lv_iconst (v := (-1 : Int32)) hx hb dX9_takenFromWithout_46 (by decide) ?_
  obtain ⟨r9, hc10, hf⟩ := zz_b1s hf
  refine zz_jl (va_runV (As := [.ref (q 10), .ref (q 42), .int (-1 : Int32)]) (rest := []) hfx (zc_X7_takenFrom l D tb (q 14) (q 15) (q 16) (q 10) (q 11) (q 42) (q 43) (q 44) (k 15) (k 16) (k 11) (k 43) (k 44) F (-1 : Int32) (zz_gI S8 6) (zz_gA S8 7) (zz_gA S8 8) (zz_gI S8 3) (zz_gI S8 4) (zz_gL S8 0 0) (zz_gA S8 5) (zz_gA S8 21) (zz_gL S8 4) r9 hc10 H.size) (cwV 3 hts gX9_takenFromWithout_X7_takenFrom rfl rfl rfl (by decide +kernel) ⟨Nat.le_of_ble_eq_true rfl, Nat.le_of_ble_eq_true rfl⟩) (zz_preV hK hP hD hS hA hE [14, 15, 16, 10, 11, 42, 43, 44] [8, 9, 6, 26, 27] rfl (by decide) rfl 14 rfl rfl rfl) rfl rfl hl.1 rfl (lv_room (Nat.le_of_ble_eq_true rfl)) dX9_takenFromWithout_47 ⟨Nat.zero_le _, Nat.zero_le _⟩) hP hD hS hA [14, 15, 16, 10, 11, 42, 43, 44] rfl rfl (fun H locs hP hD hS => ?_)
  have hP : va_P D vwCl (zw_9 q k S8) H := hP
  have hD : va_D A (zw_9 q k S8) := hD
  obtain ⟨rfl, rfl⟩ := zz_e2 hf
  exact hret _ _ _ _ dX9_takenFromWithout_50 hP hD hS
def rmX9_omitted : Room := { frames := 4, cells := 0, slots := 0, locals := 96 }
set_option maxHeartbeats 4000000 in
set_option maxRecDepth 100000 in
theorem zc_X9_omitted (l : Launch) (D : va_G) (tb : Nat → Nat) (q : Nat → Nat) (k : Nat → ClassId) (F : Nat)  (S : zz_M) (r : Int32) (o1 : zz_M) (hf : pX9_omitted F S = some (r, o1)) : zz_Mi l yX9_omitted wsX9_omitted rmX9_omitted D tb [((k 1), .object "CatBeat$Text"), ((k 3), .int), ((k 5), .int), ((k 7), .int), ((k 8), .int), ((k 9), .int), ((k 11), .int), ((k 13), .int), ((k 15), .int), ((k 16), .int), ((k 18), .int), ((k 19), .int), ((k 20), .object "CatBeat$Sheet"), ((k 22), .int), ((k 24), .int), ((k 26), .int), ((k 28), .int), ((k 30), .int), ((k 31), .long), ((k 32), .boolean), ((k 34), .int), ((k 35), .long), ((k 37), .int), ((k 39), .int), ((k 40), .long), ((k 41), .boolean), ((k 43), .int), ((k 44), .long), ((k 46), .long), ((k 47), .int)] [.ref (q 0)] (zw_9 q k S) (zw_9 q k o1) r := by
  refine zz_ofi (cc := cX9_omitted) (maxL := 3) (by decide) rfl (Nat.le_of_ble_eq_true rfl) ?_
  intro p e s m args below meth c A Q hfx hK hA hE hret H locs hP hD hS ls hl
  obtain ⟨hx, hb, hml, hown, hts⟩ := id hfx
  have inX9 : ∀ w ∈ u_ws RX9 TX9 18, w ∈ wsX9_omitted := by decide +kernel
  have inX4 : ∀ w ∈ u_ws RX4 TX4 2, w ∈ wsX9_omitted := by decide +kernel
  have lk32 := hts (.fieldLink RX9 32 "CatBeat" "round" "LCatBeat$Round;") (by decide +kernel)
  have lk126 := hts (.fieldLink RX9 126 "CatBeat$Round" "count" "I") (by decide +kernel)
  have lk46 := hts (.fieldLink RX9 46 "CatBeat" "missing" "LCatBeat$Missed;") (by decide +kernel)
  have hl : lv_has ls 3 [(0, .ref (q 0))] := hl
  unfold pX9_omitted at hf
  refine lv_aload_n hx hb dX9_omitted_0 rfl (lv_at hl 0 rfl) ?_
  obtain ⟨S1, hc2, hf⟩ := zz_b1s hf
  refine zz_jv0 (va_runV (As := []) (rest := []) hfx (zc_X9_settle l D tb q k F  S S1 hc2 H.size) (cwV 0 hts gX9_omitted_X9_settle rfl rfl rfl (by decide +kernel) ⟨Nat.le_of_ble_eq_true rfl, Nat.le_of_ble_eq_true rfl⟩) (zz_pre0V hK hP hD hS hA hE 0 rfl rfl rfl) rfl rfl hl.1 rfl (lv_room (Nat.le_of_ble_eq_true rfl)) dX9_omitted_1 ⟨Nat.zero_le _, Nat.zero_le _⟩) hD hS hA (fun H locs hP hD hS => ?_)
  refine lv_iconst (v := (0 : Int32)) hx hb dX9_omitted_4 (by decide) ?_
  refine lv_istore_n (lv' := [(1, .int (0 : Int32)), (0, .ref (q 0))]) hx hb dX9_omitted_5 rfl hl (by decide) rfl (fun ls hl => ?_)
  refine lv_iconst (v := (0 : Int32)) hx hb dX9_omitted_6 (by decide) ?_
  refine lv_istore_n (lv' := [(2, .int (0 : Int32)), (1, .int (0 : Int32)), (0, .ref (q 0))]) hx hb dX9_omitted_7 rfl hl (by decide) rfl (fun ls hl => ?_)
  have hLkL8_5 : ∀ (n8_5 : Nat) (x3 : Int32) (x4 : Int32) (z5 : zz_M) (H : Heap) (locs : List Loc), va_P D vwCl (zw_9 q k z5) H → va_D A (zw_9 q k z5) → va_S A s.heap H locs → ∀ ls : Array Slot, lv_has ls 3 [(0, .ref (q 0)), (1, .int x3), (2, .int x4)] → pX9_omitted_L8_5 F n8_5 x3 x4 z5 = some (r, o1) → W p l e rmX9_omitted s m args below meth c H locs 0 0 Q (F0 m 8 ls []) := by
    intro n8_5
    induction n8_5 with
    | zero =>
      intro x3 x4 z5 H locs hP hD hS ls hl hf
      exact nomatch (show (none : Option _) = some _ from hf)
    | succ n8_5 ihkL8_5 =>
      intro x3 x4 z5 H locs hP hD hS ls hl hf
      rw [pX9_omitted_L8_5] at hf
      refine lv_iload_n hx hb dX9_omitted_8 rfl (lv_at hl 2 rfl) ?_
      refine lv_aload_n hx hb dX9_omitted_9 rfl (lv_at hl 0 rfl) ?_
      refine va_get (D := D) (ci := 9) (v := .ref (q 12)) (C := RX9) (T := TX9) (N := 18) hx hb hts inX9 hown hK hP 0 rfl rfl 4 (by decide) lk32 (fun _ h9 => h9) rfl dX9_omitted_10 ?_
      refine va_get (D := D) (ci := 4) (v := .int (zz_gI z5 5)) (C := RX4) (T := TX4) (N := 2) hx hb hts inX4 hown hK hP 12 rfl rfl 1 (by decide) lk126 (fun _ h9 => h9) rfl dX9_omitted_13 ?_
      refine lv_icmp_ge (tgt := 46) hx hb dX9_omitted_16 (by decide) (fun c16 => ?_) (fun c16 => ?_)
      · have hf := zz_ps hf c16
        refine lv_iload_n hx hb dX9_omitted_46 rfl (lv_at hl 1 rfl) ?_
        obtain ⟨rfl, rfl⟩ := zz_e2 hf
        exact hret _ _ _ _ dX9_omitted_47 hP hD hS
      · have hf := zz_ng hf c16
        refine lv_aload_n hx hb dX9_omitted_19 rfl (lv_at hl 0 rfl) ?_
        refine va_get (D := D) (ci := 9) (v := .ref (q 17)) (C := RX9) (T := TX9) (N := 18) hx hb hts inX9 hown hK hP 0 rfl rfl 6 (by decide) lk46 (fun _ h9 => h9) rfl dX9_omitted_20 ?_
        refine lv_aload_n hx hb dX9_omitted_23 rfl (lv_at hl 0 rfl) ?_
        refine lv_iload_n hx hb dX9_omitted_24 rfl (lv_at hl 2 rfl) ?_
        obtain ⟨r7, S8, hc9, hf⟩ := zz_b2s hf
        refine zz_jl0 (va_runV (As := [.int x4]) (rest := [.ref (q 17)]) hfx (zc_X9_takenFromWithout l D tb q k F x4 z5 r7 S8 hc9 H.size) (cwV 1 hts gX9_omitted_X9_takenFromWithout rfl rfl rfl (by decide +kernel) ⟨Nat.le_of_ble_eq_true rfl, Nat.le_of_ble_eq_true rfl⟩) (zz_pre0V hK hP hD hS hA hE 0 rfl rfl rfl) rfl rfl hl.1 rfl (lv_room (Nat.le_of_ble_eq_true rfl)) dX9_omitted_25 ⟨Nat.zero_le _, Nat.zero_le _⟩) hD hS hA (fun H locs hP hD hS => ?_)
        obtain ⟨r10, hc11, hf⟩ := zz_b1s hf
        refine zz_ji (va_runV (As := [.long r7]) (rest := []) hfx (zc_X1_agreesWith l D tb (q 17) (q 18) (q 19) (k 18) (k 19) F r7 (zz_gI S8 7) (zz_gA S8 9) (zz_gA S8 10) r10 hc11 H.size) (cwV 1 hts gX9_omitted_X1_agreesWith rfl rfl rfl (by decide +kernel) ⟨Nat.le_of_ble_eq_true rfl, Nat.le_of_ble_eq_true rfl⟩) (zz_preV hK hP hD hS hA hE [17, 18, 19] [10, 11] rfl (by decide) rfl 17 rfl rfl rfl) rfl rfl hl.1 rfl (lv_room (Nat.le_of_ble_eq_true rfl)) dX9_omitted_28 ⟨Nat.zero_le _, Nat.zero_le _⟩) hP hD hS hA [17, 18, 19] rfl rfl (fun H locs hP hD hS => ?_)
        have hP : va_P D vwCl (zw_9 q k S8) H := hP
        have hD : va_D A (zw_9 q k S8) := hD
        obtain ⟨v12, hv12, hf⟩ := zz_lts hf
        have hK13 : ∀ ls : Array Slot, lv_has ls 3 [(0, .ref (q 0)), (1, .int v12), (2, .int x4)] → W p l e rmX9_omitted s m args below meth c H locs 0 0 Q (F0 m 40 ls []) := by
          intro ls hl
          obtain ⟨v14, hv14, hf⟩ := zz_lts hf
          refine lv_iinc (v := v14) (lv' := [(2, .int v14), (0, .ref (q 0)), (1, .int v12)]) hx hb dX9_omitted_40 hl (k := 2) rfl (by rw [hv14]; rfl) (by decide) rfl (fun ls hl => ?_)
          refine lv_goto (tgt := 8) hx hb dX9_omitted_43 (by decide) ?_
          exact ihkL8_5 v12 v14 S8 _ _ hP hD hS ls (lv_sub hl [1, 2, 0] rfl) hf
        refine lv_if_eq (tgt := 40) hx hb dX9_omitted_31 (by decide) (fun c31 => ?_) (fun c31 => ?_)
        · exact hK13 ls (by have ev12 : v12 = x3 := (by rw [hv12, if_pos c31]); rw [ev12]; exact lv_sub hl [0, 1, 2] rfl)
        · refine lv_iload_n hx hb dX9_omitted_34 rfl (lv_at hl 1 rfl) ?_
          refine lv_iconst (v := (1 : Int32)) hx hb dX9_omitted_35 (by decide) ?_
          refine lv_iload_n hx hb dX9_omitted_36 rfl (lv_at hl 2 rfl) ?_
          refine lv_ishl hx hb dX9_omitted_37 ?_
          refine lv_ior hx hb dX9_omitted_38 ?_
          refine lv_istore_n (lv' := [(1, .int (x3 ||| ((1 : Int32) <<< (x4 &&& 31)))), (0, .ref (q 0)), (2, .int x4)]) hx hb dX9_omitted_39 rfl hl (by decide) rfl (fun ls hl => ?_)
          exact hK13 ls (by have ev12 : v12 = (x3 ||| ((1 : Int32) <<< (x4 &&& 31))) := (by rw [hv12, if_neg c31]); rw [ev12]; exact lv_sub hl [1, 0, 2] rfl)
  exact hLkL8_5 F (0 : Int32) (0 : Int32) S1 _ _ hP hD hS ls (lv_sub hl [2, 1, 0] rfl) hf
def rmX9_cellsMeant : Room := { frames := 3, cells := 0, slots := 0, locals := 75 }
set_option maxHeartbeats 4000000 in
set_option maxRecDepth 100000 in
theorem zc_X9_cellsMeant (l : Launch) (D : va_G) (tb : Nat → Nat) (q : Nat → Nat) (k : Nat → ClassId) (F : Nat) (u0 : Int32) (S : zz_M) (r : Int64) (hf : pX9_cellsMeant F u0 S = some r) : zz_Ml l yX9_cellsMeant wsX9_cellsMeant rmX9_cellsMeant D tb [((k 1), .object "CatBeat$Text"), ((k 3), .int), ((k 5), .int), ((k 7), .int), ((k 8), .int), ((k 9), .int), ((k 11), .int), ((k 13), .int), ((k 15), .int), ((k 16), .int), ((k 18), .int), ((k 19), .int), ((k 20), .object "CatBeat$Sheet"), ((k 22), .int), ((k 24), .int), ((k 26), .int), ((k 28), .int), ((k 30), .int), ((k 31), .long), ((k 32), .boolean), ((k 34), .int), ((k 35), .long), ((k 37), .int), ((k 39), .int), ((k 40), .long), ((k 41), .boolean), ((k 43), .int), ((k 44), .long), ((k 46), .long), ((k 47), .int)] [.ref (q 0), .int u0] (zw_9 q k S) (zw_9 q k S) r := by
  refine zz_ofl (cc := cX9_cellsMeant) (maxL := 8) (by decide) rfl (Nat.le_of_ble_eq_true rfl) ?_
  intro p e s m args below meth c A Q hfx hK hA hE hret H locs hP hD hS ls hl
  obtain ⟨hx, hb, hml, hown, hts⟩ := id hfx
  have inX9 : ∀ w ∈ u_ws RX9 TX9 18, w ∈ wsX9_cellsMeant := by decide +kernel
  have inX8 : ∀ w ∈ u_ws RX8 TX8 4, w ∈ wsX9_cellsMeant := by decide +kernel
  have inX7 : ∀ w ∈ u_ws RX7 TX7 3, w ∈ wsX9_cellsMeant := by decide +kernel
  have lk39 := hts (.fieldLink RX9 39 "CatBeat" "thieves" "LCatBeat$Thieves;") (by decide +kernel)
  have lk25 := hts (.fieldLink RX9 25 "CatBeat" "ward" "LCatBeat$Ward;") (by decide +kernel)
  have lk66 := hts (.fieldLink RX9 66 "CatBeat" "night" "LCatBeat$Night;") (by decide +kernel)
  have lk120 := hts (.fieldLink RX9 120 "CatBeat$Ward" "count" "I") (by decide +kernel)
  have lk46 := hts (.fieldLink RX9 46 "CatBeat" "missing" "LCatBeat$Missed;") (by decide +kernel)
  have lk139 := hts (.fieldLink RX9 139 "CatBeat$Thieves" "needs" "[I") (by decide +kernel)
  have hl : lv_has ls 8 [(0, .ref (q 0)), (1, .int u0)] := hl
  unfold pX9_cellsMeant at hf
  refine lv_aload_n hx hb dX9_cellsMeant_0 rfl (lv_at hl 0 rfl) ?_
  refine va_get (D := D) (ci := 9) (v := .ref (q 14)) (C := RX9) (T := TX9) (N := 18) hx hb hts inX9 hown hK hP 0 rfl rfl 5 (by decide) lk39 (fun _ h9 => h9) rfl dX9_cellsMeant_1 ?_
  refine lv_aload_n hx hb dX9_cellsMeant_4 rfl (lv_at hl 0 rfl) ?_
  refine va_get (D := D) (ci := 9) (v := .ref (q 10)) (C := RX9) (T := TX9) (N := 18) hx hb hts inX9 hown hK hP 0 rfl rfl 3 (by decide) lk25 (fun _ h9 => h9) rfl dX9_cellsMeant_5 ?_
  refine lv_aload_n hx hb dX9_cellsMeant_8 rfl (lv_at hl 0 rfl) ?_
  refine va_get (D := D) (ci := 9) (v := .ref (q 33)) (C := RX9) (T := TX9) (N := 18) hx hb hts inX9 hown hK hP 0 rfl rfl 9 (by decide) lk66 (fun _ h9 => h9) rfl dX9_cellsMeant_9 ?_
  refine lv_iload_n hx hb dX9_cellsMeant_12 rfl (lv_at hl 1 rfl) ?_
  obtain ⟨r1, hc2, hf⟩ := zz_b1s hf
  refine zz_jl (va_runV (As := [.ref (q 10), .ref (q 33), .int u0]) (rest := []) hfx (zc_X7_takenFrom l D tb (q 14) (q 15) (q 16) (q 10) (q 11) (q 33) (q 34) (q 35) (k 15) (k 16) (k 11) (k 34) (k 35) F u0 (zz_gI S 6) (zz_gA S 7) (zz_gA S 8) (zz_gI S 3) (zz_gI S 4) (zz_gL S 0 0) (zz_gA S 5) (zz_gA S 17) (zz_gL S 2) r1 hc2 H.size) (cwV 3 hts gX9_cellsMeant_X7_takenFrom rfl rfl rfl (by decide +kernel) ⟨Nat.le_of_ble_eq_true rfl, Nat.le_of_ble_eq_true rfl⟩) (zz_preV hK hP hD hS hA hE [14, 15, 16, 10, 11, 33, 34, 35] [8, 9, 6, 20, 21] rfl (by decide) rfl 14 rfl rfl rfl) rfl rfl hl.1 rfl (lv_room (Nat.le_of_ble_eq_true rfl)) dX9_cellsMeant_13 ⟨Nat.zero_le _, Nat.zero_le _⟩) hP hD hS hA [14, 15, 16, 10, 11, 33, 34, 35] rfl rfl (fun H locs hP hD hS => ?_)
  have hP : va_P D vwCl (zw_9 q k S) H := hP
  have hD : va_D A (zw_9 q k S) := hD
  refine lv_lstore_n (lv' := [(2, .long r1), (0, .ref (q 0)), (1, .int u0)]) hx hb dX9_cellsMeant_16 rfl hl (by decide) rfl (fun ls hl => ?_)
  refine lv_lconst (v := (0 : Int64)) hx hb dX9_cellsMeant_17 (by decide) ?_
  refine lv_lstore (lv' := [(4, .long (0 : Int64)), (2, .long r1), (0, .ref (q 0)), (1, .int u0)]) hx hb dX9_cellsMeant_18 hl (by decide) rfl (fun ls hl => ?_)
  refine lv_iconst (v := (0 : Int32)) hx hb dX9_cellsMeant_20 (by decide) ?_
  refine lv_istore (lv' := [(6, .int (0 : Int32)), (4, .long (0 : Int64)), (2, .long r1), (0, .ref (q 0)), (1, .int u0)]) hx hb dX9_cellsMeant_21 hl (by decide) rfl (fun ls hl => ?_)
  have hLkL23_4 : ∀ (n23_4 : Nat) (x3 : Int64) (x4 : Int32) (H : Heap) (locs : List Loc), va_P D vwCl (zw_9 q k S) H → va_D A (zw_9 q k S) → va_S A s.heap H locs → ∀ ls : Array Slot, lv_has ls 8 [(2, .long r1), (0, .ref (q 0)), (1, .int u0), (4, .long x3), (6, .int x4)] → pX9_cellsMeant_L23_4 u0 F S r1 n23_4 x3 x4 = some r → W p l e rmX9_cellsMeant s m args below meth c H locs 0 0 Q (F0 m 23 ls []) := by
    intro n23_4
    induction n23_4 with
    | zero =>
      intro x3 x4 H locs hP hD hS ls hl hf
      exact nomatch (show (none : Option _) = some _ from hf)
    | succ n23_4 ihkL23_4 =>
      intro x3 x4 H locs hP hD hS ls hl hf
      rw [pX9_cellsMeant_L23_4] at hf
      refine lv_iload hx hb dX9_cellsMeant_23 (lv_at hl 4 rfl) ?_
      refine lv_aload_n hx hb dX9_cellsMeant_25 rfl (lv_at hl 1 rfl) ?_
      refine va_get (D := D) (ci := 9) (v := .ref (q 10)) (C := RX9) (T := TX9) (N := 18) hx hb hts inX9 hown hK hP 0 rfl rfl 3 (by decide) lk25 (fun _ h9 => h9) rfl dX9_cellsMeant_26 ?_
      refine va_get (D := D) (ci := 8) (v := .int (zz_gI S 3)) (C := RX8) (T := TX8) (N := 4) hx hb hts inX8 hown hK hP 10 rfl rfl 1 (by decide) lk120 (fun _ h9 => h9) rfl dX9_cellsMeant_29 ?_
      refine lv_icmp_ge (tgt := 116) hx hb dX9_cellsMeant_32 (by decide) (fun c32 => ?_) (fun c32 => ?_)
      · have hf := zz_ps hf c32
        refine lv_lload hx hb dX9_cellsMeant_116 (lv_at hl 3 rfl) ?_
        obtain rfl := zz_e1 hf
        exact hret _ _ _ _ dX9_cellsMeant_118 hP hD hS
      · have hf := zz_ng hf c32
        refine lv_aload_n hx hb dX9_cellsMeant_35 rfl (lv_at hl 1 rfl) ?_
        refine va_get (D := D) (ci := 9) (v := .ref (q 10)) (C := RX9) (T := TX9) (N := 18) hx hb hts inX9 hown hK hP 0 rfl rfl 3 (by decide) lk25 (fun _ h9 => h9) rfl dX9_cellsMeant_36 ?_
        refine lv_iload hx hb dX9_cellsMeant_39 (lv_at hl 4 rfl) ?_
        obtain ⟨r6, hc7, hf⟩ := zz_b1s hf
        refine zz_ji (va_runV (As := [.int x4]) (rest := []) hfx (zc_X8_isShop l D tb (q 10) (q 11) (k 11) F x4 (zz_gI S 3) (zz_gI S 4) (zz_gL S 0 0) (zz_gA S 5) r6 hc7 H.size) (cwV 1 hts gX9_cellsMeant_X8_isShop rfl rfl rfl (by decide +kernel) ⟨Nat.le_of_ble_eq_true rfl, Nat.le_of_ble_eq_true rfl⟩) (zz_preV hK hP hD hS hA hE [10, 11] [6] rfl (by decide) rfl 10 rfl rfl rfl) rfl rfl hl.1 rfl (lv_room (Nat.le_of_ble_eq_true rfl)) dX9_cellsMeant_41 ⟨Nat.zero_le _, Nat.zero_le _⟩) hP hD hS hA [10, 11] rfl rfl (fun H locs hP hD hS => ?_)
        have hP : va_P D vwCl (zw_9 q k S) H := hP
        have hD : va_D A (zw_9 q k S) := hD
        obtain ⟨j74_9, hj74_9, hf⟩ := zz_lts hf
        have Kj74_9 : ∀ (y8 : Int32) (H : Heap) (locs : List Loc), va_P D vwCl (zw_9 q k S) H → va_D A (zw_9 q k S) → va_S A s.heap H locs → ∀ ls : Array Slot, lv_has ls 8 [(2, .long r1), (0, .ref (q 0)), (1, .int u0), (4, .long x3), (6, .int x4)] → j74_9 y8 = some r → W p l e rmX9_cellsMeant s m args below meth c H locs 0 0 Q (F0 m 74 ls [.int y8]) := by
          intro y8 H locs hP hD hS ls hl hf
          rw [hj74_9] at hf
          refine lv_istore (lv' := [(7, .int y8), (2, .long r1), (0, .ref (q 0)), (1, .int u0), (4, .long x3), (6, .int x4)]) hx hb dX9_cellsMeant_74 hl (by decide) rfl (fun ls hl => ?_)
          refine lv_aload_n hx hb dX9_cellsMeant_76 rfl (lv_at hl 2 rfl) ?_
          refine va_get (D := D) (ci := 9) (v := .ref (q 17)) (C := RX9) (T := TX9) (N := 18) hx hb hts inX9 hown hK hP 0 rfl rfl 6 (by decide) lk46 (fun _ h9 => h9) rfl dX9_cellsMeant_77 ?_
          refine lv_iload hx hb dX9_cellsMeant_80 (lv_at hl 0 rfl) ?_
          obtain ⟨v10, hv10, hf⟩ := zz_lts hf
          have hK11 : ∀ ls : Array Slot, lv_has ls 8 [(2, .long r1), (0, .ref (q 0)), (1, .int u0), (4, .long x3), (6, .int x4)] → W p l e rmX9_cellsMeant s m args below meth c H locs 0 0 Q (F0 m 95 ls [.long v10, .ref (q 17)]) := by
            intro ls hl
            obtain ⟨r12, hc13, hf⟩ := zz_b1s hf
            refine zz_ji (va_runV (As := [.long v10]) (rest := []) hfx (zc_X1_agreesWith l D tb (q 17) (q 18) (q 19) (k 18) (k 19) F v10 (zz_gI S 7) (zz_gA S 9) (zz_gA S 10) r12 hc13 H.size) (cwV 1 hts gX9_cellsMeant_X1_agreesWith rfl rfl rfl (by decide +kernel) ⟨Nat.le_of_ble_eq_true rfl, Nat.le_of_ble_eq_true rfl⟩) (zz_preV hK hP hD hS hA hE [17, 18, 19] [10, 11] rfl (by decide) rfl 17 rfl rfl rfl) rfl rfl hl.1 rfl (lv_room (Nat.le_of_ble_eq_true rfl)) dX9_cellsMeant_95 ⟨Nat.zero_le _, Nat.zero_le _⟩) hP hD hS hA [17, 18, 19] rfl rfl (fun H locs hP hD hS => ?_)
            have hP : va_P D vwCl (zw_9 q k S) H := hP
            have hD : va_D A (zw_9 q k S) := hD
            obtain ⟨v14, hv14, hf⟩ := zz_lts hf
            have hK15 : ∀ ls : Array Slot, lv_has ls 8 [(2, .long r1), (0, .ref (q 0)), (1, .int u0), (4, .long v14), (6, .int x4)] → W p l e rmX9_cellsMeant s m args below meth c H locs 0 0 Q (F0 m 110 ls []) := by
              intro ls hl
              obtain ⟨v16, hv16, hf⟩ := zz_lts hf
              refine lv_iinc (v := v16) (lv' := [(6, .int v16), (2, .long r1), (0, .ref (q 0)), (1, .int u0), (4, .long v14)]) hx hb dX9_cellsMeant_110 hl (k := 4) rfl (by rw [hv16]; rfl) (by decide) rfl (fun ls hl => ?_)
              refine lv_goto (tgt := 23) hx hb dX9_cellsMeant_113 (by decide) ?_
              exact ihkL23_4 v14 v16 _ _ hP hD hS ls (lv_sub hl [1, 2, 3, 4, 0] rfl) hf
            refine lv_if_eq (tgt := 110) hx hb dX9_cellsMeant_98 (by decide) (fun c98 => ?_) (fun c98 => ?_)
            · exact hK15 ls (by have ev14 : v14 = x3 := (by rw [hv14, if_pos c98]); rw [ev14]; exact lv_sub hl [0, 1, 2, 3, 4] rfl)
            · refine lv_lload hx hb dX9_cellsMeant_101 (lv_at hl 3 rfl) ?_
              refine lv_lconst (v := (1 : Int64)) hx hb dX9_cellsMeant_103 (by decide) ?_
              refine lv_iload hx hb dX9_cellsMeant_104 (lv_at hl 4 rfl) ?_
              refine lv_lshl (v := (zz_lshl (1 : Int64) x4)) hx hb dX9_cellsMeant_106 rfl ?_
              refine lv_lor hx hb dX9_cellsMeant_107 ?_
              refine lv_lstore (lv' := [(4, .long (x3 ||| (zz_lshl (1 : Int64) x4))), (2, .long r1), (0, .ref (q 0)), (1, .int u0), (6, .int x4)]) hx hb dX9_cellsMeant_108 hl (by decide) rfl (fun ls hl => ?_)
              exact hK15 ls (by have ev14 : v14 = (x3 ||| (zz_lshl (1 : Int64) x4)) := (by rw [hv14, if_neg c98]); rw [ev14]; exact lv_sub hl [1, 2, 3, 0, 4] rfl)
          refine lv_if_eq (tgt := 94) hx hb dX9_cellsMeant_82 (by decide) (fun c82 => ?_) (fun c82 => ?_)
          · refine lv_lload_n hx hb dX9_cellsMeant_94 rfl (lv_at hl 1 rfl) ?_
            refine zz_tl (show v10 = r1 by rw [hv10, if_pos c82]) ?_
            exact hK11 ls (lv_sub hl [1, 2, 3, 4, 5] rfl)
          · refine lv_lload_n hx hb dX9_cellsMeant_85 rfl (lv_at hl 1 rfl) ?_
            refine lv_lconst (v := (1 : Int64)) hx hb dX9_cellsMeant_86 (by decide) ?_
            refine lv_iload hx hb dX9_cellsMeant_87 (lv_at hl 5 rfl) ?_
            refine lv_lshl (v := (zz_lshl (1 : Int64) x4)) hx hb dX9_cellsMeant_89 rfl ?_
            refine lv_lor hx hb dX9_cellsMeant_90 ?_
            refine lv_goto (tgt := 95) hx hb dX9_cellsMeant_91 (by decide) ?_
            refine zz_tl (show v10 = (r1 ||| (zz_lshl (1 : Int64) x4)) by rw [hv10, if_neg c82]) ?_
            exact hK11 ls (lv_sub hl [1, 2, 3, 4, 5] rfl)
        obtain ⟨j73_17, hj73_17, hf⟩ := zz_lts hf
        have Kj73_17 : ∀  (H : Heap) (locs : List Loc), va_P D vwCl (zw_9 q k S) H → va_D A (zw_9 q k S) → va_S A s.heap H locs → ∀ ls : Array Slot, lv_has ls 8 [(2, .long r1), (0, .ref (q 0)), (1, .int u0), (4, .long x3), (6, .int x4)] → j73_17 () = some r → W p l e rmX9_cellsMeant s m args below meth c H locs 0 0 Q (F0 m 73 ls []) := by
          intro  H locs hP hD hS ls hl hf
          rw [hj73_17] at hf
          refine lv_iconst (v := (0 : Int32)) hx hb dX9_cellsMeant_73 (by decide) ?_
          exact Kj74_9 (0 : Int32) _ _ hP hD hS ls (lv_sub hl [0, 1, 2, 3, 4] rfl) hf
        refine lv_if_eq (tgt := 73) hx hb dX9_cellsMeant_44 (by decide) (fun c44 => ?_) (fun c44 => ?_)
        · have hf := zz_ps hf c44
          exact Kj73_17  _ _ hP hD hS ls (lv_sub hl [0, 1, 2, 3, 4] rfl) hf
        · have hf := zz_ng hf c44
          refine lv_aload_n hx hb dX9_cellsMeant_47 rfl (lv_at hl 1 rfl) ?_
          refine va_get (D := D) (ci := 9) (v := .ref (q 33)) (C := RX9) (T := TX9) (N := 18) hx hb hts inX9 hown hK hP 0 rfl rfl 9 (by decide) lk66 (fun _ h9 => h9) rfl dX9_cellsMeant_48 ?_
          refine lv_iload hx hb dX9_cellsMeant_51 (lv_at hl 4 rfl) ?_
          refine lv_aload_n hx hb dX9_cellsMeant_53 rfl (lv_at hl 1 rfl) ?_
          refine va_get (D := D) (ci := 9) (v := .ref (q 14)) (C := RX9) (T := TX9) (N := 18) hx hb hts inX9 hown hK hP 0 rfl rfl 5 (by decide) lk39 (fun _ h9 => h9) rfl dX9_cellsMeant_54 ?_
          refine va_get (D := D) (ci := 7) (v := .ref (q 16)) (C := RX7) (T := TX7) (N := 3) hx hb hts inX7 hown hK hP 14 rfl rfl 1 (by decide) lk139 (fun _ h9 => h9) rfl dX9_cellsMeant_57 ?_
          refine lv_iload_n hx hb dX9_cellsMeant_60 rfl (lv_at hl 2 rfl) ?_
          obtain ⟨hg18, hf⟩ := zz_gd hf
          refine va_iald hx hb hK hP 16 9 rfl rfl hg18 dX9_cellsMeant_61 ?_
          obtain ⟨r19, hc20, hf⟩ := zz_b1s hf
          refine zz_ji (va_runV (As := [.int x4, .int ((zz_gA S 8) (Int32.toNatClampNeg u0))]) (rest := []) hfx (zc_X2_endOfUnseen l D tb (q 33) (q 34) (q 35) (k 34) (k 35) F x4 ((zz_gA S 8) (Int32.toNatClampNeg u0)) (zz_gA S 17) (zz_gL S 2) r19 hc20 H.size) (cwV 2 hts gX9_cellsMeant_X2_endOfUnseen rfl rfl rfl (by decide +kernel) ⟨Nat.le_of_ble_eq_true rfl, Nat.le_of_ble_eq_true rfl⟩) (zz_preV hK hP hD hS hA hE [33, 34, 35] [20, 21] rfl (by decide) rfl 33 rfl rfl rfl) rfl rfl hl.1 rfl (lv_room (Nat.le_of_ble_eq_true rfl)) dX9_cellsMeant_62 ⟨Nat.zero_le _, Nat.zero_le _⟩) hP hD hS hA [33, 34, 35] rfl rfl (fun H locs hP hD hS => ?_)
          have hP : va_P D vwCl (zw_9 q k S) H := hP
          have hD : va_D A (zw_9 q k S) := hD
          refine lv_iconst (v := (-1 : Int32)) hx hb dX9_cellsMeant_65 (by decide) ?_
          refine lv_icmp_eq (tgt := 73) hx hb dX9_cellsMeant_66 (by decide) (fun c66 => ?_) (fun c66 => ?_)
          · have hf := zz_ps hf c66
            exact Kj73_17  _ _ hP hD hS ls (lv_sub hl [0, 1, 2, 3, 4] rfl) hf
          · have hf := zz_ng hf c66
            refine lv_iconst (v := (1 : Int32)) hx hb dX9_cellsMeant_69 (by decide) ?_
            refine lv_goto (tgt := 74) hx hb dX9_cellsMeant_70 (by decide) ?_
            exact Kj74_9 (1 : Int32) _ _ hP hD hS ls (lv_sub hl [0, 1, 2, 3, 4] rfl) hf
  exact hLkL23_4 F (0 : Int64) (0 : Int32) _ _ hP hD hS ls (lv_sub hl [2, 3, 4, 1, 0] rfl) hf
def rmX9_meant : Room := { frames := 4, cells := 0, slots := 0, locals := 102 }
set_option maxHeartbeats 4000000 in
set_option maxRecDepth 100000 in
theorem zc_X9_meant (l : Launch) (D : va_G) (tb : Nat → Nat) (q : Nat → Nat) (k : Nat → ClassId) (F : Nat) (u0 : Int32) (u1 : Int32) (S : zz_M) (r : Int32) (o1 : zz_M) (hf : pX9_meant F u0 u1 S = some (r, o1)) : zz_Mi l yX9_meant wsX9_meant rmX9_meant D tb [((k 1), .object "CatBeat$Text"), ((k 3), .int), ((k 5), .int), ((k 7), .int), ((k 8), .int), ((k 9), .int), ((k 11), .int), ((k 13), .int), ((k 15), .int), ((k 16), .int), ((k 18), .int), ((k 19), .int), ((k 20), .object "CatBeat$Sheet"), ((k 22), .int), ((k 24), .int), ((k 26), .int), ((k 28), .int), ((k 30), .int), ((k 31), .long), ((k 32), .boolean), ((k 34), .int), ((k 35), .long), ((k 37), .int), ((k 39), .int), ((k 40), .long), ((k 41), .boolean), ((k 43), .int), ((k 44), .long), ((k 46), .long), ((k 47), .int)] [.ref (q 0), .int u0, .int u1] (zw_9 q k S) (zw_9 q k o1) r := by
  refine zz_ofi (cc := cX9_meant) (maxL := 5) (by decide) rfl (Nat.le_of_ble_eq_true rfl) ?_
  intro p e s m args below meth c A Q hfx hK hA hE hret H locs hP hD hS ls hl
  obtain ⟨hx, hb, hml, hown, hts⟩ := id hfx
  have hl : lv_has ls 5 [(0, .ref (q 0)), (1, .int u0), (2, .int u1)] := hl
  unfold pX9_meant at hf
  refine lv_aload_n hx hb dX9_meant_0 rfl (lv_at hl 0 rfl) ?_
  refine lv_iload_n hx hb dX9_meant_1 rfl (lv_at hl 1 rfl) ?_
  obtain ⟨r1, hc2, hf⟩ := zz_b1s hf
  refine zz_ji0 (va_runV (As := [.int u0]) (rest := []) hfx (zc_X9_isThief l D tb q k F u0 S r1 hc2 H.size) (cwV 1 hts gX9_meant_X9_isThief rfl rfl rfl (by decide +kernel) ⟨Nat.le_of_ble_eq_true rfl, Nat.le_of_ble_eq_true rfl⟩) (zz_pre0V hK hP hD hS hA hE 0 rfl rfl rfl) rfl rfl hl.1 rfl (lv_room (Nat.le_of_ble_eq_true rfl)) dX9_meant_2 ⟨Nat.zero_le _, Nat.zero_le _⟩) hD hS hA (fun H locs hP hD hS => ?_)
  obtain ⟨j19_3, hj19_3, hf⟩ := zz_lts hf
  have Kj19_3 : ∀  (H : Heap) (locs : List Loc), va_P D vwCl (zw_9 q k S) H → va_D A (zw_9 q k S) → va_S A s.heap H locs → ∀ ls : Array Slot, lv_has ls 5 [] → j19_3 () = some (r, o1) → W p l e rmX9_meant s m args below meth c H locs 0 0 Q (F0 m 19 ls []) := by
    intro  H locs hP hD hS ls hl hf
    rw [hj19_3] at hf
    refine lv_bipush (v := (-2 : Int32)) hx hb dX9_meant_19 (by decide) ?_
    obtain ⟨rfl, rfl⟩ := zz_e2 hf
    exact hret _ _ _ _ dX9_meant_21 hP hD hS
  refine lv_if_eq (tgt := 19) hx hb dX9_meant_5 (by decide) (fun c5 => ?_) (fun c5 => ?_)
  · have hf := zz_ps hf c5
    exact Kj19_3  _ _ hP hD hS ls (lv_sub hl [] rfl) hf
  · have hf := zz_ng hf c5
    refine lv_iload_n hx hb dX9_meant_8 rfl (lv_at hl 2 rfl) ?_
    refine lv_iconst (v := (-1 : Int32)) hx hb dX9_meant_9 (by decide) ?_
    refine lv_icmp_lt (tgt := 19) hx hb dX9_meant_10 (by decide) (fun c10 => ?_) (fun c10 => ?_)
    · have hf := zz_ps hf c10
      exact Kj19_3  _ _ hP hD hS ls (lv_sub hl [] rfl) hf
    · have hf := zz_ng hf c10
      refine lv_iload_n hx hb dX9_meant_13 rfl (lv_at hl 2 rfl) ?_
      refine lv_bipush (v := (36 : Int32)) hx hb dX9_meant_14 (by decide) ?_
      refine lv_icmp_lt (tgt := 22) hx hb dX9_meant_16 (by decide) (fun c16 => ?_) (fun c16 => ?_)
      · have hf := zz_ps hf c16
        refine lv_aload_n hx hb dX9_meant_22 rfl (lv_at hl 0 rfl) ?_
        obtain ⟨S4, hc5, hf⟩ := zz_b1s hf
        refine zz_jv0 (va_runV (As := []) (rest := []) hfx (zc_X9_settle l D tb q k F  S S4 hc5 H.size) (cwV 0 hts gX9_meant_X9_settle rfl rfl rfl (by decide +kernel) ⟨Nat.le_of_ble_eq_true rfl, Nat.le_of_ble_eq_true rfl⟩) (zz_pre0V hK hP hD hS hA hE 0 rfl rfl rfl) rfl rfl hl.1 rfl (lv_room (Nat.le_of_ble_eq_true rfl)) dX9_meant_23 ⟨Nat.zero_le _, Nat.zero_le _⟩) hD hS hA (fun H locs hP hD hS => ?_)
        refine lv_aload_n hx hb dX9_meant_26 rfl (lv_at hl 0 rfl) ?_
        refine lv_iload_n hx hb dX9_meant_27 rfl (lv_at hl 1 rfl) ?_
        obtain ⟨r6, hc7, hf⟩ := zz_b1s hf
        refine zz_jl0 (va_runV (As := [.int u0]) (rest := []) hfx (zc_X9_cellsMeant l D tb q k F u0 S4 r6 hc7 H.size) (cwV 1 hts gX9_meant_X9_cellsMeant rfl rfl rfl (by decide +kernel) ⟨Nat.le_of_ble_eq_true rfl, Nat.le_of_ble_eq_true rfl⟩) (zz_pre0V hK hP hD hS hA hE 0 rfl rfl rfl) rfl rfl hl.1 rfl (lv_room (Nat.le_of_ble_eq_true rfl)) dX9_meant_28 ⟨Nat.zero_le _, Nat.zero_le _⟩) hD hS hA (fun H locs hP hD hS => ?_)
        refine lv_lstore_n (lv' := [(3, .long r6), (0, .ref (q 0)), (1, .int u0), (2, .int u1)]) hx hb dX9_meant_31 rfl hl (by decide) rfl (fun ls hl => ?_)
        refine lv_iload_n hx hb dX9_meant_32 rfl (lv_at hl 3 rfl) ?_
        refine lv_iconst (v := (-1 : Int32)) hx hb dX9_meant_33 (by decide) ?_
        obtain ⟨j49_9, hj49_9, hf⟩ := zz_lts hf
        have Kj49_9 : ∀ (y8 : Int32) (H : Heap) (locs : List Loc), va_P D vwCl (zw_9 q k S4) H → va_D A (zw_9 q k S4) → va_S A s.heap H locs → ∀ ls : Array Slot, lv_has ls 5 [] → j49_9 y8 = some (r, o1) → W p l e rmX9_meant s m args below meth c H locs 0 0 Q (F0 m 49 ls [.int y8]) := by
          intro y8 H locs hP hD hS ls hl hf
          rw [hj49_9] at hf
          obtain ⟨rfl, rfl⟩ := zz_e2 hf
          exact hret _ _ _ _ dX9_meant_49 hP hD hS
        refine lv_icmp_ne (tgt := 44) hx hb dX9_meant_34 (by decide) (fun c34 => ?_) (fun c34 => ?_)
        · have hf := zz_ng hf c34
          refine lv_lload_n hx hb dX9_meant_44 rfl (lv_at hl 0 rfl) ?_
          refine lv_iload_n hx hb dX9_meant_45 rfl (lv_at hl 3 rfl) ?_
          obtain ⟨r10, hc11, hf⟩ := zz_b1s hf
          refine zz_ji (va_runS (As := [.long r6, .int u1]) (rest := []) hfx (zc_X9_placeOfBit l D tb  F r6 u1  r10 hc11 H.size) (va_cwS 2 hts gX9_meant_X9_placeOfBit rfl rfl rfl (by decide +kernel) ⟨Nat.le_of_ble_eq_true rfl, Nat.le_of_ble_eq_true rfl⟩) (zz_preS hK hP hD hS hA hE [] [] rfl (by decide) rfl) rfl rfl hl.1 rfl (lv_room (Nat.le_of_ble_eq_true rfl)) dX9_meant_46 ⟨Nat.zero_le _, Nat.zero_le _⟩) hP hD hS hA [] rfl rfl (fun H locs hP hD hS => ?_)
          have hP : va_P D vwCl (zw_9 q k S4) H := hP
          have hD : va_D A (zw_9 q k S4) := hD
          exact Kj49_9 r10 _ _ hP hD hS ls (lv_sub hl [] rfl) hf
        · have hf := zz_ps hf c34
          refine lv_lload_n hx hb dX9_meant_37 rfl (lv_at hl 0 rfl) ?_
          obtain ⟨r12, hc13, hf⟩ := zz_b1s hf
          refine zz_ji (va_runS (As := [.long r6]) (rest := []) hfx (zc_J13_bitCount_95d88 l D tb  F r6  r12 hc13 H.size) (va_cwS 1 hts gX9_meant_J13_bitCount_95d88 rfl rfl rfl (by decide +kernel) ⟨Nat.le_of_ble_eq_true rfl, Nat.le_of_ble_eq_true rfl⟩) (zz_preS hK hP hD hS hA hE [] [] rfl (by decide) rfl) rfl rfl hl.1 rfl (lv_room (Nat.le_of_ble_eq_true rfl)) dX9_meant_38 ⟨Nat.zero_le _, Nat.zero_le _⟩) hP hD hS hA [] rfl rfl (fun H locs hP hD hS => ?_)
          have hP : va_P D vwCl (zw_9 q k S4) H := hP
          have hD : va_D A (zw_9 q k S4) := hD
          refine lv_goto (tgt := 49) hx hb dX9_meant_41 (by decide) ?_
          exact Kj49_9 r12 _ _ hP hD hS ls (lv_sub hl [] rfl) hf
      · have hf := zz_ng hf c16
        exact Kj19_3  _ _ hP hD hS ls (lv_sub hl [] rfl) hf
def rmX9_countTakings : Room := { frames := 0, cells := 0, slots := 0, locals := 0 }
set_option maxHeartbeats 4000000 in
set_option maxRecDepth 100000 in
theorem zc_X9_countTakings (l : Launch) (D : va_G) (tb : Nat → Nat) (q : Nat → Nat) (k : Nat → ClassId) (F : Nat) (u0 : Int64) (S : zz_M) (o0 : zz_M) (hf : pX9_countTakings F u0 S = some o0) : zz_Mv l yX9_countTakings wsX9_countTakings rmX9_countTakings D tb [((k 1), .object "CatBeat$Text"), ((k 3), .int), ((k 5), .int), ((k 7), .int), ((k 8), .int), ((k 9), .int), ((k 11), .int), ((k 13), .int), ((k 15), .int), ((k 16), .int), ((k 18), .int), ((k 19), .int), ((k 20), .object "CatBeat$Sheet"), ((k 22), .int), ((k 24), .int), ((k 26), .int), ((k 28), .int), ((k 30), .int), ((k 31), .long), ((k 32), .boolean), ((k 34), .int), ((k 35), .long), ((k 37), .int), ((k 39), .int), ((k 40), .long), ((k 41), .boolean), ((k 43), .int), ((k 44), .long), ((k 46), .long), ((k 47), .int)] [.ref (q 0), .long u0] (zw_9 q k S) (zw_9 q k o0)  := by
  refine zz_ofv (cc := cX9_countTakings) (maxL := 4) (by decide) rfl (Nat.le_of_ble_eq_true rfl) ?_
  intro p e s m args below meth c A Q hfx hK hA hE hret H locs hP hD hS ls hl
  obtain ⟨hx, hb, hml, hown, hts⟩ := id hfx
  have inX9 : ∀ w ∈ u_ws RX9 TX9 18, w ∈ wsX9_countTakings := by decide +kernel
  have lk86 := hts (.fieldLink RX9 86 "CatBeat" "takings" "[I") (by decide +kernel)
  have hl : lv_has ls 4 [(0, .ref (q 0)), (1, .long u0)] := hl
  unfold pX9_countTakings at hf
  refine lv_iconst (v := (0 : Int32)) hx hb dX9_countTakings_0 (by decide) ?_
  refine lv_istore_n (lv' := [(3, .int (0 : Int32)), (0, .ref (q 0)), (1, .long u0)]) hx hb dX9_countTakings_1 rfl hl (by decide) rfl (fun ls hl => ?_)
  have hLkL2_2 : ∀ (n2_2 : Nat) (x1 : Int32) (z2 : zz_M) (H : Heap) (locs : List Loc), va_P D vwCl (zw_9 q k z2) H → va_D A (zw_9 q k z2) → va_S A s.heap H locs → ∀ ls : Array Slot, lv_has ls 4 [(0, .ref (q 0)), (1, .long u0), (3, .int x1)] → pX9_countTakings_L2_2 u0 n2_2 x1 z2 = some o0 → W p l e rmX9_countTakings s m args below meth c H locs 0 0 Q (F0 m 2 ls []) := by
    intro n2_2
    induction n2_2 with
    | zero =>
      intro x1 z2 H locs hP hD hS ls hl hf
      exact nomatch (show (none : Option _) = some _ from hf)
    | succ n2_2 ihkL2_2 =>
      intro x1 z2 H locs hP hD hS ls hl hf
      rw [pX9_countTakings_L2_2] at hf
      refine lv_iload_n hx hb dX9_countTakings_2 rfl (lv_at hl 2 rfl) ?_
      refine lv_aload_n hx hb dX9_countTakings_3 rfl (lv_at hl 0 rfl) ?_
      refine va_get (D := D) (ci := 9) (v := .ref (q 47)) (C := RX9) (T := TX9) (N := 18) hx hb hts inX9 hown hK hP 0 rfl rfl 14 (by decide) lk86 (fun _ h9 => h9) rfl dX9_countTakings_4 ?_
      refine va_alen (v := (36 : Int32)) hx hb hK hP 47 29 rfl rfl rfl dX9_countTakings_7 ?_
      refine lv_icmp_ge (tgt := 32) hx hb dX9_countTakings_8 (by decide) (fun c8 => ?_) (fun c8 => ?_)
      · have hf := zz_ps hf c8
        obtain rfl := zz_e1 hf
        exact hret _ _ _ _ dX9_countTakings_32 hP hD hS
      · have hf := zz_ng hf c8
        refine lv_aload_n hx hb dX9_countTakings_11 rfl (lv_at hl 0 rfl) ?_
        refine va_get (D := D) (ci := 9) (v := .ref (q 47)) (C := RX9) (T := TX9) (N := 18) hx hb hts inX9 hown hK hP 0 rfl rfl 14 (by decide) lk86 (fun _ h9 => h9) rfl dX9_countTakings_12 ?_
        refine lv_iload_n hx hb dX9_countTakings_15 rfl (lv_at hl 2 rfl) ?_
        refine lv_dup2_11 hx hb dX9_countTakings_16 rfl rfl ?_
        obtain ⟨hg4, hf⟩ := zz_gd hf
        refine va_iald hx hb hK hP 47 29 rfl rfl hg4 dX9_countTakings_17 ?_
        refine lv_lload_n hx hb dX9_countTakings_18 rfl (lv_at hl 1 rfl) ?_
        refine lv_iload_n hx hb dX9_countTakings_19 rfl (lv_at hl 2 rfl) ?_
        refine lv_lushr (v := (zz_lushr u0 x1)) hx hb dX9_countTakings_20 rfl ?_
        refine lv_lconst (v := (1 : Int64)) hx hb dX9_countTakings_21 (by decide) ?_
        refine lv_land hx hb dX9_countTakings_22 ?_
        refine lv_l2i (v := (Int64.toInt32 ((zz_lushr u0 x1) &&& (1 : Int64)))) hx hb dX9_countTakings_23 rfl ?_
        refine lv_iadd hx hb dX9_countTakings_24 ?_
        obtain ⟨hg5, hf⟩ := zz_gd hf
        obtain ⟨S6, hS6, hf⟩ := zz_lts hf
        refine va_iast hx hb hK hP hD hS 47 29 rfl rfl hg5 dX9_countTakings_25 (fun H locs hP hD hS => ?_)
        have hP : va_P D vwCl (zw_9 q k S6) H := by rw [hS6]; exact hP
        have hD : va_D A (zw_9 q k S6) := by rw [hS6]; exact hD
        obtain ⟨v7, hv7, hf⟩ := zz_lts hf
        refine lv_iinc (v := v7) (lv' := [(3, .int v7), (0, .ref (q 0)), (1, .long u0)]) hx hb dX9_countTakings_26 hl (k := 2) rfl (by rw [hv7]; rfl) (by decide) rfl (fun ls hl => ?_)
        refine lv_goto (tgt := 2) hx hb dX9_countTakings_29 (by decide) ?_
        exact ihkL2_2 v7 S6 _ _ hP hD hS ls (lv_sub hl [1, 2, 0] rfl) hf
  exact hLkL2_2 F (0 : Int32) S _ _ hP hD hS ls (lv_sub hl [1, 2, 0] rfl) hf
def rmX9_mostTellingShop : Room := { frames := 1, cells := 0, slots := 0, locals := 21 }
set_option maxHeartbeats 4000000 in
set_option maxRecDepth 100000 in
theorem zc_X9_mostTellingShop (l : Launch) (D : va_G) (tb : Nat → Nat) (q : Nat → Nat) (k : Nat → ClassId) (F : Nat) (u0 : Int32) (S : zz_M) (r : Int32) (hf : pX9_mostTellingShop F u0 S = some r) : zz_Mi l yX9_mostTellingShop wsX9_mostTellingShop rmX9_mostTellingShop D tb [((k 1), .object "CatBeat$Text"), ((k 3), .int), ((k 5), .int), ((k 7), .int), ((k 8), .int), ((k 9), .int), ((k 11), .int), ((k 13), .int), ((k 15), .int), ((k 16), .int), ((k 18), .int), ((k 19), .int), ((k 20), .object "CatBeat$Sheet"), ((k 22), .int), ((k 24), .int), ((k 26), .int), ((k 28), .int), ((k 30), .int), ((k 31), .long), ((k 32), .boolean), ((k 34), .int), ((k 35), .long), ((k 37), .int), ((k 39), .int), ((k 40), .long), ((k 41), .boolean), ((k 43), .int), ((k 44), .long), ((k 46), .long), ((k 47), .int)] [.ref (q 0), .int u0] (zw_9 q k S) (zw_9 q k S) r := by
  refine zz_ofi (cc := cX9_mostTellingShop) (maxL := 6) (by decide) rfl (Nat.le_of_ble_eq_true rfl) ?_
  intro p e s m args below meth c A Q hfx hK hA hE hret H locs hP hD hS ls hl
  obtain ⟨hx, hb, hml, hown, hts⟩ := id hfx
  have inX9 : ∀ w ∈ u_ws RX9 TX9 18, w ∈ wsX9_mostTellingShop := by decide +kernel
  have inX8 : ∀ w ∈ u_ws RX8 TX8 4, w ∈ wsX9_mostTellingShop := by decide +kernel
  have lk25 := hts (.fieldLink RX9 25 "CatBeat" "ward" "LCatBeat$Ward;") (by decide +kernel)
  have lk120 := hts (.fieldLink RX9 120 "CatBeat$Ward" "count" "I") (by decide +kernel)
  have lk86 := hts (.fieldLink RX9 86 "CatBeat" "takings" "[I") (by decide +kernel)
  have lkm420 := hts (.methodLink RX9 420 Lib.Math.max.name) (by decide +kernel)
  have hl : lv_has ls 6 [(0, .ref (q 0)), (1, .int u0)] := hl
  unfold pX9_mostTellingShop at hf
  refine lv_iconst (v := (-1 : Int32)) hx hb dX9_mostTellingShop_0 (by decide) ?_
  refine lv_istore_n (lv' := [(2, .int (-1 : Int32)), (0, .ref (q 0)), (1, .int u0)]) hx hb dX9_mostTellingShop_1 rfl hl (by decide) rfl (fun ls hl => ?_)
  refine lv_iconst (v := (0 : Int32)) hx hb dX9_mostTellingShop_2 (by decide) ?_
  refine lv_istore_n (lv' := [(3, .int (0 : Int32)), (2, .int (-1 : Int32)), (0, .ref (q 0)), (1, .int u0)]) hx hb dX9_mostTellingShop_3 rfl hl (by decide) rfl (fun ls hl => ?_)
  refine lv_iconst (v := (0 : Int32)) hx hb dX9_mostTellingShop_4 (by decide) ?_
  refine lv_istore (lv' := [(4, .int (0 : Int32)), (3, .int (0 : Int32)), (2, .int (-1 : Int32)), (0, .ref (q 0)), (1, .int u0)]) hx hb dX9_mostTellingShop_5 hl (by decide) rfl (fun ls hl => ?_)
  have hLkL7_3 : ∀ (n7_3 : Nat) (x1 : Int32) (x2 : Int32) (x3 : Int32) (H : Heap) (locs : List Loc), va_P D vwCl (zw_9 q k S) H → va_D A (zw_9 q k S) → va_S A s.heap H locs → ∀ ls : Array Slot, lv_has ls 6 [(0, .ref (q 0)), (1, .int u0), (2, .int x1), (3, .int x2), (4, .int x3)] → pX9_mostTellingShop_L7_3 u0 F S n7_3 x1 x2 x3 = some r → W p l e rmX9_mostTellingShop s m args below meth c H locs 0 0 Q (F0 m 7 ls []) := by
    intro n7_3
    induction n7_3 with
    | zero =>
      intro x1 x2 x3 H locs hP hD hS ls hl hf
      exact nomatch (show (none : Option _) = some _ from hf)
    | succ n7_3 ihkL7_3 =>
      intro x1 x2 x3 H locs hP hD hS ls hl hf
      rw [pX9_mostTellingShop_L7_3] at hf
      refine lv_iload hx hb dX9_mostTellingShop_7 (lv_at hl 4 rfl) ?_
      refine lv_aload_n hx hb dX9_mostTellingShop_9 rfl (lv_at hl 0 rfl) ?_
      refine va_get (D := D) (ci := 9) (v := .ref (q 10)) (C := RX9) (T := TX9) (N := 18) hx hb hts inX9 hown hK hP 0 rfl rfl 3 (by decide) lk25 (fun _ h9 => h9) rfl dX9_mostTellingShop_10 ?_
      refine va_get (D := D) (ci := 8) (v := .int (zz_gI S 3)) (C := RX8) (T := TX8) (N := 4) hx hb hts inX8 hown hK hP 10 rfl rfl 1 (by decide) lk120 (fun _ h9 => h9) rfl dX9_mostTellingShop_13 ?_
      refine lv_icmp_ge (tgt := 75) hx hb dX9_mostTellingShop_16 (by decide) (fun c16 => ?_) (fun c16 => ?_)
      · have hf := zz_ps hf c16
        refine lv_iload_n hx hb dX9_mostTellingShop_75 rfl (lv_at hl 2 rfl) ?_
        obtain rfl := zz_e1 hf
        exact hret _ _ _ _ dX9_mostTellingShop_76 hP hD hS
      · have hf := zz_ng hf c16
        refine lv_aload_n hx hb dX9_mostTellingShop_19 rfl (lv_at hl 0 rfl) ?_
        refine va_get (D := D) (ci := 9) (v := .ref (q 10)) (C := RX9) (T := TX9) (N := 18) hx hb hts inX9 hown hK hP 0 rfl rfl 3 (by decide) lk25 (fun _ h9 => h9) rfl dX9_mostTellingShop_20 ?_
        refine lv_iload hx hb dX9_mostTellingShop_23 (lv_at hl 4 rfl) ?_
        obtain ⟨r5, hc6, hf⟩ := zz_b1s hf
        refine zz_ji (va_runV (As := [.int x3]) (rest := []) hfx (zc_X8_isShop l D tb (q 10) (q 11) (k 11) F x3 (zz_gI S 3) (zz_gI S 4) (zz_gL S 0 0) (zz_gA S 5) r5 hc6 H.size) (cwV 1 hts gX9_mostTellingShop_X8_isShop rfl rfl rfl (by decide +kernel) ⟨Nat.le_of_ble_eq_true rfl, Nat.le_of_ble_eq_true rfl⟩) (zz_preV hK hP hD hS hA hE [10, 11] [6] rfl (by decide) rfl 10 rfl rfl rfl) rfl rfl hl.1 rfl (lv_room (Nat.le_of_ble_eq_true rfl)) dX9_mostTellingShop_25 ⟨Nat.zero_le _, Nat.zero_le _⟩) hP hD hS hA [10, 11] rfl rfl (fun H locs hP hD hS => ?_)
        have hP : va_P D vwCl (zw_9 q k S) H := hP
        have hD : va_D A (zw_9 q k S) := hD
        obtain ⟨j69_9, hj69_9, hf⟩ := zz_lts hf
        have Kj69_9 : ∀ (x7 : Int32) (x8 : Int32) (H : Heap) (locs : List Loc), va_P D vwCl (zw_9 q k S) H → va_D A (zw_9 q k S) → va_S A s.heap H locs → ∀ ls : Array Slot, lv_has ls 6 [(0, .ref (q 0)), (1, .int u0), (4, .int x3), (2, .int x7), (3, .int x8)] → j69_9 x7 x8 = some r → W p l e rmX9_mostTellingShop s m args below meth c H locs 0 0 Q (F0 m 69 ls []) := by
          intro x7 x8 H locs hP hD hS ls hl hf
          rw [hj69_9] at hf
          obtain ⟨v10, hv10, hf⟩ := zz_lts hf
          refine lv_iinc (v := v10) (lv' := [(4, .int v10), (0, .ref (q 0)), (1, .int u0), (2, .int x7), (3, .int x8)]) hx hb dX9_mostTellingShop_69 hl (k := 2) rfl (by rw [hv10]; rfl) (by decide) rfl (fun ls hl => ?_)
          refine lv_goto (tgt := 7) hx hb dX9_mostTellingShop_72 (by decide) ?_
          exact ihkL7_3 x7 x8 v10 _ _ hP hD hS ls (lv_sub hl [1, 2, 3, 4, 0] rfl) hf
        refine lv_if_eq (tgt := 69) hx hb dX9_mostTellingShop_28 (by decide) (fun c28 => ?_) (fun c28 => ?_)
        · have hf := zz_ps hf c28
          exact Kj69_9 x1 x2 _ _ hP hD hS ls (lv_sub hl [0, 1, 4, 2, 3] rfl) hf
        · have hf := zz_ng hf c28
          refine lv_aload_n hx hb dX9_mostTellingShop_31 rfl (lv_at hl 0 rfl) ?_
          refine va_get (D := D) (ci := 9) (v := .ref (q 47)) (C := RX9) (T := TX9) (N := 18) hx hb hts inX9 hown hK hP 0 rfl rfl 14 (by decide) lk86 (fun _ h9 => h9) rfl dX9_mostTellingShop_32 ?_
          refine lv_iload hx hb dX9_mostTellingShop_35 (lv_at hl 4 rfl) ?_
          obtain ⟨hg11, hf⟩ := zz_gd hf
          refine va_iald hx hb hK hP 47 29 rfl rfl hg11 dX9_mostTellingShop_37 ?_
          refine lv_iload_n hx hb dX9_mostTellingShop_38 rfl (lv_at hl 1 rfl) ?_
          refine lv_aload_n hx hb dX9_mostTellingShop_39 rfl (lv_at hl 0 rfl) ?_
          refine va_get (D := D) (ci := 9) (v := .ref (q 47)) (C := RX9) (T := TX9) (N := 18) hx hb hts inX9 hown hK hP 0 rfl rfl 14 (by decide) lk86 (fun _ h9 => h9) rfl dX9_mostTellingShop_40 ?_
          refine lv_iload hx hb dX9_mostTellingShop_43 (lv_at hl 4 rfl) ?_
          obtain ⟨hg12, hf⟩ := zz_gd hf
          refine va_iald hx hb hK hP 47 29 rfl rfl hg12 dX9_mostTellingShop_45 ?_
          refine lv_isub hx hb dX9_mostTellingShop_46 ?_
          refine va_mmax hx hb (hml.trans hl.1.symm) hown lkm420 (hts (.static Lib.Math.max.name) (by decide +kernel)) (hts (.initialized "java/lang/Math") (by decide +kernel)) (hts (.code Lib.Math.max.name Lib.Math.max.code 2 (some .int)) (by decide +kernel)) (Nat.le_of_ble_eq_true rfl) (Nat.le_of_ble_eq_true rfl) (Nat.zero_le _) (Nat.zero_le _) dX9_mostTellingShop_47 ?_
          obtain ⟨v13, hv13, hf⟩ := zz_lts hf
          refine zz_ti hv13 ?_
          refine lv_istore (lv' := [(5, .int v13), (0, .ref (q 0)), (1, .int u0), (2, .int x1), (3, .int x2), (4, .int x3)]) hx hb dX9_mostTellingShop_50 hl (by decide) rfl (fun ls hl => ?_)
          refine lv_iload_n hx hb dX9_mostTellingShop_52 rfl (lv_at hl 3 rfl) ?_
          refine lv_iconst (v := (-1 : Int32)) hx hb dX9_mostTellingShop_53 (by decide) ?_
          obtain ⟨j63_14, hj63_14, hf⟩ := zz_lts hf
          have Kj63_14 : ∀  (H : Heap) (locs : List Loc), va_P D vwCl (zw_9 q k S) H → va_D A (zw_9 q k S) → va_S A s.heap H locs → ∀ ls : Array Slot, lv_has ls 6 [(5, .int v13), (0, .ref (q 0)), (1, .int u0), (4, .int x3)] → j63_14 () = some r → W p l e rmX9_mostTellingShop s m args below meth c H locs 0 0 Q (F0 m 63 ls []) := by
            intro  H locs hP hD hS ls hl hf
            rw [hj63_14] at hf
            refine lv_iload hx hb dX9_mostTellingShop_63 (lv_at hl 3 rfl) ?_
            refine lv_istore_n (lv' := [(2, .int x3), (5, .int v13), (0, .ref (q 0)), (1, .int u0), (4, .int x3)]) hx hb dX9_mostTellingShop_65 rfl hl (by decide) rfl (fun ls hl => ?_)
            refine lv_iload hx hb dX9_mostTellingShop_66 (lv_at hl 1 rfl) ?_
            refine lv_istore_n (lv' := [(3, .int v13), (2, .int x3), (5, .int v13), (0, .ref (q 0)), (1, .int u0), (4, .int x3)]) hx hb dX9_mostTellingShop_68 rfl hl (by decide) rfl (fun ls hl => ?_)
            exact Kj69_9 x3 v13 _ _ hP hD hS ls (lv_sub hl [3, 4, 5, 1, 0] rfl) hf
          refine lv_icmp_eq (tgt := 63) hx hb dX9_mostTellingShop_54 (by decide) (fun c54 => ?_) (fun c54 => ?_)
          · have hf := zz_ps hf c54
            exact Kj63_14  _ _ hP hD hS ls (lv_sub hl [0, 1, 2, 5] rfl) hf
          · have hf := zz_ng hf c54
            refine lv_iload hx hb dX9_mostTellingShop_57 (lv_at hl 0 rfl) ?_
            refine lv_iload_n hx hb dX9_mostTellingShop_59 rfl (lv_at hl 4 rfl) ?_
            refine lv_icmp_ge (tgt := 69) hx hb dX9_mostTellingShop_60 (by decide) (fun c60 => ?_) (fun c60 => ?_)
            · have hf := zz_ps hf c60
              exact Kj69_9 x1 x2 _ _ hP hD hS ls (lv_sub hl [1, 2, 5, 3, 4] rfl) hf
            · have hf := zz_ng hf c60
              exact Kj63_14  _ _ hP hD hS ls (lv_sub hl [0, 1, 2, 5] rfl) hf
  exact hLkL7_3 F (-1 : Int32) (0 : Int32) (0 : Int32) _ _ hP hD hS ls (lv_sub hl [3, 4, 2, 1, 0] rfl) hf
def rmX9_ask : Room := { frames := 4, cells := 0, slots := 0, locals := 96 }
set_option maxHeartbeats 4000000 in
set_option maxRecDepth 100000 in
theorem zc_X9_ask (l : Launch) (D : va_G) (tb : Nat → Nat) (q : Nat → Nat) (k : Nat → ClassId) (F : Nat)  (S : zz_M) (r : Int32) (o1 : zz_M) (hf : pX9_ask F S = some (r, o1)) : zz_Mi l yX9_ask wsX9_ask rmX9_ask D tb [((k 1), .object "CatBeat$Text"), ((k 3), .int), ((k 5), .int), ((k 7), .int), ((k 8), .int), ((k 9), .int), ((k 11), .int), ((k 13), .int), ((k 15), .int), ((k 16), .int), ((k 18), .int), ((k 19), .int), ((k 20), .object "CatBeat$Sheet"), ((k 22), .int), ((k 24), .int), ((k 26), .int), ((k 28), .int), ((k 30), .int), ((k 31), .long), ((k 32), .boolean), ((k 34), .int), ((k 35), .long), ((k 37), .int), ((k 39), .int), ((k 40), .long), ((k 41), .boolean), ((k 43), .int), ((k 44), .long), ((k 46), .long), ((k 47), .int)] [.ref (q 0)] (zw_9 q k S) (zw_9 q k o1) r := by
  refine zz_ofi (cc := cX9_ask) (maxL := 5) (by decide) rfl (Nat.le_of_ble_eq_true rfl) ?_
  intro p e s m args below meth c A Q hfx hK hA hE hret H locs hP hD hS ls hl
  obtain ⟨hx, hb, hml, hown, hts⟩ := id hfx
  have inX9 : ∀ w ∈ u_ws RX9 TX9 18, w ∈ wsX9_ask := by decide +kernel
  have inX4 : ∀ w ∈ u_ws RX4 TX4 2, w ∈ wsX9_ask := by decide +kernel
  have lk86 := hts (.fieldLink RX9 86 "CatBeat" "takings" "[I") (by decide +kernel)
  have lk32 := hts (.fieldLink RX9 32 "CatBeat" "round" "LCatBeat$Round;") (by decide +kernel)
  have lk126 := hts (.fieldLink RX9 126 "CatBeat$Round" "count" "I") (by decide +kernel)
  have lk46 := hts (.fieldLink RX9 46 "CatBeat" "missing" "LCatBeat$Missed;") (by decide +kernel)
  have hl : lv_has ls 5 [(0, .ref (q 0))] := hl
  unfold pX9_ask at hf
  refine lv_aload_n hx hb dX9_ask_0 rfl (lv_at hl 0 rfl) ?_
  obtain ⟨S1, hc2, hf⟩ := zz_b1s hf
  refine zz_jv0 (va_runV (As := []) (rest := []) hfx (zc_X9_settle l D tb q k F  S S1 hc2 H.size) (cwV 0 hts gX9_ask_X9_settle rfl rfl rfl (by decide +kernel) ⟨Nat.le_of_ble_eq_true rfl, Nat.le_of_ble_eq_true rfl⟩) (zz_pre0V hK hP hD hS hA hE 0 rfl rfl rfl) rfl rfl hl.1 rfl (lv_room (Nat.le_of_ble_eq_true rfl)) dX9_ask_1 ⟨Nat.zero_le _, Nat.zero_le _⟩) hD hS hA (fun H locs hP hD hS => ?_)
  refine lv_aload_n hx hb dX9_ask_4 rfl (lv_at hl 0 rfl) ?_
  refine va_get (D := D) (ci := 9) (v := .ref (q 47)) (C := RX9) (T := TX9) (N := 18) hx hb hts inX9 hown hK hP 0 rfl rfl 14 (by decide) lk86 (fun _ h9 => h9) rfl dX9_ask_5 ?_
  refine lv_iconst (v := (0 : Int32)) hx hb dX9_ask_8 (by decide) ?_
  obtain ⟨f3, hc4, hf⟩ := zz_b1s hf
  obtain ⟨S5, hS5, hf⟩ := zz_lts hf
  refine zz_jv (va_runS (As := [.ref (q 47), .int (0 : Int32)]) (rest := []) hfx (zc_J7_fill_53178 l D tb (q 47) (k 47) 36 F (0 : Int32) (zz_gA S1 22) f3 hc4 H.size) (va_cwS 2 hts gX9_ask_J7_fill_53178 rfl rfl rfl (by decide +kernel) ⟨Nat.le_of_ble_eq_true rfl, Nat.le_of_ble_eq_true rfl⟩) (zz_preS hK hP hD hS hA hE [47] [29] rfl (by decide) rfl) rfl rfl hl.1 rfl (lv_room (Nat.le_of_ble_eq_true rfl)) dX9_ask_9 ⟨Nat.zero_le _, Nat.zero_le _⟩) hP hD hS hA [47] rfl rfl (fun H locs hP hD hS => ?_)
  have hP : va_P D vwCl (zw_9 q k S5) H := by rw [hS5]; exact hP
  have hD : va_D A (zw_9 q k S5) := by rw [hS5]; exact hD
  refine lv_iconst (v := (0 : Int32)) hx hb dX9_ask_12 (by decide) ?_
  refine lv_istore_n (lv' := [(1, .int (0 : Int32)), (0, .ref (q 0))]) hx hb dX9_ask_13 rfl hl (by decide) rfl (fun ls hl => ?_)
  refine lv_iconst (v := (0 : Int32)) hx hb dX9_ask_14 (by decide) ?_
  refine lv_istore_n (lv' := [(2, .int (0 : Int32)), (1, .int (0 : Int32)), (0, .ref (q 0))]) hx hb dX9_ask_15 rfl hl (by decide) rfl (fun ls hl => ?_)
  have hLkL16_8 : ∀ (n16_8 : Nat) (x6 : Int32) (x7 : Int32) (z8 : zz_M) (H : Heap) (locs : List Loc), va_P D vwCl (zw_9 q k z8) H → va_D A (zw_9 q k z8) → va_S A s.heap H locs → ∀ ls : Array Slot, lv_has ls 5 [(0, .ref (q 0)), (1, .int x6), (2, .int x7)] → pX9_ask_L16_8 F n16_8 x6 x7 z8 = some (r, o1) → W p l e rmX9_ask s m args below meth c H locs 0 0 Q (F0 m 16 ls []) := by
    intro n16_8
    induction n16_8 with
    | zero =>
      intro x6 x7 z8 H locs hP hD hS ls hl hf
      exact nomatch (show (none : Option _) = some _ from hf)
    | succ n16_8 ihkL16_8 =>
      intro x6 x7 z8 H locs hP hD hS ls hl hf
      rw [pX9_ask_L16_8] at hf
      refine lv_iload_n hx hb dX9_ask_16 rfl (lv_at hl 2 rfl) ?_
      refine lv_aload_n hx hb dX9_ask_17 rfl (lv_at hl 0 rfl) ?_
      refine va_get (D := D) (ci := 9) (v := .ref (q 12)) (C := RX9) (T := TX9) (N := 18) hx hb hts inX9 hown hK hP 0 rfl rfl 4 (by decide) lk32 (fun _ h9 => h9) rfl dX9_ask_18 ?_
      refine va_get (D := D) (ci := 4) (v := .int (zz_gI z8 5)) (C := RX4) (T := TX4) (N := 2) hx hb hts inX4 hown hK hP 12 rfl rfl 1 (by decide) lk126 (fun _ h9 => h9) rfl dX9_ask_21 ?_
      refine lv_icmp_ge (tgt := 58) hx hb dX9_ask_24 (by decide) (fun c24 => ?_) (fun c24 => ?_)
      · have hf := zz_ps hf c24
        refine lv_aload_n hx hb dX9_ask_58 rfl (lv_at hl 0 rfl) ?_
        refine lv_iload_n hx hb dX9_ask_59 rfl (lv_at hl 1 rfl) ?_
        obtain ⟨r10, hc11, hf⟩ := zz_b1s hf
        refine zz_ji0 (va_runV (As := [.int x6]) (rest := []) hfx (zc_X9_mostTellingShop l D tb q k F x6 z8 r10 hc11 H.size) (cwV 1 hts gX9_ask_X9_mostTellingShop rfl rfl rfl (by decide +kernel) ⟨Nat.le_of_ble_eq_true rfl, Nat.le_of_ble_eq_true rfl⟩) (zz_pre0V hK hP hD hS hA hE 0 rfl rfl rfl) rfl rfl hl.1 rfl (lv_room (Nat.le_of_ble_eq_true rfl)) dX9_ask_60 ⟨Nat.zero_le _, Nat.zero_le _⟩) hD hS hA (fun H locs hP hD hS => ?_)
        obtain ⟨rfl, rfl⟩ := zz_e2 hf
        exact hret _ _ _ _ dX9_ask_63 hP hD hS
      · have hf := zz_ng hf c24
        refine lv_aload_n hx hb dX9_ask_27 rfl (lv_at hl 0 rfl) ?_
        refine lv_iload_n hx hb dX9_ask_28 rfl (lv_at hl 2 rfl) ?_
        obtain ⟨r12, S13, hc14, hf⟩ := zz_b2s hf
        refine zz_jl0 (va_runV (As := [.int x7]) (rest := []) hfx (zc_X9_takenFromWithout l D tb q k F x7 z8 r12 S13 hc14 H.size) (cwV 1 hts gX9_ask_X9_takenFromWithout rfl rfl rfl (by decide +kernel) ⟨Nat.le_of_ble_eq_true rfl, Nat.le_of_ble_eq_true rfl⟩) (zz_pre0V hK hP hD hS hA hE 0 rfl rfl rfl) rfl rfl hl.1 rfl (lv_room (Nat.le_of_ble_eq_true rfl)) dX9_ask_29 ⟨Nat.zero_le _, Nat.zero_le _⟩) hD hS hA (fun H locs hP hD hS => ?_)
        refine lv_lstore_n (lv' := [(3, .long r12), (0, .ref (q 0)), (1, .int x6), (2, .int x7)]) hx hb dX9_ask_32 rfl hl (by decide) rfl (fun ls hl => ?_)
        refine lv_aload_n hx hb dX9_ask_33 rfl (lv_at hl 1 rfl) ?_
        refine va_get (D := D) (ci := 9) (v := .ref (q 17)) (C := RX9) (T := TX9) (N := 18) hx hb hts inX9 hown hK hP 0 rfl rfl 6 (by decide) lk46 (fun _ h9 => h9) rfl dX9_ask_34 ?_
        refine lv_lload_n hx hb dX9_ask_37 rfl (lv_at hl 0 rfl) ?_
        obtain ⟨r15, hc16, hf⟩ := zz_b1s hf
        refine zz_ji (va_runV (As := [.long r12]) (rest := []) hfx (zc_X1_agreesWith l D tb (q 17) (q 18) (q 19) (k 18) (k 19) F r12 (zz_gI S13 7) (zz_gA S13 9) (zz_gA S13 10) r15 hc16 H.size) (cwV 1 hts gX9_ask_X1_agreesWith rfl rfl rfl (by decide +kernel) ⟨Nat.le_of_ble_eq_true rfl, Nat.le_of_ble_eq_true rfl⟩) (zz_preV hK hP hD hS hA hE [17, 18, 19] [10, 11] rfl (by decide) rfl 17 rfl rfl rfl) rfl rfl hl.1 rfl (lv_room (Nat.le_of_ble_eq_true rfl)) dX9_ask_38 ⟨Nat.zero_le _, Nat.zero_le _⟩) hP hD hS hA [17, 18, 19] rfl rfl (fun H locs hP hD hS => ?_)
        have hP : va_P D vwCl (zw_9 q k S13) H := hP
        have hD : va_D A (zw_9 q k S13) := hD
        obtain ⟨j52_19, hj52_19, hf⟩ := zz_lts hf
        have Kj52_19 : ∀ (x17 : Int32) (z18 : zz_M) (H : Heap) (locs : List Loc), va_P D vwCl (zw_9 q k z18) H → va_D A (zw_9 q k z18) → va_S A s.heap H locs → ∀ ls : Array Slot, lv_has ls 5 [(0, .ref (q 0)), (2, .int x7), (1, .int x17)] → j52_19 x17 z18 = some (r, o1) → W p l e rmX9_ask s m args below meth c H locs 0 0 Q (F0 m 52 ls []) := by
          intro x17 z18 H locs hP hD hS ls hl hf
          rw [hj52_19] at hf
          obtain ⟨v20, hv20, hf⟩ := zz_lts hf
          refine lv_iinc (v := v20) (lv' := [(2, .int v20), (0, .ref (q 0)), (1, .int x17)]) hx hb dX9_ask_52 hl (k := 1) rfl (by rw [hv20]; rfl) (by decide) rfl (fun ls hl => ?_)
          refine lv_goto (tgt := 16) hx hb dX9_ask_55 (by decide) ?_
          exact ihkL16_8 x17 v20 z18 _ _ hP hD hS ls (lv_sub hl [1, 2, 0] rfl) hf
        refine lv_if_eq (tgt := 52) hx hb dX9_ask_41 (by decide) (fun c41 => ?_) (fun c41 => ?_)
        · have hf := zz_ps hf c41
          exact Kj52_19 x6 S13 _ _ hP hD hS ls (lv_sub hl [1, 3, 2] rfl) hf
        · have hf := zz_ng hf c41
          obtain ⟨v21, hv21, hf⟩ := zz_lts hf
          refine lv_iinc (v := v21) (lv' := [(1, .int v21), (3, .long r12), (0, .ref (q 0)), (2, .int x7)]) hx hb dX9_ask_44 hl (k := 2) rfl (by rw [hv21]; rfl) (by decide) rfl (fun ls hl => ?_)
          refine lv_aload_n hx hb dX9_ask_47 rfl (lv_at hl 2 rfl) ?_
          refine lv_lload_n hx hb dX9_ask_48 rfl (lv_at hl 1 rfl) ?_
          obtain ⟨S22, hc23, hf⟩ := zz_b1s hf
          refine zz_jv0 (va_runV (As := [.long r12]) (rest := []) hfx (zc_X9_countTakings l D tb q k F r12 S13 S22 hc23 H.size) (cwV 1 hts gX9_ask_X9_countTakings rfl rfl rfl (by decide +kernel) ⟨Nat.le_of_ble_eq_true rfl, Nat.le_of_ble_eq_true rfl⟩) (zz_pre0V hK hP hD hS hA hE 0 rfl rfl rfl) rfl rfl hl.1 rfl (lv_room (Nat.le_of_ble_eq_true rfl)) dX9_ask_49 ⟨Nat.zero_le _, Nat.zero_le _⟩) hD hS hA (fun H locs hP hD hS => ?_)
          exact Kj52_19 v21 S22 _ _ hP hD hS ls (lv_sub hl [2, 3, 0] rfl) hf
  exact hLkL16_8 F (0 : Int32) (0 : Int32) S5 _ _ hP hD hS ls (lv_sub hl [2, 1, 0] rfl) hf
def rmX9_waysToTake : Room := { frames := 3, cells := 0, slots := 0, locals := 73 }
set_option maxHeartbeats 4000000 in
set_option maxRecDepth 100000 in
theorem zc_X9_waysToTake (l : Launch) (D : va_G) (tb : Nat → Nat) (q : Nat → Nat) (k : Nat → ClassId) (F : Nat) (u0 : Int32) (u1 : Int32) (u2 : Int32) (S : zz_M) (r : Int64) (o1 : zz_M) (hf : pX9_waysToTake F u0 u1 u2 S = some (r, o1)) : zz_Ml l yX9_waysToTake wsX9_waysToTake rmX9_waysToTake D tb [((k 1), .object "CatBeat$Text"), ((k 3), .int), ((k 5), .int), ((k 7), .int), ((k 8), .int), ((k 9), .int), ((k 11), .int), ((k 13), .int), ((k 15), .int), ((k 16), .int), ((k 18), .int), ((k 19), .int), ((k 20), .object "CatBeat$Sheet"), ((k 22), .int), ((k 24), .int), ((k 26), .int), ((k 28), .int), ((k 30), .int), ((k 31), .long), ((k 32), .boolean), ((k 34), .int), ((k 35), .long), ((k 37), .int), ((k 39), .int), ((k 40), .long), ((k 41), .boolean), ((k 43), .int), ((k 44), .long), ((k 46), .long), ((k 47), .int)] [.ref (q 0), .int u0, .int u1, .int u2] (zw_9 q k S) (zw_9 q k o1) r := by
  refine zz_ofl (cc := cX9_waysToTake) (maxL := 9) (by decide) rfl (Nat.le_of_ble_eq_true rfl) ?_
  intro p e s m args below meth c A Q hfx hK hA hE hret H locs hP hD hS ls hl
  obtain ⟨hx, hb, hml, hown, hts⟩ := id hfx
  have inX9 : ∀ w ∈ u_ws RX9 TX9 18, w ∈ wsX9_waysToTake := by decide +kernel
  have inX7 : ∀ w ∈ u_ws RX7 TX7 3, w ∈ wsX9_waysToTake := by decide +kernel
  have inX2 : ∀ w ∈ u_ws RX2 TX2 2, w ∈ wsX9_waysToTake := by decide +kernel
  have lk39 := hts (.fieldLink RX9 39 "CatBeat" "thieves" "LCatBeat$Thieves;") (by decide +kernel)
  have lk136 := hts (.fieldLink RX9 136 "CatBeat$Thieves" "wants" "[I") (by decide +kernel)
  have lk25 := hts (.fieldLink RX9 25 "CatBeat" "ward" "LCatBeat$Ward;") (by decide +kernel)
  have lk82 := hts (.fieldLink RX9 82 "CatBeat" "odds" "LCatBeat$Odds;") (by decide +kernel)
  have lk139 := hts (.fieldLink RX9 139 "CatBeat$Thieves" "needs" "[I") (by decide +kernel)
  have lk66 := hts (.fieldLink RX9 66 "CatBeat" "night" "LCatBeat$Night;") (by decide +kernel)
  have lk151 := hts (.fieldLink RX9 151 "CatBeat$Night" "places" "[I") (by decide +kernel)
  have lk19 := hts (.fieldLink RX9 19 "CatBeat" "settings" "[I") (by decide +kernel)
  have kc430 := hts (.constantLong RX9 430 (16)) (by decide +kernel)
  have hl : lv_has ls 9 [(0, .ref (q 0)), (1, .int u0), (2, .int u1), (3, .int u2)] := hl
  unfold pX9_waysToTake at hf
  refine lv_aload_n hx hb dX9_waysToTake_0 rfl (lv_at hl 0 rfl) ?_
  refine va_get (D := D) (ci := 9) (v := .ref (q 14)) (C := RX9) (T := TX9) (N := 18) hx hb hts inX9 hown hK hP 0 rfl rfl 5 (by decide) lk39 (fun _ h9 => h9) rfl dX9_waysToTake_1 ?_
  refine va_get (D := D) (ci := 7) (v := .ref (q 15)) (C := RX7) (T := TX7) (N := 3) hx hb hts inX7 hown hK hP 14 rfl rfl 0 (by decide) lk136 (fun _ h9 => h9) rfl dX9_waysToTake_4 ?_
  refine lv_iload_n hx hb dX9_waysToTake_7 rfl (lv_at hl 3 rfl) ?_
  obtain ⟨hg1, hf⟩ := zz_gd hf
  refine va_iald hx hb hK hP 15 8 rfl rfl hg1 dX9_waysToTake_8 ?_
  obtain ⟨v2, hv2, hf⟩ := zz_lts hf
  refine zz_ti hv2 ?_
  refine lv_istore (lv' := [(4, .int v2), (0, .ref (q 0)), (1, .int u0), (2, .int u1), (3, .int u2)]) hx hb dX9_waysToTake_9 hl (by decide) rfl (fun ls hl => ?_)
  refine lv_aload_n hx hb dX9_waysToTake_11 rfl (lv_at hl 1 rfl) ?_
  refine va_get (D := D) (ci := 9) (v := .ref (q 10)) (C := RX9) (T := TX9) (N := 18) hx hb hts inX9 hown hK hP 0 rfl rfl 3 (by decide) lk25 (fun _ h9 => h9) rfl dX9_waysToTake_12 ?_
  refine lv_iload hx hb dX9_waysToTake_15 (lv_at hl 0 rfl) ?_
  obtain ⟨r3, hc4, hf⟩ := zz_b1s hf
  refine zz_ji (va_runV (As := [.int v2]) (rest := []) hfx (zc_X8_isShop l D tb (q 10) (q 11) (k 11) F v2 (zz_gI S 3) (zz_gI S 4) (zz_gL S 0 0) (zz_gA S 5) r3 hc4 H.size) (cwV 1 hts gX9_waysToTake_X8_isShop rfl rfl rfl (by decide +kernel) ⟨Nat.le_of_ble_eq_true rfl, Nat.le_of_ble_eq_true rfl⟩) (zz_preV hK hP hD hS hA hE [10, 11] [6] rfl (by decide) rfl 10 rfl rfl rfl) rfl rfl hl.1 rfl (lv_room (Nat.le_of_ble_eq_true rfl)) dX9_waysToTake_17 ⟨Nat.zero_le _, Nat.zero_le _⟩) hP hD hS hA [10, 11] rfl rfl (fun H locs hP hD hS => ?_)
  have hP : va_P D vwCl (zw_9 q k S) H := hP
  have hD : va_D A (zw_9 q k S) := hD
  refine lv_if_ne (tgt := 25) hx hb dX9_waysToTake_20 (by decide) (fun c20 => ?_) (fun c20 => ?_)
  · have hf := zz_ng hf c20
    refine lv_aload_n hx hb dX9_waysToTake_25 rfl (lv_at hl 1 rfl) ?_
    refine va_get (D := D) (ci := 9) (v := .ref (q 45)) (C := RX9) (T := TX9) (N := 18) hx hb hts inX9 hown hK hP 0 rfl rfl 13 (by decide) lk82 (fun _ h9 => h9) rfl dX9_waysToTake_26 ?_
    refine lv_aload_n hx hb dX9_waysToTake_29 rfl (lv_at hl 1 rfl) ?_
    refine va_get (D := D) (ci := 9) (v := .ref (q 14)) (C := RX9) (T := TX9) (N := 18) hx hb hts inX9 hown hK hP 0 rfl rfl 5 (by decide) lk39 (fun _ h9 => h9) rfl dX9_waysToTake_30 ?_
    refine va_get (D := D) (ci := 7) (v := .ref (q 16)) (C := RX7) (T := TX7) (N := 3) hx hb hts inX7 hown hK hP 14 rfl rfl 1 (by decide) lk139 (fun _ h9 => h9) rfl dX9_waysToTake_33 ?_
    refine lv_iload_n hx hb dX9_waysToTake_36 rfl (lv_at hl 4 rfl) ?_
    obtain ⟨hg5, hf⟩ := zz_gd hf
    refine va_iald hx hb hK hP 16 9 rfl rfl hg5 dX9_waysToTake_37 ?_
    obtain ⟨f6, f7, hc8, hf⟩ := zz_b2s hf
    obtain ⟨S9, hS9, hf⟩ := zz_lts hf
    refine zz_jv (va_runV (As := [.int ((zz_gA S 8) (Int32.toNatClampNeg u2))]) (rest := []) hfx (zc_X3_startFor l D tb (q 45) (q 46) (k 46) F ((zz_gA S 8) (Int32.toNatClampNeg u2)) (zz_gI S 23) (zz_gL S 5) f6 f7 hc8 H.size) (cwV 1 hts gX9_waysToTake_X3_startFor rfl rfl rfl (by decide +kernel) ⟨Nat.le_of_ble_eq_true rfl, Nat.le_of_ble_eq_true rfl⟩) (zz_preV hK hP hD hS hA hE [45, 46] [28] rfl (by decide) rfl 45 rfl rfl rfl) rfl rfl hl.1 rfl (lv_room (Nat.le_of_ble_eq_true rfl)) dX9_waysToTake_38 ⟨Nat.zero_le _, Nat.zero_le _⟩) hP hD hS hA [45, 46] rfl rfl (fun H locs hP hD hS => ?_)
    have hP : va_P D vwCl (zw_9 q k S9) H := by rw [hS9]; exact hP
    have hD : va_D A (zw_9 q k S9) := by rw [hS9]; exact hD
    refine lv_iconst (v := (0 : Int32)) hx hb dX9_waysToTake_41 (by decide) ?_
    refine lv_istore (lv' := [(5, .int (0 : Int32)), (4, .int v2), (0, .ref (q 0)), (1, .int u0), (2, .int u1), (3, .int u2)]) hx hb dX9_waysToTake_42 hl (by decide) rfl (fun ls hl => ?_)
    have hLkL44_11 : ∀ (n44_11 : Nat) (x10 : Int32) (z11 : zz_M) (H : Heap) (locs : List Loc), va_P D vwCl (zw_9 q k z11) H → va_D A (zw_9 q k z11) → va_S A s.heap H locs → ∀ ls : Array Slot, lv_has ls 9 [(4, .int v2), (0, .ref (q 0)), (1, .int u0), (2, .int u1), (5, .int x10)] → pX9_waysToTake_L44_11 u0 u1 F v2 n44_11 x10 z11 = some (r, o1) → W p l e rmX9_waysToTake s m args below meth c H locs 0 0 Q (F0 m 44 ls []) := by
      intro n44_11
      induction n44_11 with
      | zero =>
        intro x10 z11 H locs hP hD hS ls hl hf
        exact nomatch (show (none : Option _) = some _ from hf)
      | succ n44_11 ihkL44_11 =>
        intro x10 z11 H locs hP hD hS ls hl hf
        rw [pX9_waysToTake_L44_11] at hf
        refine lv_iload hx hb dX9_waysToTake_44 (lv_at hl 4 rfl) ?_
        refine lv_bipush (v := (96 : Int32)) hx hb dX9_waysToTake_46 (by decide) ?_
        refine lv_icmp_ge (tgt := 164) hx hb dX9_waysToTake_48 (by decide) (fun c48 => ?_) (fun c48 => ?_)
        · have hf := zz_ps hf c48
          refine lv_aload_n hx hb dX9_waysToTake_164 rfl (lv_at hl 1 rfl) ?_
          refine va_get (D := D) (ci := 9) (v := .ref (q 45)) (C := RX9) (T := TX9) (N := 18) hx hb hts inX9 hown hK hP 0 rfl rfl 13 (by decide) lk82 (fun _ h9 => h9) rfl dX9_waysToTake_165 ?_
          obtain ⟨r13, hc14, hf⟩ := zz_b1s hf
          refine zz_jl (va_runV (As := []) (rest := []) hfx (zc_X3_taken l D tb (q 45) (q 46) (k 46) F  (zz_gI z11 23) (zz_gL z11 5) r13 hc14 H.size) (cwV 0 hts gX9_waysToTake_X3_taken rfl rfl rfl (by decide +kernel) ⟨Nat.le_of_ble_eq_true rfl, Nat.le_of_ble_eq_true rfl⟩) (zz_preV hK hP hD hS hA hE [45, 46] [28] rfl (by decide) rfl 45 rfl rfl rfl) rfl rfl hl.1 rfl (lv_room (Nat.le_of_ble_eq_true rfl)) dX9_waysToTake_168 ⟨Nat.zero_le _, Nat.zero_le _⟩) hP hD hS hA [45, 46] rfl rfl (fun H locs hP hD hS => ?_)
          have hP : va_P D vwCl (zw_9 q k z11) H := hP
          have hD : va_D A (zw_9 q k z11) := hD
          obtain ⟨rfl, rfl⟩ := zz_e2 hf
          exact hret _ _ _ _ dX9_waysToTake_171 hP hD hS
        · have hf := zz_ng hf c48
          refine lv_aload_n hx hb dX9_waysToTake_51 rfl (lv_at hl 1 rfl) ?_
          refine va_get (D := D) (ci := 9) (v := .ref (q 33)) (C := RX9) (T := TX9) (N := 18) hx hb hts inX9 hown hK hP 0 rfl rfl 9 (by decide) lk66 (fun _ h9 => h9) rfl dX9_waysToTake_52 ?_
          refine va_get (D := D) (ci := 2) (v := .ref (q 34)) (C := RX2) (T := TX2) (N := 2) hx hb hts inX2 hown hK hP 33 rfl rfl 0 (by decide) lk151 (fun _ h9 => h9) rfl dX9_waysToTake_55 ?_
          refine lv_iload hx hb dX9_waysToTake_58 (lv_at hl 4 rfl) ?_
          obtain ⟨hg15, hf⟩ := zz_gd hf
          refine va_iald hx hb hK hP 34 20 rfl rfl hg15 dX9_waysToTake_60 ?_
          obtain ⟨v16, hv16, hf⟩ := zz_lts hf
          refine zz_ti hv16 ?_
          refine lv_istore (lv' := [(6, .int v16), (4, .int v2), (0, .ref (q 0)), (1, .int u0), (2, .int u1), (5, .int x10)]) hx hb dX9_waysToTake_61 hl (by decide) rfl (fun ls hl => ?_)
          refine lv_aload_n hx hb dX9_waysToTake_63 rfl (lv_at hl 2 rfl) ?_
          refine va_get (D := D) (ci := 9) (v := .ref (q 10)) (C := RX9) (T := TX9) (N := 18) hx hb hts inX9 hown hK hP 0 rfl rfl 3 (by decide) lk25 (fun _ h9 => h9) rfl dX9_waysToTake_64 ?_
          refine lv_iload hx hb dX9_waysToTake_67 (lv_at hl 0 rfl) ?_
          refine lv_iload hx hb dX9_waysToTake_69 (lv_at hl 1 rfl) ?_
          refine lv_aload_n hx hb dX9_waysToTake_71 rfl (lv_at hl 2 rfl) ?_
          refine va_get (D := D) (ci := 9) (v := .ref (q 9)) (C := RX9) (T := TX9) (N := 18) hx hb hts inX9 hown hK hP 0 rfl rfl 2 (by decide) lk19 (fun _ h9 => h9) rfl dX9_waysToTake_72 ?_
          refine lv_iconst (v := (2 : Int32)) hx hb dX9_waysToTake_75 (by decide) ?_
          refine va_iald hx hb hK hP 9 5 rfl rfl (show zz_in (2 : Int32) 4 by decide) dX9_waysToTake_76 ?_
          obtain ⟨r17, hc18, hf⟩ := zz_b1s hf
          refine zz_ji (va_runV (As := [.int v16, .int v2, .int ((zz_gA z11 4) (Int32.toNatClampNeg (2 : Int32)))]) (rest := []) hfx (zc_X8_isInView l D tb (q 10) (q 11) (k 11) F v16 v2 ((zz_gA z11 4) (Int32.toNatClampNeg (2 : Int32))) (zz_gI z11 3) (zz_gI z11 4) (zz_gL z11 0 0) (zz_gA z11 5) r17 hc18 H.size) (cwV 3 hts gX9_waysToTake_X8_isInView rfl rfl rfl (by decide +kernel) ⟨Nat.le_of_ble_eq_true rfl, Nat.le_of_ble_eq_true rfl⟩) (zz_preV hK hP hD hS hA hE [10, 11] [6] rfl (by decide) rfl 10 rfl rfl rfl) rfl rfl hl.1 rfl (lv_room (Nat.le_of_ble_eq_true rfl)) dX9_waysToTake_77 ⟨Nat.zero_le _, Nat.zero_le _⟩) hP hD hS hA [10, 11] rfl rfl (fun H locs hP hD hS => ?_)
          have hP : va_P D vwCl (zw_9 q k z11) H := hP
          have hD : va_D A (zw_9 q k z11) := hD
          obtain ⟨v19, hv19, hf⟩ := zz_lts hf
          have hK20 : ∀ ls : Array Slot, lv_has ls 9 [(6, .int v16), (4, .int v2), (0, .ref (q 0)), (1, .int u0), (2, .int u1), (5, .int x10)] → W p l e rmX9_waysToTake s m args below meth c H locs 0 0 Q (F0 m 88 ls [.int v19]) := by
            intro ls hl
            refine lv_istore (lv' := [(7, .int v19), (6, .int v16), (4, .int v2), (0, .ref (q 0)), (1, .int u0), (2, .int u1), (5, .int x10)]) hx hb dX9_waysToTake_88 hl (by decide) rfl (fun ls hl => ?_)
            refine lv_iload hx hb dX9_waysToTake_90 (lv_at hl 6 rfl) ?_
            refine lv_iload_n hx hb dX9_waysToTake_92 rfl (lv_at hl 5 rfl) ?_
            obtain ⟨j158_22, hj158_22, hf⟩ := zz_lts hf
            have Kj158_22 : ∀ (z21 : zz_M) (H : Heap) (locs : List Loc), va_P D vwCl (zw_9 q k z21) H → va_D A (zw_9 q k z21) → va_S A s.heap H locs → ∀ ls : Array Slot, lv_has ls 9 [(4, .int v2), (0, .ref (q 0)), (1, .int u0), (2, .int u1), (5, .int x10)] → j158_22 z21 = some (r, o1) → W p l e rmX9_waysToTake s m args below meth c H locs 0 0 Q (F0 m 158 ls []) := by
              intro z21 H locs hP hD hS ls hl hf
              rw [hj158_22] at hf
              obtain ⟨v23, hv23, hf⟩ := zz_lts hf
              refine lv_iinc (v := v23) (lv' := [(5, .int v23), (4, .int v2), (0, .ref (q 0)), (1, .int u0), (2, .int u1)]) hx hb dX9_waysToTake_158 hl (k := 4) rfl (by rw [hv23]; rfl) (by decide) rfl (fun ls hl => ?_)
              refine lv_goto (tgt := 44) hx hb dX9_waysToTake_161 (by decide) ?_
              exact ihkL44_11 v23 z21 _ _ hP hD hS ls (lv_sub hl [1, 2, 3, 4, 0] rfl) hf
            refine lv_icmp_gt (tgt := 147) hx hb dX9_waysToTake_93 (by decide) (fun c93 => ?_) (fun c93 => ?_)
            · have hf := zz_ps hf c93
              refine lv_aload_n hx hb dX9_waysToTake_147 rfl (lv_at hl 3 rfl) ?_
              refine va_get (D := D) (ci := 9) (v := .ref (q 45)) (C := RX9) (T := TX9) (N := 18) hx hb hts inX9 hown hK hP 0 rfl rfl 13 (by decide) lk82 (fun _ h9 => h9) rfl dX9_waysToTake_148 ?_
              refine lv_iload hx hb dX9_waysToTake_151 (lv_at hl 0 rfl) ?_
              refine lv_i2l (v := (Int32.toInt64 v19)) hx hb dX9_waysToTake_153 rfl ?_
              refine lv_lconst (v := (1 : Int64)) hx hb dX9_waysToTake_154 (by decide) ?_
              obtain ⟨f24, hc25, hf⟩ := zz_b1s hf
              obtain ⟨S26, hS26, hf⟩ := zz_lts hf
              refine zz_jv (va_runV (As := [.long (Int32.toInt64 v19), .long (1 : Int64)]) (rest := []) hfx (zc_X3_goOn l D tb (q 45) (q 46) (k 46) F (Int32.toInt64 v19) (1 : Int64) (zz_gI z11 23) (zz_gL z11 5) f24 hc25 H.size) (cwV 2 hts gX9_waysToTake_X3_goOn rfl rfl rfl (by decide +kernel) ⟨Nat.le_of_ble_eq_true rfl, Nat.le_of_ble_eq_true rfl⟩) (zz_preV hK hP hD hS hA hE [45, 46] [28] rfl (by decide) rfl 45 rfl rfl rfl) rfl rfl hl.1 rfl (lv_room (Nat.le_of_ble_eq_true rfl)) dX9_waysToTake_155 ⟨Nat.zero_le _, Nat.zero_le _⟩) hP hD hS hA [45, 46] rfl rfl (fun H locs hP hD hS => ?_)
              have hP : va_P D vwCl (zw_9 q k S26) H := by rw [hS26]; exact hP
              have hD : va_D A (zw_9 q k S26) := by rw [hS26]; exact hD
              exact Kj158_22 S26 _ _ hP hD hS ls (lv_sub hl [2, 3, 4, 5, 6] rfl) hf
            · have hf := zz_ng hf c93
              refine lv_aload_n hx hb dX9_waysToTake_96 rfl (lv_at hl 3 rfl) ?_
              refine va_get (D := D) (ci := 9) (v := .ref (q 10)) (C := RX9) (T := TX9) (N := 18) hx hb hts inX9 hown hK hP 0 rfl rfl 3 (by decide) lk25 (fun _ h9 => h9) rfl dX9_waysToTake_97 ?_
              refine lv_iload hx hb dX9_waysToTake_100 (lv_at hl 1 rfl) ?_
              refine lv_iload hx hb dX9_waysToTake_102 (lv_at hl 2 rfl) ?_
              refine lv_aload_n hx hb dX9_waysToTake_104 rfl (lv_at hl 3 rfl) ?_
              obtain ⟨r27, hc28, hf⟩ := zz_b1s hf
              refine zz_ji0 (va_runV (As := []) (rest := [.int v2, .int v16, .ref (q 10)]) hfx (zc_X9_foggySight l D tb q k F  z11 r27 hc28 H.size) (cwV 0 hts gX9_waysToTake_X9_foggySight rfl rfl rfl (by decide +kernel) ⟨Nat.le_of_ble_eq_true rfl, Nat.le_of_ble_eq_true rfl⟩) (zz_pre0V hK hP hD hS hA hE 0 rfl rfl rfl) rfl rfl hl.1 rfl (lv_room (Nat.le_of_ble_eq_true rfl)) dX9_waysToTake_105 ⟨Nat.zero_le _, Nat.zero_le _⟩) hD hS hA (fun H locs hP hD hS => ?_)
              obtain ⟨r29, hc30, hf⟩ := zz_b1s hf
              refine zz_ji (va_runV (As := [.int v16, .int v2, .int r27]) (rest := []) hfx (zc_X8_isInView l D tb (q 10) (q 11) (k 11) F v16 v2 r27 (zz_gI z11 3) (zz_gI z11 4) (zz_gL z11 0 0) (zz_gA z11 5) r29 hc30 H.size) (cwV 3 hts gX9_waysToTake_X8_isInView rfl rfl rfl (by decide +kernel) ⟨Nat.le_of_ble_eq_true rfl, Nat.le_of_ble_eq_true rfl⟩) (zz_preV hK hP hD hS hA hE [10, 11] [6] rfl (by decide) rfl 10 rfl rfl rfl) rfl rfl hl.1 rfl (lv_room (Nat.le_of_ble_eq_true rfl)) dX9_waysToTake_108 ⟨Nat.zero_le _, Nat.zero_le _⟩) hP hD hS hA [10, 11] rfl rfl (fun H locs hP hD hS => ?_)
              have hP : va_P D vwCl (zw_9 q k z11) H := hP
              have hD : va_D A (zw_9 q k z11) := hD
              obtain ⟨v31, hv31, hf⟩ := zz_lts hf
              have hK32 : ∀ ls : Array Slot, lv_has ls 9 [(7, .int v19), (4, .int v2), (0, .ref (q 0)), (1, .int u0), (2, .int u1), (5, .int x10)] → W p l e rmX9_waysToTake s m args below meth c H locs 0 0 Q (F0 m 119 ls [.int v31]) := by
                intro ls hl
                refine lv_istore (lv' := [(8, .int v31), (7, .int v19), (4, .int v2), (0, .ref (q 0)), (1, .int u0), (2, .int u1), (5, .int x10)]) hx hb dX9_waysToTake_119 hl (by decide) rfl (fun ls hl => ?_)
                refine lv_aload_n hx hb dX9_waysToTake_121 rfl (lv_at hl 3 rfl) ?_
                refine va_get (D := D) (ci := 9) (v := .ref (q 45)) (C := RX9) (T := TX9) (N := 18) hx hb hts inX9 hown hK hP 0 rfl rfl 13 (by decide) lk82 (fun _ h9 => h9) rfl dX9_waysToTake_122 ?_
                refine lv_iload hx hb dX9_waysToTake_125 (lv_at hl 1 rfl) ?_
                refine lv_bipush (v := (16 : Int32)) hx hb dX9_waysToTake_127 (by decide) ?_
                refine lv_iload_n hx hb dX9_waysToTake_129 rfl (lv_at hl 4 rfl) ?_
                refine lv_isub hx hb dX9_waysToTake_130 ?_
                refine lv_imul hx hb dX9_waysToTake_131 ?_
                refine lv_iload hx hb dX9_waysToTake_132 (lv_at hl 0 rfl) ?_
                refine lv_iload_n hx hb dX9_waysToTake_134 rfl (lv_at hl 4 rfl) ?_
                refine lv_imul hx hb dX9_waysToTake_135 ?_
                refine lv_iadd hx hb dX9_waysToTake_136 ?_
                refine lv_i2l (v := (Int32.toInt64 ((v19 * ((16 : Int32) - u0)) + (v31 * u0)))) hx hb dX9_waysToTake_137 rfl ?_
                refine lv_ldc2 (v := (16 : Int64)) hx hb hown kc430 dX9_waysToTake_138 ?_
                obtain ⟨f33, hc34, hf⟩ := zz_b1s hf
                obtain ⟨S35, hS35, hf⟩ := zz_lts hf
                refine zz_jv (va_runV (As := [.long (Int32.toInt64 ((v19 * ((16 : Int32) - u0)) + (v31 * u0))), .long (16 : Int64)]) (rest := []) hfx (zc_X3_goOn l D tb (q 45) (q 46) (k 46) F (Int32.toInt64 ((v19 * ((16 : Int32) - u0)) + (v31 * u0))) (16 : Int64) (zz_gI z11 23) (zz_gL z11 5) f33 hc34 H.size) (cwV 2 hts gX9_waysToTake_X3_goOn rfl rfl rfl (by decide +kernel) ⟨Nat.le_of_ble_eq_true rfl, Nat.le_of_ble_eq_true rfl⟩) (zz_preV hK hP hD hS hA hE [45, 46] [28] rfl (by decide) rfl 45 rfl rfl rfl) rfl rfl hl.1 rfl (lv_room (Nat.le_of_ble_eq_true rfl)) dX9_waysToTake_141 ⟨Nat.zero_le _, Nat.zero_le _⟩) hP hD hS hA [45, 46] rfl rfl (fun H locs hP hD hS => ?_)
                have hP : va_P D vwCl (zw_9 q k S35) H := by rw [hS35]; exact hP
                have hD : va_D A (zw_9 q k S35) := by rw [hS35]; exact hD
                refine lv_goto (tgt := 158) hx hb dX9_waysToTake_144 (by decide) ?_
                exact Kj158_22 S35 _ _ hP hD hS ls (lv_sub hl [2, 3, 4, 5, 6] rfl) hf
              refine lv_if_eq (tgt := 118) hx hb dX9_waysToTake_111 (by decide) (fun c111 => ?_) (fun c111 => ?_)
              · refine lv_iconst (v := (1 : Int32)) hx hb dX9_waysToTake_118 (by decide) ?_
                refine zz_ti (show v31 = (1 : Int32) by rw [hv31, if_pos c111]) ?_
                exact hK32 ls (lv_sub hl [0, 2, 3, 4, 5, 6] rfl)
              · refine lv_iconst (v := (0 : Int32)) hx hb dX9_waysToTake_114 (by decide) ?_
                refine lv_goto (tgt := 119) hx hb dX9_waysToTake_115 (by decide) ?_
                refine zz_ti (show v31 = (0 : Int32) by rw [hv31, if_neg c111]) ?_
                exact hK32 ls (lv_sub hl [0, 2, 3, 4, 5, 6] rfl)
          refine lv_if_eq (tgt := 87) hx hb dX9_waysToTake_80 (by decide) (fun c80 => ?_) (fun c80 => ?_)
          · refine lv_iconst (v := (1 : Int32)) hx hb dX9_waysToTake_87 (by decide) ?_
            refine zz_ti (show v19 = (1 : Int32) by rw [hv19, if_pos c80]) ?_
            exact hK20 ls (lv_sub hl [0, 1, 2, 3, 4, 5] rfl)
          · refine lv_iconst (v := (0 : Int32)) hx hb dX9_waysToTake_83 (by decide) ?_
            refine lv_goto (tgt := 88) hx hb dX9_waysToTake_84 (by decide) ?_
            refine zz_ti (show v19 = (0 : Int32) by rw [hv19, if_neg c80]) ?_
            exact hK20 ls (lv_sub hl [0, 1, 2, 3, 4, 5] rfl)
    exact hLkL44_11 F (0 : Int32) S9 _ _ hP hD hS ls (lv_sub hl [1, 2, 3, 4, 0] rfl) hf
  · have hf := zz_ps hf c20
    refine lv_lconst (v := (0 : Int64)) hx hb dX9_waysToTake_23 (by decide) ?_
    obtain ⟨rfl, rfl⟩ := zz_e2 hf
    exact hret _ _ _ _ dX9_waysToTake_24 hP hD hS
def rmX9_fogged : Room := { frames := 4, cells := 0, slots := 0, locals := 101 }
set_option maxHeartbeats 4000000 in
set_option maxRecDepth 100000 in
theorem zc_X9_fogged (l : Launch) (D : va_G) (tb : Nat → Nat) (q : Nat → Nat) (k : Nat → ClassId) (F : Nat) (u0 : Int32) (u1 : Int32) (u2 : Int32) (u3 : Int32) (S : zz_M) (r : Int64) (o1 : zz_M) (hf : pX9_fogged F u0 u1 u2 u3 S = some (r, o1)) : zz_Ml l yX9_fogged wsX9_fogged rmX9_fogged D tb [((k 1), .object "CatBeat$Text"), ((k 3), .int), ((k 5), .int), ((k 7), .int), ((k 8), .int), ((k 9), .int), ((k 11), .int), ((k 13), .int), ((k 15), .int), ((k 16), .int), ((k 18), .int), ((k 19), .int), ((k 20), .object "CatBeat$Sheet"), ((k 22), .int), ((k 24), .int), ((k 26), .int), ((k 28), .int), ((k 30), .int), ((k 31), .long), ((k 32), .boolean), ((k 34), .int), ((k 35), .long), ((k 37), .int), ((k 39), .int), ((k 40), .long), ((k 41), .boolean), ((k 43), .int), ((k 44), .long), ((k 46), .long), ((k 47), .int)] [.ref (q 0), .int u0, .int u1, .int u2, .int u3] (zw_9 q k S) (zw_9 q k o1) r := by
  refine zz_ofl (cc := cX9_fogged) (maxL := 11) (by decide) rfl (Nat.le_of_ble_eq_true rfl) ?_
  intro p e s m args below meth c A Q hfx hK hA hE hret H locs hP hD hS ls hl
  obtain ⟨hx, hb, hml, hown, hts⟩ := id hfx
  have kc273 := hts (.constantLong RX9 273 (-9223372036854775806)) (by decide +kernel)
  have kc279 := hts (.constantLong RX9 279 (2)) (by decide +kernel)
  have hl : lv_has ls 11 [(0, .ref (q 0)), (1, .int u0), (2, .int u1), (3, .int u2), (4, .int u3)] := hl
  unfold pX9_fogged at hf
  refine lv_iload_n hx hb dX9_fogged_0 rfl (lv_at hl 1 rfl) ?_
  obtain ⟨j36_1, hj36_1, hf⟩ := zz_lts hf
  have Kj36_1 : ∀  (H : Heap) (locs : List Loc), va_P D vwCl (zw_9 q k S) H → va_D A (zw_9 q k S) → va_S A s.heap H locs → ∀ ls : Array Slot, lv_has ls 11 [] → j36_1 () = some (r, o1) → W p l e rmX9_fogged s m args below meth c H locs 0 0 Q (F0 m 36 ls []) := by
    intro  H locs hP hD hS ls hl hf
    rw [hj36_1] at hf
    refine lv_ldc2 (v := (-9223372036854775806 : Int64)) hx hb hown kc273 dX9_fogged_36 ?_
    obtain ⟨rfl, rfl⟩ := zz_e2 hf
    exact hret _ _ _ _ dX9_fogged_39 hP hD hS
  refine lv_if_lt (tgt := 36) hx hb dX9_fogged_1 (by decide) (fun c1 => ?_) (fun c1 => ?_)
  · have hf := zz_ps hf c1
    exact Kj36_1  _ _ hP hD hS ls (lv_sub hl [] rfl) hf
  · have hf := zz_ng hf c1
    refine lv_iload_n hx hb dX9_fogged_4 rfl (lv_at hl 1 rfl) ?_
    refine lv_bipush (v := (16 : Int32)) hx hb dX9_fogged_5 (by decide) ?_
    refine lv_icmp_gt (tgt := 36) hx hb dX9_fogged_7 (by decide) (fun c7 => ?_) (fun c7 => ?_)
    · have hf := zz_ps hf c7
      exact Kj36_1  _ _ hP hD hS ls (lv_sub hl [] rfl) hf
    · have hf := zz_ng hf c7
      refine lv_iload_n hx hb dX9_fogged_10 rfl (lv_at hl 2 rfl) ?_
      refine lv_if_lt (tgt := 36) hx hb dX9_fogged_11 (by decide) (fun c11 => ?_) (fun c11 => ?_)
      · have hf := zz_ps hf c11
        exact Kj36_1  _ _ hP hD hS ls (lv_sub hl [] rfl) hf
      · have hf := zz_ng hf c11
        refine lv_iload_n hx hb dX9_fogged_14 rfl (lv_at hl 2 rfl) ?_
        refine lv_bipush (v := (9 : Int32)) hx hb dX9_fogged_15 (by decide) ?_
        refine lv_icmp_gt (tgt := 36) hx hb dX9_fogged_17 (by decide) (fun c17 => ?_) (fun c17 => ?_)
        · have hf := zz_ps hf c17
          exact Kj36_1  _ _ hP hD hS ls (lv_sub hl [] rfl) hf
        · have hf := zz_ng hf c17
          refine lv_aload_n hx hb dX9_fogged_20 rfl (lv_at hl 0 rfl) ?_
          refine lv_iload_n hx hb dX9_fogged_21 rfl (lv_at hl 3 rfl) ?_
          obtain ⟨r2, hc3, hf⟩ := zz_b1s hf
          refine zz_ji0 (va_runV (As := [.int u2]) (rest := []) hfx (zc_X9_isThief l D tb q k F u2 S r2 hc3 H.size) (cwV 1 hts gX9_fogged_X9_isThief rfl rfl rfl (by decide +kernel) ⟨Nat.le_of_ble_eq_true rfl, Nat.le_of_ble_eq_true rfl⟩) (zz_pre0V hK hP hD hS hA hE 0 rfl rfl rfl) rfl rfl hl.1 rfl (lv_room (Nat.le_of_ble_eq_true rfl)) dX9_fogged_22 ⟨Nat.zero_le _, Nat.zero_le _⟩) hD hS hA (fun H locs hP hD hS => ?_)
          refine lv_if_eq (tgt := 36) hx hb dX9_fogged_25 (by decide) (fun c25 => ?_) (fun c25 => ?_)
          · have hf := zz_ps hf c25
            exact Kj36_1  _ _ hP hD hS ls (lv_sub hl [] rfl) hf
          · have hf := zz_ng hf c25
            refine lv_iload hx hb dX9_fogged_28 (lv_at hl 4 rfl) ?_
            obtain ⟨r4, hc5, hf⟩ := zz_b1s hf
            refine zz_ji (va_runS (As := [.int u3]) (rest := []) hfx (zc_X9_isEither l D tb  F u3  r4 hc5 H.size) (va_cwS 1 hts gX9_fogged_X9_isEither rfl rfl rfl (by decide +kernel) ⟨Nat.le_of_ble_eq_true rfl, Nat.le_of_ble_eq_true rfl⟩) (zz_preS hK hP hD hS hA hE [] [] rfl (by decide) rfl) rfl rfl hl.1 rfl (lv_room (Nat.le_of_ble_eq_true rfl)) dX9_fogged_30 ⟨Nat.zero_le _, Nat.zero_le _⟩) hP hD hS hA [] rfl rfl (fun H locs hP hD hS => ?_)
            have hP : va_P D vwCl (zw_9 q k S) H := hP
            have hD : va_D A (zw_9 q k S) := hD
            refine lv_if_ne (tgt := 40) hx hb dX9_fogged_33 (by decide) (fun c33 => ?_) (fun c33 => ?_)
            · have hf := zz_ng hf c33
              refine lv_aload_n hx hb dX9_fogged_40 rfl (lv_at hl 0 rfl) ?_
              obtain ⟨S6, hc7, hf⟩ := zz_b1s hf
              refine zz_jv0 (va_runV (As := []) (rest := []) hfx (zc_X9_settle l D tb q k F  S S6 hc7 H.size) (cwV 0 hts gX9_fogged_X9_settle rfl rfl rfl (by decide +kernel) ⟨Nat.le_of_ble_eq_true rfl, Nat.le_of_ble_eq_true rfl⟩) (zz_pre0V hK hP hD hS hA hE 0 rfl rfl rfl) rfl rfl hl.1 rfl (lv_room (Nat.le_of_ble_eq_true rfl)) dX9_fogged_41 ⟨Nat.zero_le _, Nat.zero_le _⟩) hD hS hA (fun H locs hP hD hS => ?_)
              refine lv_aload_n hx hb dX9_fogged_44 rfl (lv_at hl 0 rfl) ?_
              refine lv_iload_n hx hb dX9_fogged_45 rfl (lv_at hl 1 rfl) ?_
              refine lv_iload_n hx hb dX9_fogged_46 rfl (lv_at hl 2 rfl) ?_
              refine lv_iload_n hx hb dX9_fogged_47 rfl (lv_at hl 3 rfl) ?_
              obtain ⟨r8, S9, hc10, hf⟩ := zz_b2s hf
              refine zz_jl0 (va_runV (As := [.int u0, .int u1, .int u2]) (rest := []) hfx (zc_X9_waysToTake l D tb q k F u0 u1 u2 S6 r8 S9 hc10 H.size) (cwV 3 hts gX9_fogged_X9_waysToTake rfl rfl rfl (by decide +kernel) ⟨Nat.le_of_ble_eq_true rfl, Nat.le_of_ble_eq_true rfl⟩) (zz_pre0V hK hP hD hS hA hE 0 rfl rfl rfl) rfl rfl hl.1 rfl (lv_room (Nat.le_of_ble_eq_true rfl)) dX9_fogged_48 ⟨Nat.zero_le _, Nat.zero_le _⟩) hD hS hA (fun H locs hP hD hS => ?_)
              refine lv_lstore (lv' := [(5, .long r8), (0, .ref (q 0)), (1, .int u0), (2, .int u1), (3, .int u2), (4, .int u3)]) hx hb dX9_fogged_51 hl (by decide) rfl (fun ls hl => ?_)
              refine lv_iconst (v := (4 : Int32)) hx hb dX9_fogged_53 (by decide) ?_
              refine lv_iload_n hx hb dX9_fogged_54 rfl (lv_at hl 3 rfl) ?_
              refine lv_iconst (v := (1 : Int32)) hx hb dX9_fogged_55 (by decide) ?_
              refine lv_iadd hx hb dX9_fogged_56 ?_
              refine lv_imul hx hb dX9_fogged_57 ?_
              obtain ⟨v11, hv11, hf⟩ := zz_lts hf
              refine zz_ti hv11 ?_
              refine lv_istore (lv' := [(7, .int v11), (5, .long r8), (0, .ref (q 0)), (1, .int u0), (2, .int u1), (3, .int u2), (4, .int u3)]) hx hb dX9_fogged_58 hl (by decide) rfl (fun ls hl => ?_)
              refine lv_lconst (v := (1 : Int64)) hx hb dX9_fogged_60 (by decide) ?_
              refine lv_iload hx hb dX9_fogged_61 (lv_at hl 0 rfl) ?_
              refine lv_lshl (v := (zz_lshl (1 : Int64) v11)) hx hb dX9_fogged_63 rfl ?_
              obtain ⟨v12, hv12, hf⟩ := zz_lts hf
              refine zz_tl hv12 ?_
              refine lv_lstore (lv' := [(8, .long v12), (7, .int v11), (5, .long r8), (0, .ref (q 0)), (1, .int u0), (2, .int u1), (3, .int u2), (4, .int u3)]) hx hb dX9_fogged_64 hl (by decide) rfl (fun ls hl => ?_)
              refine lv_iconst (v := (0 : Int32)) hx hb dX9_fogged_66 (by decide) ?_
              refine lv_istore (lv' := [(10, .int (0 : Int32)), (8, .long v12), (7, .int v11), (5, .long r8), (0, .ref (q 0)), (1, .int u0), (2, .int u1), (3, .int u2), (4, .int u3)]) hx hb dX9_fogged_67 hl (by decide) rfl (fun ls hl => ?_)
              have hLkL69_15 : ∀ (n69_15 : Nat) (x13 : Int64) (x14 : Int64) (x15 : Int32) (H : Heap) (locs : List Loc), va_P D vwCl (zw_9 q k S9) H → va_D A (zw_9 q k S9) → va_S A s.heap H locs → ∀ ls : Array Slot, lv_has ls 11 [(7, .int v11), (4, .int u3), (5, .long x13), (8, .long x14), (10, .int x15)] → pX9_fogged_L69_15 u3 S9 v11 n69_15 x13 x14 x15 = some (r, o1) → W p l e rmX9_fogged s m args below meth c H locs 0 0 Q (F0 m 69 ls []) := by
                intro n69_15
                induction n69_15 with
                | zero =>
                  intro x13 x14 x15 H locs hP hD hS ls hl hf
                  exact nomatch (show (none : Option _) = some _ from hf)
                | succ n69_15 ihkL69_15 =>
                  intro x13 x14 x15 H locs hP hD hS ls hl hf
                  rw [pX9_fogged_L69_15] at hf
                  refine lv_iload hx hb dX9_fogged_69 (lv_at hl 4 rfl) ?_
                  refine lv_iload hx hb dX9_fogged_71 (lv_at hl 0 rfl) ?_
                  obtain ⟨j109_17, hj109_17, hf⟩ := zz_lts hf
                  have Kj109_17 : ∀  (H : Heap) (locs : List Loc), va_P D vwCl (zw_9 q k S9) H → va_D A (zw_9 q k S9) → va_S A s.heap H locs → ∀ ls : Array Slot, lv_has ls 11 [(4, .int u3), (5, .long x13), (8, .long x14)] → j109_17 () = some (r, o1) → W p l e rmX9_fogged s m args below meth c H locs 0 0 Q (F0 m 109 ls []) := by
                    intro  H locs hP hD hS ls hl hf
                    rw [hj109_17] at hf
                    refine lv_iload hx hb dX9_fogged_109 (lv_at hl 0 rfl) ?_
                    obtain ⟨v18, hv18, hf⟩ := zz_lts hf
                    have hK19 : ∀ ls : Array Slot, lv_has ls 11 [] → W p l e rmX9_fogged s m args below meth c H locs 0 0 Q (F0 m 121 ls [.long v18]) := by
                      intro ls hl
                      obtain ⟨rfl, rfl⟩ := zz_e2 hf
                      exact hret _ _ _ _ dX9_fogged_121 hP hD hS
                    refine lv_if_ne (tgt := 119) hx hb dX9_fogged_111 (by decide) (fun c111 => ?_) (fun c111 => ?_)
                    · refine lv_lload hx hb dX9_fogged_119 (lv_at hl 2 rfl) ?_
                      refine zz_tl (show v18 = x14 by rw [hv18, if_neg c111]) ?_
                      exact hK19 ls (lv_sub hl [] rfl)
                    · refine lv_lload hx hb dX9_fogged_114 (lv_at hl 1 rfl) ?_
                      refine lv_goto (tgt := 121) hx hb dX9_fogged_116 (by decide) ?_
                      refine zz_tl (show v18 = x13 by rw [hv18, if_pos c111]) ?_
                      exact hK19 ls (lv_sub hl [] rfl)
                  refine lv_icmp_ge (tgt := 109) hx hb dX9_fogged_73 (by decide) (fun c73 => ?_) (fun c73 => ?_)
                  · have hf := zz_ps hf c73
                    exact Kj109_17  _ _ hP hD hS ls (lv_sub hl [1, 2, 3] rfl) hf
                  · have hf := zz_ng hf c73
                    refine lv_lload hx hb dX9_fogged_76 (lv_at hl 2 rfl) ?_
                    refine lv_ldc2 (v := (2 : Int64)) hx hb hown kc279 dX9_fogged_78 ?_
                    refine lv_lrem hx hb dX9_fogged_81 (by decide) ?_
                    refine lv_lconst (v := (0 : Int64)) hx hb dX9_fogged_82 (by decide) ?_
                    refine W.lcmp hx hb dX9_fogged_83 ?_
                    refine lv_if_ne (tgt := 109) hx hb dX9_fogged_84 (by decide) (fun c84 => ?_) (fun c84 => ?_)
                    · have hf := zz_ng hf c84
                      exact Kj109_17  _ _ hP hD hS ls (lv_sub hl [1, 2, 3] rfl) hf
                    · have hf := zz_ps hf c84
                      refine lv_lload hx hb dX9_fogged_87 (lv_at hl 2 rfl) ?_
                      refine lv_ldc2 (v := (2 : Int64)) hx hb hown kc279 dX9_fogged_89 ?_
                      refine lv_ldiv hx hb dX9_fogged_92 (by decide) ?_
                      obtain ⟨v20, hv20, hf⟩ := zz_lts hf
                      refine zz_tl hv20 ?_
                      refine lv_lstore (lv' := [(5, .long v20), (7, .int v11), (4, .int u3), (8, .long x14), (10, .int x15)]) hx hb dX9_fogged_93 hl (by decide) rfl (fun ls hl => ?_)
                      refine lv_lload hx hb dX9_fogged_95 (lv_at hl 3 rfl) ?_
                      refine lv_ldc2 (v := (2 : Int64)) hx hb hown kc279 dX9_fogged_97 ?_
                      refine lv_ldiv hx hb dX9_fogged_100 (by decide) ?_
                      obtain ⟨v21, hv21, hf⟩ := zz_lts hf
                      refine zz_tl hv21 ?_
                      refine lv_lstore (lv' := [(8, .long v21), (5, .long v20), (7, .int v11), (4, .int u3), (10, .int x15)]) hx hb dX9_fogged_101 hl (by decide) rfl (fun ls hl => ?_)
                      obtain ⟨v22, hv22, hf⟩ := zz_lts hf
                      refine lv_iinc (v := v22) (lv' := [(10, .int v22), (8, .long v21), (5, .long v20), (7, .int v11), (4, .int u3)]) hx hb dX9_fogged_103 hl (k := 4) rfl (by rw [hv22]; rfl) (by decide) rfl (fun ls hl => ?_)
                      refine lv_goto (tgt := 69) hx hb dX9_fogged_106 (by decide) ?_
                      exact ihkL69_15 v20 v21 v22 _ _ hP hD hS ls (lv_sub hl [3, 4, 2, 1, 0] rfl) hf
              exact hLkL69_15 F r8 v12 (0 : Int32) _ _ hP hD hS ls (lv_sub hl [2, 8, 3, 1, 0] rfl) hf
            · have hf := zz_ps hf c33
              exact Kj36_1  _ _ hP hD hS ls (lv_sub hl [] rfl) hf
def rmX9_nights : Room := { frames := 4, cells := 0, slots := 0, locals := 96 }
set_option maxHeartbeats 4000000 in
set_option maxRecDepth 100000 in
theorem zc_X9_nights (l : Launch) (D : va_G) (tb : Nat → Nat) (q : Nat → Nat) (k : Nat → ClassId) (F : Nat) (u0 : Int32) (u1 : Int32) (u2 : Int32) (S : zz_M) (r : Int32) (o1 : zz_M) (hf : pX9_nights F u0 u1 u2 S = some (r, o1)) : zz_Mi l yX9_nights wsX9_nights rmX9_nights D tb [((k 1), .object "CatBeat$Text"), ((k 3), .int), ((k 5), .int), ((k 7), .int), ((k 8), .int), ((k 9), .int), ((k 11), .int), ((k 13), .int), ((k 15), .int), ((k 16), .int), ((k 18), .int), ((k 19), .int), ((k 20), .object "CatBeat$Sheet"), ((k 22), .int), ((k 24), .int), ((k 26), .int), ((k 28), .int), ((k 30), .int), ((k 31), .long), ((k 32), .boolean), ((k 34), .int), ((k 35), .long), ((k 37), .int), ((k 39), .int), ((k 40), .long), ((k 41), .boolean), ((k 43), .int), ((k 44), .long), ((k 46), .long), ((k 47), .int)] [.ref (q 0), .int u0, .int u1, .int u2] (zw_9 q k S) (zw_9 q k o1) r := by
  refine zz_ofi (cc := cX9_nights) (maxL := 4) (by decide) rfl (Nat.le_of_ble_eq_true rfl) ?_
  intro p e s m args below meth c A Q hfx hK hA hE hret H locs hP hD hS ls hl
  obtain ⟨hx, hb, hml, hown, hts⟩ := id hfx
  have inX9 : ∀ w ∈ u_ws RX9 TX9 18, w ∈ wsX9_nights := by decide +kernel
  have inX2 : ∀ w ∈ u_ws RX2 TX2 2, w ∈ wsX9_nights := by decide +kernel
  have lk70 := hts (.fieldLink RX9 70 "CatBeat" "otherRound" "LCatBeat$Round;") (by decide +kernel)
  have lk76 := hts (.fieldLink RX9 76 "CatBeat" "otherNight" "LCatBeat$Night;") (by decide +kernel)
  have lk59 := hts (.fieldLink RX9 59 "CatBeat" "ground" "LCatBeat$Ground;") (by decide +kernel)
  have lk19 := hts (.fieldLink RX9 19 "CatBeat" "settings" "[I") (by decide +kernel)
  have lk151 := hts (.fieldLink RX9 151 "CatBeat$Night" "places" "[I") (by decide +kernel)
  have lk39 := hts (.fieldLink RX9 39 "CatBeat" "thieves" "LCatBeat$Thieves;") (by decide +kernel)
  have lk25 := hts (.fieldLink RX9 25 "CatBeat" "ward" "LCatBeat$Ward;") (by decide +kernel)
  have hl : lv_has ls 4 [(0, .ref (q 0)), (1, .int u0), (2, .int u1), (3, .int u2)] := hl
  unfold pX9_nights at hf
  refine lv_iload_n hx hb dX9_nights_0 rfl (lv_at hl 2 rfl) ?_
  refine lv_iconst (v := (1 : Int32)) hx hb dX9_nights_1 (by decide) ?_
  obtain ⟨j18_1, hj18_1, hf⟩ := zz_lts hf
  have Kj18_1 : ∀  (H : Heap) (locs : List Loc), va_P D vwCl (zw_9 q k S) H → va_D A (zw_9 q k S) → va_S A s.heap H locs → ∀ ls : Array Slot, lv_has ls 4 [] → j18_1 () = some (r, o1) → W p l e rmX9_nights s m args below meth c H locs 0 0 Q (F0 m 18 ls []) := by
    intro  H locs hP hD hS ls hl hf
    rw [hj18_1] at hf
    refine lv_bipush (v := (-2 : Int32)) hx hb dX9_nights_18 (by decide) ?_
    obtain ⟨rfl, rfl⟩ := zz_e2 hf
    exact hret _ _ _ _ dX9_nights_20 hP hD hS
  refine lv_icmp_lt (tgt := 18) hx hb dX9_nights_2 (by decide) (fun c2 => ?_) (fun c2 => ?_)
  · have hf := zz_ps hf c2
    exact Kj18_1  _ _ hP hD hS ls (lv_sub hl [] rfl) hf
  · have hf := zz_ng hf c2
    refine lv_iload_n hx hb dX9_nights_5 rfl (lv_at hl 2 rfl) ?_
    refine lv_bipush (v := (24 : Int32)) hx hb dX9_nights_6 (by decide) ?_
    refine lv_icmp_gt (tgt := 18) hx hb dX9_nights_8 (by decide) (fun c8 => ?_) (fun c8 => ?_)
    · have hf := zz_ps hf c8
      exact Kj18_1  _ _ hP hD hS ls (lv_sub hl [] rfl) hf
    · have hf := zz_ng hf c8
      refine lv_iload_n hx hb dX9_nights_11 rfl (lv_at hl 3 rfl) ?_
      obtain ⟨r2, hc3, hf⟩ := zz_b1s hf
      refine zz_ji (va_runS (As := [.int u2]) (rest := []) hfx (zc_X9_isEither l D tb  F u2  r2 hc3 H.size) (va_cwS 1 hts gX9_nights_X9_isEither rfl rfl rfl (by decide +kernel) ⟨Nat.le_of_ble_eq_true rfl, Nat.le_of_ble_eq_true rfl⟩) (zz_preS hK hP hD hS hA hE [] [] rfl (by decide) rfl) rfl rfl hl.1 rfl (lv_room (Nat.le_of_ble_eq_true rfl)) dX9_nights_12 ⟨Nat.zero_le _, Nat.zero_le _⟩) hP hD hS hA [] rfl rfl (fun H locs hP hD hS => ?_)
      have hP : va_P D vwCl (zw_9 q k S) H := hP
      have hD : va_D A (zw_9 q k S) := hD
      refine lv_if_ne (tgt := 21) hx hb dX9_nights_15 (by decide) (fun c15 => ?_) (fun c15 => ?_)
      · have hf := zz_ng hf c15
        refine lv_aload_n hx hb dX9_nights_21 rfl (lv_at hl 0 rfl) ?_
        obtain ⟨S4, hc5, hf⟩ := zz_b1s hf
        refine zz_jv0 (va_runV (As := []) (rest := []) hfx (zc_X9_settle l D tb q k F  S S4 hc5 H.size) (cwV 0 hts gX9_nights_X9_settle rfl rfl rfl (by decide +kernel) ⟨Nat.le_of_ble_eq_true rfl, Nat.le_of_ble_eq_true rfl⟩) (zz_pre0V hK hP hD hS hA hE 0 rfl rfl rfl) rfl rfl hl.1 rfl (lv_room (Nat.le_of_ble_eq_true rfl)) dX9_nights_22 ⟨Nat.zero_le _, Nat.zero_le _⟩) hD hS hA (fun H locs hP hD hS => ?_)
        refine lv_aload_n hx hb dX9_nights_25 rfl (lv_at hl 0 rfl) ?_
        refine va_get (D := D) (ci := 9) (v := .ref (q 36)) (C := RX9) (T := TX9) (N := 18) hx hb hts inX9 hown hK hP 0 rfl rfl 10 (by decide) lk70 (fun _ h9 => h9) rfl dX9_nights_26 ?_
        refine lv_iload_n hx hb dX9_nights_29 rfl (lv_at hl 1 rfl) ?_
        refine lv_iload_n hx hb dX9_nights_30 rfl (lv_at hl 2 rfl) ?_
        obtain ⟨f6, f7, hc8, hf⟩ := zz_b2s hf
        obtain ⟨S9, hS9, hf⟩ := zz_lts hf
        refine zz_jv (va_runV (As := [.int u0, .int u1]) (rest := []) hfx (zc_X4_drawLots l D tb (q 36) (q 37) (k 37) F u0 u1 (zz_gI S4 21) (zz_gA S4 18) f6 f7 hc8 H.size) (cwV 2 hts gX9_nights_X4_drawLots rfl rfl rfl (by decide +kernel) ⟨Nat.le_of_ble_eq_true rfl, Nat.le_of_ble_eq_true rfl⟩) (zz_preV hK hP hD hS hA hE [36, 37] [22] rfl (by decide) rfl 36 rfl rfl rfl) rfl rfl hl.1 rfl (lv_room (Nat.le_of_ble_eq_true rfl)) dX9_nights_31 ⟨Nat.zero_le _, Nat.zero_le _⟩) hP hD hS hA [36, 37] rfl rfl (fun H locs hP hD hS => ?_)
        have hP : va_P D vwCl (zw_9 q k S9) H := by rw [hS9]; exact hP
        have hD : va_D A (zw_9 q k S9) := by rw [hS9]; exact hD
        refine lv_aload_n hx hb dX9_nights_34 rfl (lv_at hl 0 rfl) ?_
        refine va_get (D := D) (ci := 9) (v := .ref (q 42)) (C := RX9) (T := TX9) (N := 18) hx hb hts inX9 hown hK hP 0 rfl rfl 12 (by decide) lk76 (fun _ h9 => h9) rfl dX9_nights_35 ?_
        refine lv_aload_n hx hb dX9_nights_38 rfl (lv_at hl 0 rfl) ?_
        refine va_get (D := D) (ci := 9) (v := .ref (q 29)) (C := RX9) (T := TX9) (N := 18) hx hb hts inX9 hown hK hP 0 rfl rfl 8 (by decide) lk59 (fun _ h9 => h9) rfl dX9_nights_39 ?_
        refine lv_aload_n hx hb dX9_nights_42 rfl (lv_at hl 0 rfl) ?_
        refine va_get (D := D) (ci := 9) (v := .ref (q 9)) (C := RX9) (T := TX9) (N := 18) hx hb hts inX9 hown hK hP 0 rfl rfl 2 (by decide) lk19 (fun _ h9 => h9) rfl dX9_nights_43 ?_
        refine lv_iconst (v := (0 : Int32)) hx hb dX9_nights_46 (by decide) ?_
        refine va_iald hx hb hK hP 9 5 rfl rfl (show zz_in (0 : Int32) 4 by decide) dX9_nights_47 ?_
        refine lv_aload_n hx hb dX9_nights_48 rfl (lv_at hl 0 rfl) ?_
        refine va_get (D := D) (ci := 9) (v := .ref (q 36)) (C := RX9) (T := TX9) (N := 18) hx hb hts inX9 hown hK hP 0 rfl rfl 10 (by decide) lk70 (fun _ h9 => h9) rfl dX9_nights_49 ?_
        obtain ⟨f10, f11, hc12, hf⟩ := zz_b2s hf
        obtain ⟨S13, hS13, hf⟩ := zz_lts hf
        refine zz_jv (va_runV (As := [.ref (q 29), .int ((zz_gA S9 4) (Int32.toNatClampNeg (0 : Int32))), .ref (q 36)]) (rest := []) hfx (zc_X2_walk l D tb (q 42) (q 43) (q 44) (q 29) (q 30) (q 31) (q 32) (q 36) (q 37) (k 43) (k 44) (k 30) (k 31) (k 32) (k 37) F ((zz_gA S9 4) (Int32.toNatClampNeg (0 : Int32))) (zz_gA S9 21) (zz_gL S9 4) (zz_gI S9 20) (zz_gA S9 15) (zz_gL S9 1) (zz_gA S9 16) (zz_gI S9 21) (zz_gA S9 18) f10 f11 hc12 H.size) (cwV 3 hts gX9_nights_X2_walk rfl rfl rfl (by decide +kernel) ⟨Nat.le_of_ble_eq_true rfl, Nat.le_of_ble_eq_true rfl⟩) (zz_preV hK hP hD hS hA hE [42, 43, 44, 29, 30, 31, 32, 36, 37] [26, 27, 17, 18, 19, 22] rfl (by decide) rfl 42 rfl rfl rfl) rfl rfl hl.1 rfl (lv_room (Nat.le_of_ble_eq_true rfl)) dX9_nights_52 ⟨Nat.zero_le _, Nat.zero_le _⟩) hP hD hS hA [42, 43, 44, 29, 30, 31, 32, 36, 37] rfl rfl (fun H locs hP hD hS => ?_)
        have hP : va_P D vwCl (zw_9 q k S13) H := by rw [hS13]; exact hP
        have hD : va_D A (zw_9 q k S13) := by rw [hS13]; exact hD
        refine lv_iload_n hx hb dX9_nights_55 rfl (lv_at hl 3 rfl) ?_
        obtain ⟨j86_15, hj86_15, hf⟩ := zz_lts hf
        have Kj86_15 : ∀ (y14 : Int32) (H : Heap) (locs : List Loc), va_P D vwCl (zw_9 q k S13) H → va_D A (zw_9 q k S13) → va_S A s.heap H locs → ∀ ls : Array Slot, lv_has ls 4 [] → j86_15 y14 = some (r, o1) → W p l e rmX9_nights s m args below meth c H locs 0 0 Q (F0 m 86 ls [.int y14]) := by
          intro y14 H locs hP hD hS ls hl hf
          rw [hj86_15] at hf
          obtain ⟨rfl, rfl⟩ := zz_e2 hf
          exact hret _ _ _ _ dX9_nights_86 hP hD hS
        refine lv_if_ne (tgt := 77) hx hb dX9_nights_56 (by decide) (fun c56 => ?_) (fun c56 => ?_)
        · have hf := zz_ng hf c56
          refine lv_aload_n hx hb dX9_nights_77 rfl (lv_at hl 0 rfl) ?_
          refine va_get (D := D) (ci := 9) (v := .ref (q 42)) (C := RX9) (T := TX9) (N := 18) hx hb hts inX9 hown hK hP 0 rfl rfl 12 (by decide) lk76 (fun _ h9 => h9) rfl dX9_nights_78 ?_
          refine va_get (D := D) (ci := 2) (v := .ref (q 43)) (C := RX2) (T := TX2) (N := 2) hx hb hts inX2 hown hK hP 42 rfl rfl 0 (by decide) lk151 (fun _ h9 => h9) rfl dX9_nights_81 ?_
          refine lv_iload_n hx hb dX9_nights_84 rfl (lv_at hl 2 rfl) ?_
          obtain ⟨hg16, hf⟩ := zz_gd hf
          refine va_iald hx hb hK hP 43 26 rfl rfl hg16 dX9_nights_85 ?_
          exact Kj86_15 ((zz_gA S13 21) (Int32.toNatClampNeg u1)) _ _ hP hD hS ls (lv_sub hl [] rfl) hf
        · have hf := zz_ps hf c56
          refine lv_aload_n hx hb dX9_nights_59 rfl (lv_at hl 0 rfl) ?_
          refine va_get (D := D) (ci := 9) (v := .ref (q 14)) (C := RX9) (T := TX9) (N := 18) hx hb hts inX9 hown hK hP 0 rfl rfl 5 (by decide) lk39 (fun _ h9 => h9) rfl dX9_nights_60 ?_
          refine lv_aload_n hx hb dX9_nights_63 rfl (lv_at hl 0 rfl) ?_
          refine va_get (D := D) (ci := 9) (v := .ref (q 10)) (C := RX9) (T := TX9) (N := 18) hx hb hts inX9 hown hK hP 0 rfl rfl 3 (by decide) lk25 (fun _ h9 => h9) rfl dX9_nights_64 ?_
          refine lv_aload_n hx hb dX9_nights_67 rfl (lv_at hl 0 rfl) ?_
          refine va_get (D := D) (ci := 9) (v := .ref (q 42)) (C := RX9) (T := TX9) (N := 18) hx hb hts inX9 hown hK hP 0 rfl rfl 12 (by decide) lk76 (fun _ h9 => h9) rfl dX9_nights_68 ?_
          obtain ⟨r17, hc18, hf⟩ := zz_b1s hf
          refine zz_ji (va_runV (As := [.ref (q 10), .ref (q 42)]) (rest := []) hfx (zc_X7_howManyTake l D tb (q 14) (q 15) (q 16) (q 10) (q 11) (q 42) (q 43) (q 44) (k 15) (k 16) (k 11) (k 43) (k 44) F  (zz_gI S13 6) (zz_gA S13 7) (zz_gA S13 8) (zz_gI S13 3) (zz_gI S13 4) (zz_gL S13 0 0) (zz_gA S13 5) (zz_gA S13 21) (zz_gL S13 4) r17 hc18 H.size) (cwV 2 hts gX9_nights_X7_howManyTake rfl rfl rfl (by decide +kernel) ⟨Nat.le_of_ble_eq_true rfl, Nat.le_of_ble_eq_true rfl⟩) (zz_preV hK hP hD hS hA hE [14, 15, 16, 10, 11, 42, 43, 44] [8, 9, 6, 26, 27] rfl (by decide) rfl 14 rfl rfl rfl) rfl rfl hl.1 rfl (lv_room (Nat.le_of_ble_eq_true rfl)) dX9_nights_71 ⟨Nat.zero_le _, Nat.zero_le _⟩) hP hD hS hA [14, 15, 16, 10, 11, 42, 43, 44] rfl rfl (fun H locs hP hD hS => ?_)
          have hP : va_P D vwCl (zw_9 q k S13) H := hP
          have hD : va_D A (zw_9 q k S13) := hD
          refine lv_goto (tgt := 86) hx hb dX9_nights_74 (by decide) ?_
          exact Kj86_15 r17 _ _ hP hD hS ls (lv_sub hl [] rfl) hf
      · have hf := zz_ps hf c15
        exact Kj18_1  _ _ hP hD hS ls (lv_sub hl [] rfl) hf
def rmX9_sheet : Room := { frames := 2, cells := 0, slots := 0, locals := 45 }
set_option maxHeartbeats 4000000 in
set_option maxRecDepth 100000 in
theorem zc_X9_sheet (l : Launch) (D : va_G) (tb : Nat → Nat) (q : Nat → Nat) (k : Nat → ClassId) (F : Nat) (u0 : Int32) (u1 : Int32) (u2 : Int32) (S : zz_M) (r : Int32) (o1 : zz_M) (hf : pX9_sheet F u0 u1 u2 S = some (r, o1)) : zz_Mi l yX9_sheet wsX9_sheet rmX9_sheet D tb [((k 1), .object "CatBeat$Text"), ((k 3), .int), ((k 5), .int), ((k 7), .int), ((k 8), .int), ((k 9), .int), ((k 11), .int), ((k 13), .int), ((k 15), .int), ((k 16), .int), ((k 18), .int), ((k 19), .int), ((k 20), .object "CatBeat$Sheet"), ((k 22), .int), ((k 24), .int), ((k 26), .int), ((k 28), .int), ((k 30), .int), ((k 31), .long), ((k 32), .boolean), ((k 34), .int), ((k 35), .long), ((k 37), .int), ((k 39), .int), ((k 40), .long), ((k 41), .boolean), ((k 43), .int), ((k 44), .long), ((k 46), .long), ((k 47), .int)] [.ref (q 0), .int u0, .int u1, .int u2] (zw_9 q k S) (zw_9 q k o1) r := by
  refine zz_ofi (cc := cX9_sheet) (maxL := 4) (by decide) rfl (Nat.le_of_ble_eq_true rfl) ?_
  intro p e s m args below meth c A Q hfx hK hA hE hret H locs hP hD hS ls hl
  obtain ⟨hx, hb, hml, hown, hts⟩ := id hfx
  have inX9 : ∀ w ∈ u_ws RX9 TX9 18, w ∈ wsX9_sheet := by decide +kernel
  have lk52 := hts (.fieldLink RX9 52 "CatBeat" "sheets" "[LCatBeat$Sheet;") (by decide +kernel)
  have hl : lv_has ls 4 [(0, .ref (q 0)), (1, .int u0), (2, .int u1), (3, .int u2)] := hl
  unfold pX9_sheet at hf
  refine lv_aload_n hx hb dX9_sheet_0 rfl (lv_at hl 0 rfl) ?_
  refine lv_iload_n hx hb dX9_sheet_1 rfl (lv_at hl 1 rfl) ?_
  obtain ⟨r1, hc2, hf⟩ := zz_b1s hf
  refine zz_ji0 (va_runV (As := [.int u0]) (rest := []) hfx (zc_X9_isSheet l D tb q k F u0 S r1 hc2 H.size) (cwV 1 hts gX9_sheet_X9_isSheet rfl rfl rfl (by decide +kernel) ⟨Nat.le_of_ble_eq_true rfl, Nat.le_of_ble_eq_true rfl⟩) (zz_pre0V hK hP hD hS hA hE 0 rfl rfl rfl) rfl rfl hl.1 rfl (lv_room (Nat.le_of_ble_eq_true rfl)) dX9_sheet_2 ⟨Nat.zero_le _, Nat.zero_le _⟩) hD hS hA (fun H locs hP hD hS => ?_)
  obtain ⟨j21_3, hj21_3, hf⟩ := zz_lts hf
  have Kj21_3 : ∀  (H : Heap) (locs : List Loc), va_P D vwCl (zw_9 q k S) H → va_D A (zw_9 q k S) → va_S A s.heap H locs → ∀ ls : Array Slot, lv_has ls 4 [] → j21_3 () = some (r, o1) → W p l e rmX9_sheet s m args below meth c H locs 0 0 Q (F0 m 21 ls []) := by
    intro  H locs hP hD hS ls hl hf
    rw [hj21_3] at hf
    refine lv_bipush (v := (-2 : Int32)) hx hb dX9_sheet_21 (by decide) ?_
    obtain ⟨rfl, rfl⟩ := zz_e2 hf
    exact hret _ _ _ _ dX9_sheet_23 hP hD hS
  refine lv_if_eq (tgt := 21) hx hb dX9_sheet_5 (by decide) (fun c5 => ?_) (fun c5 => ?_)
  · have hf := zz_ps hf c5
    exact Kj21_3  _ _ hP hD hS ls (lv_sub hl [] rfl) hf
  · have hf := zz_ng hf c5
    refine lv_iload_n hx hb dX9_sheet_8 rfl (lv_at hl 2 rfl) ?_
    obtain ⟨r4, hc5, hf⟩ := zz_b1s hf
    refine zz_ji (va_runS (As := [.int u1]) (rest := []) hfx (zc_X5_isForm l D tb  F u1  r4 hc5 H.size) (va_cwS 1 hts gX9_sheet_X5_isForm rfl rfl rfl (by decide +kernel) ⟨Nat.le_of_ble_eq_true rfl, Nat.le_of_ble_eq_true rfl⟩) (zz_preS hK hP hD hS hA hE [] [] rfl (by decide) rfl) rfl rfl hl.1 rfl (lv_room (Nat.le_of_ble_eq_true rfl)) dX9_sheet_9 ⟨Nat.zero_le _, Nat.zero_le _⟩) hP hD hS hA [] rfl rfl (fun H locs hP hD hS => ?_)
    have hP : va_P D vwCl (zw_9 q k S) H := hP
    have hD : va_D A (zw_9 q k S) := hD
    refine lv_if_eq (tgt := 21) hx hb dX9_sheet_12 (by decide) (fun c12 => ?_) (fun c12 => ?_)
    · have hf := zz_ps hf c12
      exact Kj21_3  _ _ hP hD hS ls (lv_sub hl [] rfl) hf
    · have hf := zz_ng hf c12
      refine lv_iload_n hx hb dX9_sheet_15 rfl (lv_at hl 3 rfl) ?_
      refine lv_bipush (v := (60 : Int32)) hx hb dX9_sheet_16 (by decide) ?_
      refine lv_icmp_le (tgt := 24) hx hb dX9_sheet_18 (by decide) (fun c18 => ?_) (fun c18 => ?_)
      · have hf := zz_ps hf c18
        refine lv_iload_n hx hb dX9_sheet_24 rfl (lv_at hl 3 rfl) ?_
        refine lv_if_ge (tgt := 34) hx hb dX9_sheet_25 (by decide) (fun c25 => ?_) (fun c25 => ?_)
        · have hf := zz_ps hf c25
          refine lv_aload_n hx hb dX9_sheet_34 rfl (lv_at hl 0 rfl) ?_
          refine va_get (D := D) (ci := 9) (v := .ref (q 20)) (C := RX9) (T := TX9) (N := 18) hx hb hts inX9 hown hK hP 0 rfl rfl 7 (by decide) lk52 (fun _ h9 => h9) rfl dX9_sheet_35 ?_
          refine lv_iload_n hx hb dX9_sheet_38 rfl (lv_at hl 1 rfl) ?_
          by_cases ci39_0 : u0 = (0 : Int32)
          · have hf := zz_ps hf ci39_0
            have hl : lv_has ls 4 [(0, .ref (q 0)), (1, .int (0 : Int32)), (2, .int u1), (3, .int u2)] := ci39_0 ▸ hl
            refine zz_ti (y := (0 : Int32)) ci39_0.symm ?_
            refine va_aldq hx hb hK hP 20 12 rfl rfl (show zz_in (0 : Int32) 4 by decide) dX9_sheet_39 ?_
            refine W.eq (g2 := F0 m 40 ls [.ref (q 21)]) rfl ?_
            refine lv_iload_n hx hb dX9_sheet_40 rfl (lv_at hl 2 rfl) ?_
            refine lv_iload_n hx hb dX9_sheet_41 rfl (lv_at hl 3 rfl) ?_
            obtain ⟨f6, f7, f8, f9, hc10, hf⟩ := zz_b4s hf
            obtain ⟨S11, hS11, hf⟩ := zz_lts hf
            refine zz_jv (va_runV (As := [.int u1, .int u2]) (rest := []) hfx (zc_X5_renew l D tb (q 21) (q 22) (k 22) F u1 u2 (zz_gI S 8) (zz_gI S 9) (zz_gI S 10) (zz_gA S 11) f6 f7 f8 f9 hc10 H.size) (cwV 2 hts gX9_sheet_X5_renew rfl rfl rfl (by decide +kernel) ⟨Nat.le_of_ble_eq_true rfl, Nat.le_of_ble_eq_true rfl⟩) (zz_preV hK hP hD hS hA hE [21, 22] [13] rfl (by decide) rfl 21 rfl rfl rfl) rfl rfl hl.1 rfl (lv_room (Nat.le_of_ble_eq_true rfl)) dX9_sheet_42 ⟨Nat.zero_le _, Nat.zero_le _⟩) hP hD hS hA [21, 22] rfl rfl (fun H locs hP hD hS => ?_)
            have hP : va_P D vwCl (zw_9 q k S11) H := by rw [hS11]; exact hP
            have hD : va_D A (zw_9 q k S11) := by rw [hS11]; exact hD
            refine lv_iload_n hx hb dX9_sheet_45 rfl (lv_at hl 3 rfl) ?_
            obtain ⟨rfl, rfl⟩ := zz_e2 hf
            exact hret _ _ _ _ dX9_sheet_46 hP hD hS
          have hf := zz_ng hf ci39_0
          by_cases ci39_1 : u0 = (1 : Int32)
          · have hf := zz_ps hf ci39_1
            have hl : lv_has ls 4 [(0, .ref (q 0)), (1, .int (1 : Int32)), (2, .int u1), (3, .int u2)] := ci39_1 ▸ hl
            refine zz_ti (y := (1 : Int32)) ci39_1.symm ?_
            refine va_aldq hx hb hK hP 20 12 rfl rfl (show zz_in (1 : Int32) 4 by decide) dX9_sheet_39 ?_
            refine W.eq (g2 := F0 m 40 ls [.ref (q 23)]) rfl ?_
            refine lv_iload_n hx hb dX9_sheet_40 rfl (lv_at hl 2 rfl) ?_
            refine lv_iload_n hx hb dX9_sheet_41 rfl (lv_at hl 3 rfl) ?_
            obtain ⟨f12, f13, f14, f15, hc16, hf⟩ := zz_b4s hf
            obtain ⟨S17, hS17, hf⟩ := zz_lts hf
            refine zz_jv (va_runV (As := [.int u1, .int u2]) (rest := []) hfx (zc_X5_renew l D tb (q 23) (q 24) (k 24) F u1 u2 (zz_gI S 11) (zz_gI S 12) (zz_gI S 13) (zz_gA S 12) f12 f13 f14 f15 hc16 H.size) (cwV 2 hts gX9_sheet_X5_renew rfl rfl rfl (by decide +kernel) ⟨Nat.le_of_ble_eq_true rfl, Nat.le_of_ble_eq_true rfl⟩) (zz_preV hK hP hD hS hA hE [23, 24] [14] rfl (by decide) rfl 23 rfl rfl rfl) rfl rfl hl.1 rfl (lv_room (Nat.le_of_ble_eq_true rfl)) dX9_sheet_42 ⟨Nat.zero_le _, Nat.zero_le _⟩) hP hD hS hA [23, 24] rfl rfl (fun H locs hP hD hS => ?_)
            have hP : va_P D vwCl (zw_9 q k S17) H := by rw [hS17]; exact hP
            have hD : va_D A (zw_9 q k S17) := by rw [hS17]; exact hD
            refine lv_iload_n hx hb dX9_sheet_45 rfl (lv_at hl 3 rfl) ?_
            obtain ⟨rfl, rfl⟩ := zz_e2 hf
            exact hret _ _ _ _ dX9_sheet_46 hP hD hS
          have hf := zz_ng hf ci39_1
          by_cases ci39_2 : u0 = (2 : Int32)
          · have hf := zz_ps hf ci39_2
            have hl : lv_has ls 4 [(0, .ref (q 0)), (1, .int (2 : Int32)), (2, .int u1), (3, .int u2)] := ci39_2 ▸ hl
            refine zz_ti (y := (2 : Int32)) ci39_2.symm ?_
            refine va_aldq hx hb hK hP 20 12 rfl rfl (show zz_in (2 : Int32) 4 by decide) dX9_sheet_39 ?_
            refine W.eq (g2 := F0 m 40 ls [.ref (q 25)]) rfl ?_
            refine lv_iload_n hx hb dX9_sheet_40 rfl (lv_at hl 2 rfl) ?_
            refine lv_iload_n hx hb dX9_sheet_41 rfl (lv_at hl 3 rfl) ?_
            obtain ⟨f18, f19, f20, f21, hc22, hf⟩ := zz_b4s hf
            obtain ⟨S23, hS23, hf⟩ := zz_lts hf
            refine zz_jv (va_runV (As := [.int u1, .int u2]) (rest := []) hfx (zc_X5_renew l D tb (q 25) (q 26) (k 26) F u1 u2 (zz_gI S 14) (zz_gI S 15) (zz_gI S 16) (zz_gA S 13) f18 f19 f20 f21 hc22 H.size) (cwV 2 hts gX9_sheet_X5_renew rfl rfl rfl (by decide +kernel) ⟨Nat.le_of_ble_eq_true rfl, Nat.le_of_ble_eq_true rfl⟩) (zz_preV hK hP hD hS hA hE [25, 26] [15] rfl (by decide) rfl 25 rfl rfl rfl) rfl rfl hl.1 rfl (lv_room (Nat.le_of_ble_eq_true rfl)) dX9_sheet_42 ⟨Nat.zero_le _, Nat.zero_le _⟩) hP hD hS hA [25, 26] rfl rfl (fun H locs hP hD hS => ?_)
            have hP : va_P D vwCl (zw_9 q k S23) H := by rw [hS23]; exact hP
            have hD : va_D A (zw_9 q k S23) := by rw [hS23]; exact hD
            refine lv_iload_n hx hb dX9_sheet_45 rfl (lv_at hl 3 rfl) ?_
            obtain ⟨rfl, rfl⟩ := zz_e2 hf
            exact hret _ _ _ _ dX9_sheet_46 hP hD hS
          have hf := zz_ng hf ci39_2
          by_cases ci39_3 : u0 = (3 : Int32)
          · have hf := zz_ps hf ci39_3
            have hl : lv_has ls 4 [(0, .ref (q 0)), (1, .int (3 : Int32)), (2, .int u1), (3, .int u2)] := ci39_3 ▸ hl
            refine zz_ti (y := (3 : Int32)) ci39_3.symm ?_
            refine va_aldq hx hb hK hP 20 12 rfl rfl (show zz_in (3 : Int32) 4 by decide) dX9_sheet_39 ?_
            refine W.eq (g2 := F0 m 40 ls [.ref (q 27)]) rfl ?_
            refine lv_iload_n hx hb dX9_sheet_40 rfl (lv_at hl 2 rfl) ?_
            refine lv_iload_n hx hb dX9_sheet_41 rfl (lv_at hl 3 rfl) ?_
            obtain ⟨f24, f25, f26, f27, hc28, hf⟩ := zz_b4s hf
            obtain ⟨S29, hS29, hf⟩ := zz_lts hf
            refine zz_jv (va_runV (As := [.int u1, .int u2]) (rest := []) hfx (zc_X5_renew l D tb (q 27) (q 28) (k 28) F u1 u2 (zz_gI S 17) (zz_gI S 18) (zz_gI S 19) (zz_gA S 14) f24 f25 f26 f27 hc28 H.size) (cwV 2 hts gX9_sheet_X5_renew rfl rfl rfl (by decide +kernel) ⟨Nat.le_of_ble_eq_true rfl, Nat.le_of_ble_eq_true rfl⟩) (zz_preV hK hP hD hS hA hE [27, 28] [16] rfl (by decide) rfl 27 rfl rfl rfl) rfl rfl hl.1 rfl (lv_room (Nat.le_of_ble_eq_true rfl)) dX9_sheet_42 ⟨Nat.zero_le _, Nat.zero_le _⟩) hP hD hS hA [27, 28] rfl rfl (fun H locs hP hD hS => ?_)
            have hP : va_P D vwCl (zw_9 q k S29) H := by rw [hS29]; exact hP
            have hD : va_D A (zw_9 q k S29) := by rw [hS29]; exact hD
            refine lv_iload_n hx hb dX9_sheet_45 rfl (lv_at hl 3 rfl) ?_
            obtain ⟨rfl, rfl⟩ := zz_e2 hf
            exact hret _ _ _ _ dX9_sheet_46 hP hD hS
          have hf := zz_ng hf ci39_3
          exact nomatch hf
        · have hf := zz_ng hf c25
          refine lv_aload_n hx hb dX9_sheet_28 rfl (lv_at hl 0 rfl) ?_
          refine lv_iconst (v := (5 : Int32)) hx hb dX9_sheet_29 (by decide) ?_
          obtain ⟨r30, S31, hc32, hf⟩ := zz_b2s hf
          refine zz_ji0 (va_runV (As := [.int (5 : Int32)]) (rest := []) hfx (zc_X9_found l D tb q k F (5 : Int32) S r30 S31 hc32 H.size) (cwV 1 hts gX9_sheet_X9_found rfl rfl rfl (by decide +kernel) ⟨Nat.le_of_ble_eq_true rfl, Nat.le_of_ble_eq_true rfl⟩) (zz_pre0V hK hP hD hS hA hE 0 rfl rfl rfl) rfl rfl hl.1 rfl (lv_room (Nat.le_of_ble_eq_true rfl)) dX9_sheet_30 ⟨Nat.zero_le _, Nat.zero_le _⟩) hD hS hA (fun H locs hP hD hS => ?_)
          obtain ⟨rfl, rfl⟩ := zz_e2 hf
          exact hret _ _ _ _ dX9_sheet_33 hP hD hS
      · have hf := zz_ng hf c18
        exact Kj21_3  _ _ hP hD hS ls (lv_sub hl [] rfl) hf
def rmX9_lose : Room := { frames := 1, cells := 0, slots := 0, locals := 21 }
set_option maxHeartbeats 4000000 in
set_option maxRecDepth 100000 in
theorem zc_X9_lose (l : Launch) (D : va_G) (tb : Nat → Nat) (q : Nat → Nat) (k : Nat → ClassId) (F : Nat) (u0 : Int32) (S : zz_M) (r : Int32) (o1 : zz_M) (hf : pX9_lose F u0 S = some (r, o1)) : zz_Mi l yX9_lose wsX9_lose rmX9_lose D tb [((k 1), .object "CatBeat$Text"), ((k 3), .int), ((k 5), .int), ((k 7), .int), ((k 8), .int), ((k 9), .int), ((k 11), .int), ((k 13), .int), ((k 15), .int), ((k 16), .int), ((k 18), .int), ((k 19), .int), ((k 20), .object "CatBeat$Sheet"), ((k 22), .int), ((k 24), .int), ((k 26), .int), ((k 28), .int), ((k 30), .int), ((k 31), .long), ((k 32), .boolean), ((k 34), .int), ((k 35), .long), ((k 37), .int), ((k 39), .int), ((k 40), .long), ((k 41), .boolean), ((k 43), .int), ((k 44), .long), ((k 46), .long), ((k 47), .int)] [.ref (q 0), .int u0] (zw_9 q k S) (zw_9 q k o1) r := by
  refine zz_ofi (cc := cX9_lose) (maxL := 2) (by decide) rfl (Nat.le_of_ble_eq_true rfl) ?_
  intro p e s m args below meth c A Q hfx hK hA hE hret H locs hP hD hS ls hl
  obtain ⟨hx, hb, hml, hown, hts⟩ := id hfx
  have inX9 : ∀ w ∈ u_ws RX9 TX9 18, w ∈ wsX9_lose := by decide +kernel
  have inX5 : ∀ w ∈ u_ws RX5 TX5 4, w ∈ wsX9_lose := by decide +kernel
  have lk52 := hts (.fieldLink RX9 52 "CatBeat" "sheets" "[LCatBeat$Sheet;") (by decide +kernel)
  have lk235 := hts (.fieldLink RX9 235 "CatBeat$Sheet" "lost" "Z") (by decide +kernel)
  have lk291 := hts (.fieldLink RX9 291 "CatBeat$Sheet" "size" "I") (by decide +kernel)
  have hl : lv_has ls 2 [(0, .ref (q 0)), (1, .int u0)] := hl
  unfold pX9_lose at hf
  refine lv_aload_n hx hb dX9_lose_0 rfl (lv_at hl 0 rfl) ?_
  refine lv_iload_n hx hb dX9_lose_1 rfl (lv_at hl 1 rfl) ?_
  obtain ⟨r1, hc2, hf⟩ := zz_b1s hf
  refine zz_ji0 (va_runV (As := [.int u0]) (rest := []) hfx (zc_X9_isSheet l D tb q k F u0 S r1 hc2 H.size) (cwV 1 hts gX9_lose_X9_isSheet rfl rfl rfl (by decide +kernel) ⟨Nat.le_of_ble_eq_true rfl, Nat.le_of_ble_eq_true rfl⟩) (zz_pre0V hK hP hD hS hA hE 0 rfl rfl rfl) rfl rfl hl.1 rfl (lv_room (Nat.le_of_ble_eq_true rfl)) dX9_lose_2 ⟨Nat.zero_le _, Nat.zero_le _⟩) hD hS hA (fun H locs hP hD hS => ?_)
  refine lv_if_ne (tgt := 11) hx hb dX9_lose_5 (by decide) (fun c5 => ?_) (fun c5 => ?_)
  · have hf := zz_ng hf c5
    refine lv_aload_n hx hb dX9_lose_11 rfl (lv_at hl 0 rfl) ?_
    refine va_get (D := D) (ci := 9) (v := .ref (q 20)) (C := RX9) (T := TX9) (N := 18) hx hb hts inX9 hown hK hP 0 rfl rfl 7 (by decide) lk52 (fun _ h9 => h9) rfl dX9_lose_12 ?_
    refine lv_iload_n hx hb dX9_lose_15 rfl (lv_at hl 1 rfl) ?_
    by_cases ci16_0 : u0 = (0 : Int32)
    · have hf := zz_ps hf ci16_0
      have hl : lv_has ls 2 [(0, .ref (q 0)), (1, .int (0 : Int32))] := ci16_0 ▸ hl
      refine zz_ti (y := (0 : Int32)) ci16_0.symm ?_
      refine va_aldq hx hb hK hP 20 12 rfl rfl (show zz_in (0 : Int32) 4 by decide) dX9_lose_16 ?_
      refine W.eq (g2 := F0 m 17 ls [.ref (q 21)]) rfl ?_
      refine va_get (D := D) (ci := 5) (v := .int (zz_gI S 8)) (C := RX5) (T := TX5) (N := 4) hx hb hts inX5 hown hK hP 21 rfl rfl 1 (by decide) lk235 (fun _ h9 => h9) rfl dX9_lose_17 ?_
      refine lv_if_eq (tgt := 29) hx hb dX9_lose_20 (by decide) (fun c20 => ?_) (fun c20 => ?_)
      · have hf := zz_ps hf c20
        refine lv_aload_n hx hb dX9_lose_29 rfl (lv_at hl 0 rfl) ?_
        refine va_get (D := D) (ci := 9) (v := .ref (q 20)) (C := RX9) (T := TX9) (N := 18) hx hb hts inX9 hown hK hP 0 rfl rfl 7 (by decide) lk52 (fun _ h9 => h9) rfl dX9_lose_30 ?_
        refine lv_iload_n hx hb dX9_lose_33 rfl (lv_at hl 1 rfl) ?_
        refine va_aldq hx hb hK hP 20 12 rfl rfl (show zz_in (0 : Int32) 4 by decide) dX9_lose_34 ?_
        refine W.eq (g2 := F0 m 35 ls [.ref (q 21)]) rfl ?_
        refine lv_iconst (v := (1 : Int32)) hx hb dX9_lose_35 (by decide) ?_
        obtain ⟨S3, hS3, hf⟩ := zz_lts hf
        refine va_put (D := D) (ci := 5) (v := .int (1 : Int32)) (ty := .boolean) (C := RX5) (T := TX5) (N := 4) hx hb hts inX5 tyX5 tyX5_ok nmX5 hown hK hP hD hS 21 rfl rfl 1 (by decide) lk235 (fun _ h9 => h9) rfl (by decide +kernel) rfl rfl (Nat.le_of_ble_eq_true rfl) dX9_lose_36 (fun H locs hP hD hS => ?_)
        have hP : va_P D vwCl (zw_9 q k S3) H := by rw [hS3]; exact hP
        have hD : va_D A (zw_9 q k S3) := by rw [hS3]; exact hD
        refine lv_aload_n hx hb dX9_lose_39 rfl (lv_at hl 0 rfl) ?_
        refine va_get (D := D) (ci := 9) (v := .ref (q 20)) (C := RX9) (T := TX9) (N := 18) hx hb hts inX9 hown hK hP 0 rfl rfl 7 (by decide) lk52 (fun _ h9 => h9) rfl dX9_lose_40 ?_
        refine lv_iload_n hx hb dX9_lose_43 rfl (lv_at hl 1 rfl) ?_
        refine va_aldq hx hb hK hP 20 12 rfl rfl (show zz_in (0 : Int32) 4 by decide) dX9_lose_44 ?_
        refine W.eq (g2 := F0 m 45 ls [.ref (q 21)]) rfl ?_
        refine va_get (D := D) (ci := 5) (v := .int (zz_gI S3 10)) (C := RX5) (T := TX5) (N := 4) hx hb hts inX5 hown hK hP 21 rfl rfl 3 (by decide) lk291 (fun _ h9 => h9) rfl dX9_lose_45 ?_
        obtain ⟨rfl, rfl⟩ := zz_e2 hf
        exact hret _ _ _ _ dX9_lose_48 hP hD hS
      · have hf := zz_ng hf c20
        refine lv_aload_n hx hb dX9_lose_23 rfl (lv_at hl 0 rfl) ?_
        refine lv_iconst (v := (1 : Int32)) hx hb dX9_lose_24 (by decide) ?_
        obtain ⟨r4, S5, hc6, hf⟩ := zz_b2s hf
        refine zz_ji0 (va_runV (As := [.int (1 : Int32)]) (rest := []) hfx (zc_X9_found l D tb q k F (1 : Int32) S r4 S5 hc6 H.size) (cwV 1 hts gX9_lose_X9_found rfl rfl rfl (by decide +kernel) ⟨Nat.le_of_ble_eq_true rfl, Nat.le_of_ble_eq_true rfl⟩) (zz_pre0V hK hP hD hS hA hE 0 rfl rfl rfl) rfl rfl hl.1 rfl (lv_room (Nat.le_of_ble_eq_true rfl)) dX9_lose_25 ⟨Nat.zero_le _, Nat.zero_le _⟩) hD hS hA (fun H locs hP hD hS => ?_)
        obtain ⟨rfl, rfl⟩ := zz_e2 hf
        exact hret _ _ _ _ dX9_lose_28 hP hD hS
    have hf := zz_ng hf ci16_0
    by_cases ci16_1 : u0 = (1 : Int32)
    · have hf := zz_ps hf ci16_1
      have hl : lv_has ls 2 [(0, .ref (q 0)), (1, .int (1 : Int32))] := ci16_1 ▸ hl
      refine zz_ti (y := (1 : Int32)) ci16_1.symm ?_
      refine va_aldq hx hb hK hP 20 12 rfl rfl (show zz_in (1 : Int32) 4 by decide) dX9_lose_16 ?_
      refine W.eq (g2 := F0 m 17 ls [.ref (q 23)]) rfl ?_
      refine va_get (D := D) (ci := 5) (v := .int (zz_gI S 11)) (C := RX5) (T := TX5) (N := 4) hx hb hts inX5 hown hK hP 23 rfl rfl 1 (by decide) lk235 (fun _ h9 => h9) rfl dX9_lose_17 ?_
      refine lv_if_eq (tgt := 29) hx hb dX9_lose_20 (by decide) (fun c20 => ?_) (fun c20 => ?_)
      · have hf := zz_ps hf c20
        refine lv_aload_n hx hb dX9_lose_29 rfl (lv_at hl 0 rfl) ?_
        refine va_get (D := D) (ci := 9) (v := .ref (q 20)) (C := RX9) (T := TX9) (N := 18) hx hb hts inX9 hown hK hP 0 rfl rfl 7 (by decide) lk52 (fun _ h9 => h9) rfl dX9_lose_30 ?_
        refine lv_iload_n hx hb dX9_lose_33 rfl (lv_at hl 1 rfl) ?_
        refine va_aldq hx hb hK hP 20 12 rfl rfl (show zz_in (1 : Int32) 4 by decide) dX9_lose_34 ?_
        refine W.eq (g2 := F0 m 35 ls [.ref (q 23)]) rfl ?_
        refine lv_iconst (v := (1 : Int32)) hx hb dX9_lose_35 (by decide) ?_
        obtain ⟨S7, hS7, hf⟩ := zz_lts hf
        refine va_put (D := D) (ci := 5) (v := .int (1 : Int32)) (ty := .boolean) (C := RX5) (T := TX5) (N := 4) hx hb hts inX5 tyX5 tyX5_ok nmX5 hown hK hP hD hS 23 rfl rfl 1 (by decide) lk235 (fun _ h9 => h9) rfl (by decide +kernel) rfl rfl (Nat.le_of_ble_eq_true rfl) dX9_lose_36 (fun H locs hP hD hS => ?_)
        have hP : va_P D vwCl (zw_9 q k S7) H := by rw [hS7]; exact hP
        have hD : va_D A (zw_9 q k S7) := by rw [hS7]; exact hD
        refine lv_aload_n hx hb dX9_lose_39 rfl (lv_at hl 0 rfl) ?_
        refine va_get (D := D) (ci := 9) (v := .ref (q 20)) (C := RX9) (T := TX9) (N := 18) hx hb hts inX9 hown hK hP 0 rfl rfl 7 (by decide) lk52 (fun _ h9 => h9) rfl dX9_lose_40 ?_
        refine lv_iload_n hx hb dX9_lose_43 rfl (lv_at hl 1 rfl) ?_
        refine va_aldq hx hb hK hP 20 12 rfl rfl (show zz_in (1 : Int32) 4 by decide) dX9_lose_44 ?_
        refine W.eq (g2 := F0 m 45 ls [.ref (q 23)]) rfl ?_
        refine va_get (D := D) (ci := 5) (v := .int (zz_gI S7 13)) (C := RX5) (T := TX5) (N := 4) hx hb hts inX5 hown hK hP 23 rfl rfl 3 (by decide) lk291 (fun _ h9 => h9) rfl dX9_lose_45 ?_
        obtain ⟨rfl, rfl⟩ := zz_e2 hf
        exact hret _ _ _ _ dX9_lose_48 hP hD hS
      · have hf := zz_ng hf c20
        refine lv_aload_n hx hb dX9_lose_23 rfl (lv_at hl 0 rfl) ?_
        refine lv_iconst (v := (1 : Int32)) hx hb dX9_lose_24 (by decide) ?_
        obtain ⟨r8, S9, hc10, hf⟩ := zz_b2s hf
        refine zz_ji0 (va_runV (As := [.int (1 : Int32)]) (rest := []) hfx (zc_X9_found l D tb q k F (1 : Int32) S r8 S9 hc10 H.size) (cwV 1 hts gX9_lose_X9_found rfl rfl rfl (by decide +kernel) ⟨Nat.le_of_ble_eq_true rfl, Nat.le_of_ble_eq_true rfl⟩) (zz_pre0V hK hP hD hS hA hE 0 rfl rfl rfl) rfl rfl hl.1 rfl (lv_room (Nat.le_of_ble_eq_true rfl)) dX9_lose_25 ⟨Nat.zero_le _, Nat.zero_le _⟩) hD hS hA (fun H locs hP hD hS => ?_)
        obtain ⟨rfl, rfl⟩ := zz_e2 hf
        exact hret _ _ _ _ dX9_lose_28 hP hD hS
    have hf := zz_ng hf ci16_1
    by_cases ci16_2 : u0 = (2 : Int32)
    · have hf := zz_ps hf ci16_2
      have hl : lv_has ls 2 [(0, .ref (q 0)), (1, .int (2 : Int32))] := ci16_2 ▸ hl
      refine zz_ti (y := (2 : Int32)) ci16_2.symm ?_
      refine va_aldq hx hb hK hP 20 12 rfl rfl (show zz_in (2 : Int32) 4 by decide) dX9_lose_16 ?_
      refine W.eq (g2 := F0 m 17 ls [.ref (q 25)]) rfl ?_
      refine va_get (D := D) (ci := 5) (v := .int (zz_gI S 14)) (C := RX5) (T := TX5) (N := 4) hx hb hts inX5 hown hK hP 25 rfl rfl 1 (by decide) lk235 (fun _ h9 => h9) rfl dX9_lose_17 ?_
      refine lv_if_eq (tgt := 29) hx hb dX9_lose_20 (by decide) (fun c20 => ?_) (fun c20 => ?_)
      · have hf := zz_ps hf c20
        refine lv_aload_n hx hb dX9_lose_29 rfl (lv_at hl 0 rfl) ?_
        refine va_get (D := D) (ci := 9) (v := .ref (q 20)) (C := RX9) (T := TX9) (N := 18) hx hb hts inX9 hown hK hP 0 rfl rfl 7 (by decide) lk52 (fun _ h9 => h9) rfl dX9_lose_30 ?_
        refine lv_iload_n hx hb dX9_lose_33 rfl (lv_at hl 1 rfl) ?_
        refine va_aldq hx hb hK hP 20 12 rfl rfl (show zz_in (2 : Int32) 4 by decide) dX9_lose_34 ?_
        refine W.eq (g2 := F0 m 35 ls [.ref (q 25)]) rfl ?_
        refine lv_iconst (v := (1 : Int32)) hx hb dX9_lose_35 (by decide) ?_
        obtain ⟨S11, hS11, hf⟩ := zz_lts hf
        refine va_put (D := D) (ci := 5) (v := .int (1 : Int32)) (ty := .boolean) (C := RX5) (T := TX5) (N := 4) hx hb hts inX5 tyX5 tyX5_ok nmX5 hown hK hP hD hS 25 rfl rfl 1 (by decide) lk235 (fun _ h9 => h9) rfl (by decide +kernel) rfl rfl (Nat.le_of_ble_eq_true rfl) dX9_lose_36 (fun H locs hP hD hS => ?_)
        have hP : va_P D vwCl (zw_9 q k S11) H := by rw [hS11]; exact hP
        have hD : va_D A (zw_9 q k S11) := by rw [hS11]; exact hD
        refine lv_aload_n hx hb dX9_lose_39 rfl (lv_at hl 0 rfl) ?_
        refine va_get (D := D) (ci := 9) (v := .ref (q 20)) (C := RX9) (T := TX9) (N := 18) hx hb hts inX9 hown hK hP 0 rfl rfl 7 (by decide) lk52 (fun _ h9 => h9) rfl dX9_lose_40 ?_
        refine lv_iload_n hx hb dX9_lose_43 rfl (lv_at hl 1 rfl) ?_
        refine va_aldq hx hb hK hP 20 12 rfl rfl (show zz_in (2 : Int32) 4 by decide) dX9_lose_44 ?_
        refine W.eq (g2 := F0 m 45 ls [.ref (q 25)]) rfl ?_
        refine va_get (D := D) (ci := 5) (v := .int (zz_gI S11 16)) (C := RX5) (T := TX5) (N := 4) hx hb hts inX5 hown hK hP 25 rfl rfl 3 (by decide) lk291 (fun _ h9 => h9) rfl dX9_lose_45 ?_
        obtain ⟨rfl, rfl⟩ := zz_e2 hf
        exact hret _ _ _ _ dX9_lose_48 hP hD hS
      · have hf := zz_ng hf c20
        refine lv_aload_n hx hb dX9_lose_23 rfl (lv_at hl 0 rfl) ?_
        refine lv_iconst (v := (1 : Int32)) hx hb dX9_lose_24 (by decide) ?_
        obtain ⟨r12, S13, hc14, hf⟩ := zz_b2s hf
        refine zz_ji0 (va_runV (As := [.int (1 : Int32)]) (rest := []) hfx (zc_X9_found l D tb q k F (1 : Int32) S r12 S13 hc14 H.size) (cwV 1 hts gX9_lose_X9_found rfl rfl rfl (by decide +kernel) ⟨Nat.le_of_ble_eq_true rfl, Nat.le_of_ble_eq_true rfl⟩) (zz_pre0V hK hP hD hS hA hE 0 rfl rfl rfl) rfl rfl hl.1 rfl (lv_room (Nat.le_of_ble_eq_true rfl)) dX9_lose_25 ⟨Nat.zero_le _, Nat.zero_le _⟩) hD hS hA (fun H locs hP hD hS => ?_)
        obtain ⟨rfl, rfl⟩ := zz_e2 hf
        exact hret _ _ _ _ dX9_lose_28 hP hD hS
    have hf := zz_ng hf ci16_2
    by_cases ci16_3 : u0 = (3 : Int32)
    · have hf := zz_ps hf ci16_3
      have hl : lv_has ls 2 [(0, .ref (q 0)), (1, .int (3 : Int32))] := ci16_3 ▸ hl
      refine zz_ti (y := (3 : Int32)) ci16_3.symm ?_
      refine va_aldq hx hb hK hP 20 12 rfl rfl (show zz_in (3 : Int32) 4 by decide) dX9_lose_16 ?_
      refine W.eq (g2 := F0 m 17 ls [.ref (q 27)]) rfl ?_
      refine va_get (D := D) (ci := 5) (v := .int (zz_gI S 17)) (C := RX5) (T := TX5) (N := 4) hx hb hts inX5 hown hK hP 27 rfl rfl 1 (by decide) lk235 (fun _ h9 => h9) rfl dX9_lose_17 ?_
      refine lv_if_eq (tgt := 29) hx hb dX9_lose_20 (by decide) (fun c20 => ?_) (fun c20 => ?_)
      · have hf := zz_ps hf c20
        refine lv_aload_n hx hb dX9_lose_29 rfl (lv_at hl 0 rfl) ?_
        refine va_get (D := D) (ci := 9) (v := .ref (q 20)) (C := RX9) (T := TX9) (N := 18) hx hb hts inX9 hown hK hP 0 rfl rfl 7 (by decide) lk52 (fun _ h9 => h9) rfl dX9_lose_30 ?_
        refine lv_iload_n hx hb dX9_lose_33 rfl (lv_at hl 1 rfl) ?_
        refine va_aldq hx hb hK hP 20 12 rfl rfl (show zz_in (3 : Int32) 4 by decide) dX9_lose_34 ?_
        refine W.eq (g2 := F0 m 35 ls [.ref (q 27)]) rfl ?_
        refine lv_iconst (v := (1 : Int32)) hx hb dX9_lose_35 (by decide) ?_
        obtain ⟨S15, hS15, hf⟩ := zz_lts hf
        refine va_put (D := D) (ci := 5) (v := .int (1 : Int32)) (ty := .boolean) (C := RX5) (T := TX5) (N := 4) hx hb hts inX5 tyX5 tyX5_ok nmX5 hown hK hP hD hS 27 rfl rfl 1 (by decide) lk235 (fun _ h9 => h9) rfl (by decide +kernel) rfl rfl (Nat.le_of_ble_eq_true rfl) dX9_lose_36 (fun H locs hP hD hS => ?_)
        have hP : va_P D vwCl (zw_9 q k S15) H := by rw [hS15]; exact hP
        have hD : va_D A (zw_9 q k S15) := by rw [hS15]; exact hD
        refine lv_aload_n hx hb dX9_lose_39 rfl (lv_at hl 0 rfl) ?_
        refine va_get (D := D) (ci := 9) (v := .ref (q 20)) (C := RX9) (T := TX9) (N := 18) hx hb hts inX9 hown hK hP 0 rfl rfl 7 (by decide) lk52 (fun _ h9 => h9) rfl dX9_lose_40 ?_
        refine lv_iload_n hx hb dX9_lose_43 rfl (lv_at hl 1 rfl) ?_
        refine va_aldq hx hb hK hP 20 12 rfl rfl (show zz_in (3 : Int32) 4 by decide) dX9_lose_44 ?_
        refine W.eq (g2 := F0 m 45 ls [.ref (q 27)]) rfl ?_
        refine va_get (D := D) (ci := 5) (v := .int (zz_gI S15 19)) (C := RX5) (T := TX5) (N := 4) hx hb hts inX5 hown hK hP 27 rfl rfl 3 (by decide) lk291 (fun _ h9 => h9) rfl dX9_lose_45 ?_
        obtain ⟨rfl, rfl⟩ := zz_e2 hf
        exact hret _ _ _ _ dX9_lose_48 hP hD hS
      · have hf := zz_ng hf c20
        refine lv_aload_n hx hb dX9_lose_23 rfl (lv_at hl 0 rfl) ?_
        refine lv_iconst (v := (1 : Int32)) hx hb dX9_lose_24 (by decide) ?_
        obtain ⟨r16, S17, hc18, hf⟩ := zz_b2s hf
        refine zz_ji0 (va_runV (As := [.int (1 : Int32)]) (rest := []) hfx (zc_X9_found l D tb q k F (1 : Int32) S r16 S17 hc18 H.size) (cwV 1 hts gX9_lose_X9_found rfl rfl rfl (by decide +kernel) ⟨Nat.le_of_ble_eq_true rfl, Nat.le_of_ble_eq_true rfl⟩) (zz_pre0V hK hP hD hS hA hE 0 rfl rfl rfl) rfl rfl hl.1 rfl (lv_room (Nat.le_of_ble_eq_true rfl)) dX9_lose_25 ⟨Nat.zero_le _, Nat.zero_le _⟩) hD hS hA (fun H locs hP hD hS => ?_)
        obtain ⟨rfl, rfl⟩ := zz_e2 hf
        exact hret _ _ _ _ dX9_lose_28 hP hD hS
    have hf := zz_ng hf ci16_3
    exact nomatch hf
  · have hf := zz_ps hf c5
    refine lv_bipush (v := (-2 : Int32)) hx hb dX9_lose_8 (by decide) ?_
    obtain ⟨rfl, rfl⟩ := zz_e2 hf
    exact hret _ _ _ _ dX9_lose_10 hP hD hS
def rmX9_put : Room := { frames := 2, cells := 0, slots := 0, locals := 44 }
set_option maxHeartbeats 4000000 in
set_option maxRecDepth 100000 in
theorem zc_X9_put (l : Launch) (D : va_G) (tb : Nat → Nat) (q : Nat → Nat) (k : Nat → ClassId) (F : Nat) (u0 : Int32) (u1 : Int32) (u2 : Int32) (u3 : Int32) (S : zz_M) (r : Int32) (o1 : zz_M) (hf : pX9_put F u0 u1 u2 u3 S = some (r, o1)) : zz_Mi l yX9_put wsX9_put rmX9_put D tb [((k 1), .object "CatBeat$Text"), ((k 3), .int), ((k 5), .int), ((k 7), .int), ((k 8), .int), ((k 9), .int), ((k 11), .int), ((k 13), .int), ((k 15), .int), ((k 16), .int), ((k 18), .int), ((k 19), .int), ((k 20), .object "CatBeat$Sheet"), ((k 22), .int), ((k 24), .int), ((k 26), .int), ((k 28), .int), ((k 30), .int), ((k 31), .long), ((k 32), .boolean), ((k 34), .int), ((k 35), .long), ((k 37), .int), ((k 39), .int), ((k 40), .long), ((k 41), .boolean), ((k 43), .int), ((k 44), .long), ((k 46), .long), ((k 47), .int)] [.ref (q 0), .int u0, .int u1, .int u2, .int u3] (zw_9 q k S) (zw_9 q k o1) r := by
  refine zz_ofi (cc := cX9_put) (maxL := 6) (by decide) rfl (Nat.le_of_ble_eq_true rfl) ?_
  intro p e s m args below meth c A Q hfx hK hA hE hret H locs hP hD hS ls hl
  obtain ⟨hx, hb, hml, hown, hts⟩ := id hfx
  have inX9 : ∀ w ∈ u_ws RX9 TX9 18, w ∈ wsX9_put := by decide +kernel
  have lk52 := hts (.fieldLink RX9 52 "CatBeat" "sheets" "[LCatBeat$Sheet;") (by decide +kernel)
  have hl : lv_has ls 6 [(0, .ref (q 0)), (1, .int u0), (2, .int u1), (3, .int u2), (4, .int u3)] := hl
  unfold pX9_put at hf
  refine lv_aload_n hx hb dX9_put_0 rfl (lv_at hl 0 rfl) ?_
  refine lv_iload_n hx hb dX9_put_1 rfl (lv_at hl 1 rfl) ?_
  obtain ⟨r1, hc2, hf⟩ := zz_b1s hf
  refine zz_ji0 (va_runV (As := [.int u0]) (rest := []) hfx (zc_X9_isSheet l D tb q k F u0 S r1 hc2 H.size) (cwV 1 hts gX9_put_X9_isSheet rfl rfl rfl (by decide +kernel) ⟨Nat.le_of_ble_eq_true rfl, Nat.le_of_ble_eq_true rfl⟩) (zz_pre0V hK hP hD hS hA hE 0 rfl rfl rfl) rfl rfl hl.1 rfl (lv_room (Nat.le_of_ble_eq_true rfl)) dX9_put_2 ⟨Nat.zero_le _, Nat.zero_le _⟩) hD hS hA (fun H locs hP hD hS => ?_)
  obtain ⟨j15_3, hj15_3, hf⟩ := zz_lts hf
  have Kj15_3 : ∀  (H : Heap) (locs : List Loc), va_P D vwCl (zw_9 q k S) H → va_D A (zw_9 q k S) → va_S A s.heap H locs → ∀ ls : Array Slot, lv_has ls 6 [] → j15_3 () = some (r, o1) → W p l e rmX9_put s m args below meth c H locs 0 0 Q (F0 m 15 ls []) := by
    intro  H locs hP hD hS ls hl hf
    rw [hj15_3] at hf
    refine lv_bipush (v := (-2 : Int32)) hx hb dX9_put_15 (by decide) ?_
    obtain ⟨rfl, rfl⟩ := zz_e2 hf
    exact hret _ _ _ _ dX9_put_17 hP hD hS
  refine lv_if_eq (tgt := 15) hx hb dX9_put_5 (by decide) (fun c5 => ?_) (fun c5 => ?_)
  · have hf := zz_ps hf c5
    exact Kj15_3  _ _ hP hD hS ls (lv_sub hl [] rfl) hf
  · have hf := zz_ng hf c5
    refine lv_iload_n hx hb dX9_put_8 rfl (lv_at hl 2 rfl) ?_
    obtain ⟨r4, hc5, hf⟩ := zz_b1s hf
    refine zz_ji (va_runS (As := [.int u1]) (rest := []) hfx (zc_X5_isForm l D tb  F u1  r4 hc5 H.size) (va_cwS 1 hts gX9_put_X5_isForm rfl rfl rfl (by decide +kernel) ⟨Nat.le_of_ble_eq_true rfl, Nat.le_of_ble_eq_true rfl⟩) (zz_preS hK hP hD hS hA hE [] [] rfl (by decide) rfl) rfl rfl hl.1 rfl (lv_room (Nat.le_of_ble_eq_true rfl)) dX9_put_9 ⟨Nat.zero_le _, Nat.zero_le _⟩) hP hD hS hA [] rfl rfl (fun H locs hP hD hS => ?_)
    have hP : va_P D vwCl (zw_9 q k S) H := hP
    have hD : va_D A (zw_9 q k S) := hD
    refine lv_if_ne (tgt := 18) hx hb dX9_put_12 (by decide) (fun c12 => ?_) (fun c12 => ?_)
    · have hf := zz_ng hf c12
      refine lv_aload_n hx hb dX9_put_18 rfl (lv_at hl 0 rfl) ?_
      refine va_get (D := D) (ci := 9) (v := .ref (q 20)) (C := RX9) (T := TX9) (N := 18) hx hb hts inX9 hown hK hP 0 rfl rfl 7 (by decide) lk52 (fun _ h9 => h9) rfl dX9_put_19 ?_
      refine lv_iload_n hx hb dX9_put_22 rfl (lv_at hl 1 rfl) ?_
      by_cases ci23_0 : u0 = (0 : Int32)
      · have hf := zz_ps hf ci23_0
        have hl : lv_has ls 6 [(0, .ref (q 0)), (1, .int (0 : Int32)), (2, .int u1), (3, .int u2), (4, .int u3)] := ci23_0 ▸ hl
        refine zz_ti (y := (0 : Int32)) ci23_0.symm ?_
        refine va_aldq hx hb hK hP 20 12 rfl rfl (show zz_in (0 : Int32) 4 by decide) dX9_put_23 ?_
        refine W.eq (g2 := F0 m 24 ls [.ref (q 21)]) rfl ?_
        refine lv_iload_n hx hb dX9_put_24 rfl (lv_at hl 2 rfl) ?_
        refine lv_iload_n hx hb dX9_put_25 rfl (lv_at hl 3 rfl) ?_
        obtain ⟨r6, hc7, hf⟩ := zz_b1s hf
        refine zz_ji (va_runV (As := [.int u1, .int u2]) (rest := []) hfx (zc_X5_findingOf l D tb (q 21) (q 22) (k 22) F u1 u2 (zz_gI S 8) (zz_gI S 9) (zz_gI S 10) (zz_gA S 11) r6 hc7 H.size) (cwV 2 hts gX9_put_X5_findingOf rfl rfl rfl (by decide +kernel) ⟨Nat.le_of_ble_eq_true rfl, Nat.le_of_ble_eq_true rfl⟩) (zz_preV hK hP hD hS hA hE [21, 22] [13] rfl (by decide) rfl 21 rfl rfl rfl) rfl rfl hl.1 rfl (lv_room (Nat.le_of_ble_eq_true rfl)) dX9_put_26 ⟨Nat.zero_le _, Nat.zero_le _⟩) hP hD hS hA [21, 22] rfl rfl (fun H locs hP hD hS => ?_)
        have hP : va_P D vwCl (zw_9 q k S) H := hP
        have hD : va_D A (zw_9 q k S) := hD
        refine lv_istore (lv' := [(5, .int r6), (0, .ref (q 0)), (1, .int (0 : Int32)), (2, .int u1), (3, .int u2), (4, .int u3)]) hx hb dX9_put_29 hl (by decide) rfl (fun ls hl => ?_)
        refine lv_iload hx hb dX9_put_31 (lv_at hl 0 rfl) ?_
        refine lv_if_eq (tgt := 43) hx hb dX9_put_33 (by decide) (fun c33 => ?_) (fun c33 => ?_)
        · have hf := zz_ps hf c33
          refine lv_aload_n hx hb dX9_put_43 rfl (lv_at hl 1 rfl) ?_
          refine va_get (D := D) (ci := 9) (v := .ref (q 20)) (C := RX9) (T := TX9) (N := 18) hx hb hts inX9 hown hK hP 0 rfl rfl 7 (by decide) lk52 (fun _ h9 => h9) rfl dX9_put_44 ?_
          refine lv_iload_n hx hb dX9_put_47 rfl (lv_at hl 2 rfl) ?_
          refine va_aldq hx hb hK hP 20 12 rfl rfl (show zz_in (0 : Int32) 4 by decide) dX9_put_48 ?_
          refine W.eq (g2 := F0 m 49 ls [.ref (q 21)]) rfl ?_
          refine lv_iload_n hx hb dX9_put_49 rfl (lv_at hl 4 rfl) ?_
          refine lv_iload hx hb dX9_put_50 (lv_at hl 5 rfl) ?_
          obtain ⟨f8, hc9, hf⟩ := zz_b1s hf
          obtain ⟨S10, hS10, hf⟩ := zz_lts hf
          refine zz_jv (va_runV (As := [.int u2, .int u3]) (rest := []) hfx (zc_X5_store l D tb (q 21) (q 22) (k 22) F u2 u3 (zz_gI S 8) (zz_gI S 9) (zz_gI S 10) (zz_gA S 11) f8 hc9 H.size) (cwV 2 hts gX9_put_X5_store rfl rfl rfl (by decide +kernel) ⟨Nat.le_of_ble_eq_true rfl, Nat.le_of_ble_eq_true rfl⟩) (zz_preV hK hP hD hS hA hE [21, 22] [13] rfl (by decide) rfl 21 rfl rfl rfl) rfl rfl hl.1 rfl (lv_room (Nat.le_of_ble_eq_true rfl)) dX9_put_52 ⟨Nat.zero_le _, Nat.zero_le _⟩) hP hD hS hA [21, 22] rfl rfl (fun H locs hP hD hS => ?_)
          have hP : va_P D vwCl (zw_9 q k S10) H := by rw [hS10]; exact hP
          have hD : va_D A (zw_9 q k S10) := by rw [hS10]; exact hD
          refine lv_iconst (v := (1 : Int32)) hx hb dX9_put_55 (by decide) ?_
          obtain ⟨rfl, rfl⟩ := zz_e2 hf
          exact hret _ _ _ _ dX9_put_56 hP hD hS
        · have hf := zz_ng hf c33
          refine lv_aload_n hx hb dX9_put_36 rfl (lv_at hl 1 rfl) ?_
          refine lv_iload hx hb dX9_put_37 (lv_at hl 0 rfl) ?_
          obtain ⟨r11, S12, hc13, hf⟩ := zz_b2s hf
          refine zz_ji0 (va_runV (As := [.int r6]) (rest := []) hfx (zc_X9_found l D tb q k F r6 S r11 S12 hc13 H.size) (cwV 1 hts gX9_put_X9_found rfl rfl rfl (by decide +kernel) ⟨Nat.le_of_ble_eq_true rfl, Nat.le_of_ble_eq_true rfl⟩) (zz_pre0V hK hP hD hS hA hE 0 rfl rfl rfl) rfl rfl hl.1 rfl (lv_room (Nat.le_of_ble_eq_true rfl)) dX9_put_39 ⟨Nat.zero_le _, Nat.zero_le _⟩) hD hS hA (fun H locs hP hD hS => ?_)
          obtain ⟨rfl, rfl⟩ := zz_e2 hf
          exact hret _ _ _ _ dX9_put_42 hP hD hS
      have hf := zz_ng hf ci23_0
      by_cases ci23_1 : u0 = (1 : Int32)
      · have hf := zz_ps hf ci23_1
        have hl : lv_has ls 6 [(0, .ref (q 0)), (1, .int (1 : Int32)), (2, .int u1), (3, .int u2), (4, .int u3)] := ci23_1 ▸ hl
        refine zz_ti (y := (1 : Int32)) ci23_1.symm ?_
        refine va_aldq hx hb hK hP 20 12 rfl rfl (show zz_in (1 : Int32) 4 by decide) dX9_put_23 ?_
        refine W.eq (g2 := F0 m 24 ls [.ref (q 23)]) rfl ?_
        refine lv_iload_n hx hb dX9_put_24 rfl (lv_at hl 2 rfl) ?_
        refine lv_iload_n hx hb dX9_put_25 rfl (lv_at hl 3 rfl) ?_
        obtain ⟨r14, hc15, hf⟩ := zz_b1s hf
        refine zz_ji (va_runV (As := [.int u1, .int u2]) (rest := []) hfx (zc_X5_findingOf l D tb (q 23) (q 24) (k 24) F u1 u2 (zz_gI S 11) (zz_gI S 12) (zz_gI S 13) (zz_gA S 12) r14 hc15 H.size) (cwV 2 hts gX9_put_X5_findingOf rfl rfl rfl (by decide +kernel) ⟨Nat.le_of_ble_eq_true rfl, Nat.le_of_ble_eq_true rfl⟩) (zz_preV hK hP hD hS hA hE [23, 24] [14] rfl (by decide) rfl 23 rfl rfl rfl) rfl rfl hl.1 rfl (lv_room (Nat.le_of_ble_eq_true rfl)) dX9_put_26 ⟨Nat.zero_le _, Nat.zero_le _⟩) hP hD hS hA [23, 24] rfl rfl (fun H locs hP hD hS => ?_)
        have hP : va_P D vwCl (zw_9 q k S) H := hP
        have hD : va_D A (zw_9 q k S) := hD
        refine lv_istore (lv' := [(5, .int r14), (0, .ref (q 0)), (1, .int (1 : Int32)), (2, .int u1), (3, .int u2), (4, .int u3)]) hx hb dX9_put_29 hl (by decide) rfl (fun ls hl => ?_)
        refine lv_iload hx hb dX9_put_31 (lv_at hl 0 rfl) ?_
        refine lv_if_eq (tgt := 43) hx hb dX9_put_33 (by decide) (fun c33 => ?_) (fun c33 => ?_)
        · have hf := zz_ps hf c33
          refine lv_aload_n hx hb dX9_put_43 rfl (lv_at hl 1 rfl) ?_
          refine va_get (D := D) (ci := 9) (v := .ref (q 20)) (C := RX9) (T := TX9) (N := 18) hx hb hts inX9 hown hK hP 0 rfl rfl 7 (by decide) lk52 (fun _ h9 => h9) rfl dX9_put_44 ?_
          refine lv_iload_n hx hb dX9_put_47 rfl (lv_at hl 2 rfl) ?_
          refine va_aldq hx hb hK hP 20 12 rfl rfl (show zz_in (1 : Int32) 4 by decide) dX9_put_48 ?_
          refine W.eq (g2 := F0 m 49 ls [.ref (q 23)]) rfl ?_
          refine lv_iload_n hx hb dX9_put_49 rfl (lv_at hl 4 rfl) ?_
          refine lv_iload hx hb dX9_put_50 (lv_at hl 5 rfl) ?_
          obtain ⟨f16, hc17, hf⟩ := zz_b1s hf
          obtain ⟨S18, hS18, hf⟩ := zz_lts hf
          refine zz_jv (va_runV (As := [.int u2, .int u3]) (rest := []) hfx (zc_X5_store l D tb (q 23) (q 24) (k 24) F u2 u3 (zz_gI S 11) (zz_gI S 12) (zz_gI S 13) (zz_gA S 12) f16 hc17 H.size) (cwV 2 hts gX9_put_X5_store rfl rfl rfl (by decide +kernel) ⟨Nat.le_of_ble_eq_true rfl, Nat.le_of_ble_eq_true rfl⟩) (zz_preV hK hP hD hS hA hE [23, 24] [14] rfl (by decide) rfl 23 rfl rfl rfl) rfl rfl hl.1 rfl (lv_room (Nat.le_of_ble_eq_true rfl)) dX9_put_52 ⟨Nat.zero_le _, Nat.zero_le _⟩) hP hD hS hA [23, 24] rfl rfl (fun H locs hP hD hS => ?_)
          have hP : va_P D vwCl (zw_9 q k S18) H := by rw [hS18]; exact hP
          have hD : va_D A (zw_9 q k S18) := by rw [hS18]; exact hD
          refine lv_iconst (v := (1 : Int32)) hx hb dX9_put_55 (by decide) ?_
          obtain ⟨rfl, rfl⟩ := zz_e2 hf
          exact hret _ _ _ _ dX9_put_56 hP hD hS
        · have hf := zz_ng hf c33
          refine lv_aload_n hx hb dX9_put_36 rfl (lv_at hl 1 rfl) ?_
          refine lv_iload hx hb dX9_put_37 (lv_at hl 0 rfl) ?_
          obtain ⟨r19, S20, hc21, hf⟩ := zz_b2s hf
          refine zz_ji0 (va_runV (As := [.int r14]) (rest := []) hfx (zc_X9_found l D tb q k F r14 S r19 S20 hc21 H.size) (cwV 1 hts gX9_put_X9_found rfl rfl rfl (by decide +kernel) ⟨Nat.le_of_ble_eq_true rfl, Nat.le_of_ble_eq_true rfl⟩) (zz_pre0V hK hP hD hS hA hE 0 rfl rfl rfl) rfl rfl hl.1 rfl (lv_room (Nat.le_of_ble_eq_true rfl)) dX9_put_39 ⟨Nat.zero_le _, Nat.zero_le _⟩) hD hS hA (fun H locs hP hD hS => ?_)
          obtain ⟨rfl, rfl⟩ := zz_e2 hf
          exact hret _ _ _ _ dX9_put_42 hP hD hS
      have hf := zz_ng hf ci23_1
      by_cases ci23_2 : u0 = (2 : Int32)
      · have hf := zz_ps hf ci23_2
        have hl : lv_has ls 6 [(0, .ref (q 0)), (1, .int (2 : Int32)), (2, .int u1), (3, .int u2), (4, .int u3)] := ci23_2 ▸ hl
        refine zz_ti (y := (2 : Int32)) ci23_2.symm ?_
        refine va_aldq hx hb hK hP 20 12 rfl rfl (show zz_in (2 : Int32) 4 by decide) dX9_put_23 ?_
        refine W.eq (g2 := F0 m 24 ls [.ref (q 25)]) rfl ?_
        refine lv_iload_n hx hb dX9_put_24 rfl (lv_at hl 2 rfl) ?_
        refine lv_iload_n hx hb dX9_put_25 rfl (lv_at hl 3 rfl) ?_
        obtain ⟨r22, hc23, hf⟩ := zz_b1s hf
        refine zz_ji (va_runV (As := [.int u1, .int u2]) (rest := []) hfx (zc_X5_findingOf l D tb (q 25) (q 26) (k 26) F u1 u2 (zz_gI S 14) (zz_gI S 15) (zz_gI S 16) (zz_gA S 13) r22 hc23 H.size) (cwV 2 hts gX9_put_X5_findingOf rfl rfl rfl (by decide +kernel) ⟨Nat.le_of_ble_eq_true rfl, Nat.le_of_ble_eq_true rfl⟩) (zz_preV hK hP hD hS hA hE [25, 26] [15] rfl (by decide) rfl 25 rfl rfl rfl) rfl rfl hl.1 rfl (lv_room (Nat.le_of_ble_eq_true rfl)) dX9_put_26 ⟨Nat.zero_le _, Nat.zero_le _⟩) hP hD hS hA [25, 26] rfl rfl (fun H locs hP hD hS => ?_)
        have hP : va_P D vwCl (zw_9 q k S) H := hP
        have hD : va_D A (zw_9 q k S) := hD
        refine lv_istore (lv' := [(5, .int r22), (0, .ref (q 0)), (1, .int (2 : Int32)), (2, .int u1), (3, .int u2), (4, .int u3)]) hx hb dX9_put_29 hl (by decide) rfl (fun ls hl => ?_)
        refine lv_iload hx hb dX9_put_31 (lv_at hl 0 rfl) ?_
        refine lv_if_eq (tgt := 43) hx hb dX9_put_33 (by decide) (fun c33 => ?_) (fun c33 => ?_)
        · have hf := zz_ps hf c33
          refine lv_aload_n hx hb dX9_put_43 rfl (lv_at hl 1 rfl) ?_
          refine va_get (D := D) (ci := 9) (v := .ref (q 20)) (C := RX9) (T := TX9) (N := 18) hx hb hts inX9 hown hK hP 0 rfl rfl 7 (by decide) lk52 (fun _ h9 => h9) rfl dX9_put_44 ?_
          refine lv_iload_n hx hb dX9_put_47 rfl (lv_at hl 2 rfl) ?_
          refine va_aldq hx hb hK hP 20 12 rfl rfl (show zz_in (2 : Int32) 4 by decide) dX9_put_48 ?_
          refine W.eq (g2 := F0 m 49 ls [.ref (q 25)]) rfl ?_
          refine lv_iload_n hx hb dX9_put_49 rfl (lv_at hl 4 rfl) ?_
          refine lv_iload hx hb dX9_put_50 (lv_at hl 5 rfl) ?_
          obtain ⟨f24, hc25, hf⟩ := zz_b1s hf
          obtain ⟨S26, hS26, hf⟩ := zz_lts hf
          refine zz_jv (va_runV (As := [.int u2, .int u3]) (rest := []) hfx (zc_X5_store l D tb (q 25) (q 26) (k 26) F u2 u3 (zz_gI S 14) (zz_gI S 15) (zz_gI S 16) (zz_gA S 13) f24 hc25 H.size) (cwV 2 hts gX9_put_X5_store rfl rfl rfl (by decide +kernel) ⟨Nat.le_of_ble_eq_true rfl, Nat.le_of_ble_eq_true rfl⟩) (zz_preV hK hP hD hS hA hE [25, 26] [15] rfl (by decide) rfl 25 rfl rfl rfl) rfl rfl hl.1 rfl (lv_room (Nat.le_of_ble_eq_true rfl)) dX9_put_52 ⟨Nat.zero_le _, Nat.zero_le _⟩) hP hD hS hA [25, 26] rfl rfl (fun H locs hP hD hS => ?_)
          have hP : va_P D vwCl (zw_9 q k S26) H := by rw [hS26]; exact hP
          have hD : va_D A (zw_9 q k S26) := by rw [hS26]; exact hD
          refine lv_iconst (v := (1 : Int32)) hx hb dX9_put_55 (by decide) ?_
          obtain ⟨rfl, rfl⟩ := zz_e2 hf
          exact hret _ _ _ _ dX9_put_56 hP hD hS
        · have hf := zz_ng hf c33
          refine lv_aload_n hx hb dX9_put_36 rfl (lv_at hl 1 rfl) ?_
          refine lv_iload hx hb dX9_put_37 (lv_at hl 0 rfl) ?_
          obtain ⟨r27, S28, hc29, hf⟩ := zz_b2s hf
          refine zz_ji0 (va_runV (As := [.int r22]) (rest := []) hfx (zc_X9_found l D tb q k F r22 S r27 S28 hc29 H.size) (cwV 1 hts gX9_put_X9_found rfl rfl rfl (by decide +kernel) ⟨Nat.le_of_ble_eq_true rfl, Nat.le_of_ble_eq_true rfl⟩) (zz_pre0V hK hP hD hS hA hE 0 rfl rfl rfl) rfl rfl hl.1 rfl (lv_room (Nat.le_of_ble_eq_true rfl)) dX9_put_39 ⟨Nat.zero_le _, Nat.zero_le _⟩) hD hS hA (fun H locs hP hD hS => ?_)
          obtain ⟨rfl, rfl⟩ := zz_e2 hf
          exact hret _ _ _ _ dX9_put_42 hP hD hS
      have hf := zz_ng hf ci23_2
      by_cases ci23_3 : u0 = (3 : Int32)
      · have hf := zz_ps hf ci23_3
        have hl : lv_has ls 6 [(0, .ref (q 0)), (1, .int (3 : Int32)), (2, .int u1), (3, .int u2), (4, .int u3)] := ci23_3 ▸ hl
        refine zz_ti (y := (3 : Int32)) ci23_3.symm ?_
        refine va_aldq hx hb hK hP 20 12 rfl rfl (show zz_in (3 : Int32) 4 by decide) dX9_put_23 ?_
        refine W.eq (g2 := F0 m 24 ls [.ref (q 27)]) rfl ?_
        refine lv_iload_n hx hb dX9_put_24 rfl (lv_at hl 2 rfl) ?_
        refine lv_iload_n hx hb dX9_put_25 rfl (lv_at hl 3 rfl) ?_
        obtain ⟨r30, hc31, hf⟩ := zz_b1s hf
        refine zz_ji (va_runV (As := [.int u1, .int u2]) (rest := []) hfx (zc_X5_findingOf l D tb (q 27) (q 28) (k 28) F u1 u2 (zz_gI S 17) (zz_gI S 18) (zz_gI S 19) (zz_gA S 14) r30 hc31 H.size) (cwV 2 hts gX9_put_X5_findingOf rfl rfl rfl (by decide +kernel) ⟨Nat.le_of_ble_eq_true rfl, Nat.le_of_ble_eq_true rfl⟩) (zz_preV hK hP hD hS hA hE [27, 28] [16] rfl (by decide) rfl 27 rfl rfl rfl) rfl rfl hl.1 rfl (lv_room (Nat.le_of_ble_eq_true rfl)) dX9_put_26 ⟨Nat.zero_le _, Nat.zero_le _⟩) hP hD hS hA [27, 28] rfl rfl (fun H locs hP hD hS => ?_)
        have hP : va_P D vwCl (zw_9 q k S) H := hP
        have hD : va_D A (zw_9 q k S) := hD
        refine lv_istore (lv' := [(5, .int r30), (0, .ref (q 0)), (1, .int (3 : Int32)), (2, .int u1), (3, .int u2), (4, .int u3)]) hx hb dX9_put_29 hl (by decide) rfl (fun ls hl => ?_)
        refine lv_iload hx hb dX9_put_31 (lv_at hl 0 rfl) ?_
        refine lv_if_eq (tgt := 43) hx hb dX9_put_33 (by decide) (fun c33 => ?_) (fun c33 => ?_)
        · have hf := zz_ps hf c33
          refine lv_aload_n hx hb dX9_put_43 rfl (lv_at hl 1 rfl) ?_
          refine va_get (D := D) (ci := 9) (v := .ref (q 20)) (C := RX9) (T := TX9) (N := 18) hx hb hts inX9 hown hK hP 0 rfl rfl 7 (by decide) lk52 (fun _ h9 => h9) rfl dX9_put_44 ?_
          refine lv_iload_n hx hb dX9_put_47 rfl (lv_at hl 2 rfl) ?_
          refine va_aldq hx hb hK hP 20 12 rfl rfl (show zz_in (3 : Int32) 4 by decide) dX9_put_48 ?_
          refine W.eq (g2 := F0 m 49 ls [.ref (q 27)]) rfl ?_
          refine lv_iload_n hx hb dX9_put_49 rfl (lv_at hl 4 rfl) ?_
          refine lv_iload hx hb dX9_put_50 (lv_at hl 5 rfl) ?_
          obtain ⟨f32, hc33, hf⟩ := zz_b1s hf
          obtain ⟨S34, hS34, hf⟩ := zz_lts hf
          refine zz_jv (va_runV (As := [.int u2, .int u3]) (rest := []) hfx (zc_X5_store l D tb (q 27) (q 28) (k 28) F u2 u3 (zz_gI S 17) (zz_gI S 18) (zz_gI S 19) (zz_gA S 14) f32 hc33 H.size) (cwV 2 hts gX9_put_X5_store rfl rfl rfl (by decide +kernel) ⟨Nat.le_of_ble_eq_true rfl, Nat.le_of_ble_eq_true rfl⟩) (zz_preV hK hP hD hS hA hE [27, 28] [16] rfl (by decide) rfl 27 rfl rfl rfl) rfl rfl hl.1 rfl (lv_room (Nat.le_of_ble_eq_true rfl)) dX9_put_52 ⟨Nat.zero_le _, Nat.zero_le _⟩) hP hD hS hA [27, 28] rfl rfl (fun H locs hP hD hS => ?_)
          have hP : va_P D vwCl (zw_9 q k S34) H := by rw [hS34]; exact hP
          have hD : va_D A (zw_9 q k S34) := by rw [hS34]; exact hD
          refine lv_iconst (v := (1 : Int32)) hx hb dX9_put_55 (by decide) ?_
          obtain ⟨rfl, rfl⟩ := zz_e2 hf
          exact hret _ _ _ _ dX9_put_56 hP hD hS
        · have hf := zz_ng hf c33
          refine lv_aload_n hx hb dX9_put_36 rfl (lv_at hl 1 rfl) ?_
          refine lv_iload hx hb dX9_put_37 (lv_at hl 0 rfl) ?_
          obtain ⟨r35, S36, hc37, hf⟩ := zz_b2s hf
          refine zz_ji0 (va_runV (As := [.int r30]) (rest := []) hfx (zc_X9_found l D tb q k F r30 S r35 S36 hc37 H.size) (cwV 1 hts gX9_put_X9_found rfl rfl rfl (by decide +kernel) ⟨Nat.le_of_ble_eq_true rfl, Nat.le_of_ble_eq_true rfl⟩) (zz_pre0V hK hP hD hS hA hE 0 rfl rfl rfl) rfl rfl hl.1 rfl (lv_room (Nat.le_of_ble_eq_true rfl)) dX9_put_39 ⟨Nat.zero_le _, Nat.zero_le _⟩) hD hS hA (fun H locs hP hD hS => ?_)
          obtain ⟨rfl, rfl⟩ := zz_e2 hf
          exact hret _ _ _ _ dX9_put_42 hP hD hS
      have hf := zz_ng hf ci23_3
      exact nomatch hf
    · have hf := zz_ps hf c12
      exact Kj15_3  _ _ hP hD hS ls (lv_sub hl [] rfl) hf
def rmX9_get : Room := { frames := 2, cells := 0, slots := 0, locals := 44 }
set_option maxHeartbeats 4000000 in
set_option maxRecDepth 100000 in
theorem zc_X9_get (l : Launch) (D : va_G) (tb : Nat → Nat) (q : Nat → Nat) (k : Nat → ClassId) (F : Nat) (u0 : Int32) (u1 : Int32) (u2 : Int32) (S : zz_M) (r : Int32) (o1 : zz_M) (hf : pX9_get F u0 u1 u2 S = some (r, o1)) : zz_Mi l yX9_get wsX9_get rmX9_get D tb [((k 1), .object "CatBeat$Text"), ((k 3), .int), ((k 5), .int), ((k 7), .int), ((k 8), .int), ((k 9), .int), ((k 11), .int), ((k 13), .int), ((k 15), .int), ((k 16), .int), ((k 18), .int), ((k 19), .int), ((k 20), .object "CatBeat$Sheet"), ((k 22), .int), ((k 24), .int), ((k 26), .int), ((k 28), .int), ((k 30), .int), ((k 31), .long), ((k 32), .boolean), ((k 34), .int), ((k 35), .long), ((k 37), .int), ((k 39), .int), ((k 40), .long), ((k 41), .boolean), ((k 43), .int), ((k 44), .long), ((k 46), .long), ((k 47), .int)] [.ref (q 0), .int u0, .int u1, .int u2] (zw_9 q k S) (zw_9 q k o1) r := by
  refine zz_ofi (cc := cX9_get) (maxL := 5) (by decide) rfl (Nat.le_of_ble_eq_true rfl) ?_
  intro p e s m args below meth c A Q hfx hK hA hE hret H locs hP hD hS ls hl
  obtain ⟨hx, hb, hml, hown, hts⟩ := id hfx
  have inX9 : ∀ w ∈ u_ws RX9 TX9 18, w ∈ wsX9_get := by decide +kernel
  have inX5 : ∀ w ∈ u_ws RX5 TX5 4, w ∈ wsX9_get := by decide +kernel
  have lk52 := hts (.fieldLink RX9 52 "CatBeat" "sheets" "[LCatBeat$Sheet;") (by decide +kernel)
  have lk301 := hts (.fieldLink RX9 301 "CatBeat$Sheet" "items" "[I") (by decide +kernel)
  have lk89 := hts (.fieldLink RX9 89 "CatBeat" "latestFinding" "I") (by decide +kernel)
  have kc300 := hts (.constant RX9 300 (-2147483648)) (by decide +kernel)
  have hl : lv_has ls 5 [(0, .ref (q 0)), (1, .int u0), (2, .int u1), (3, .int u2)] := hl
  unfold pX9_get at hf
  refine lv_aload_n hx hb dX9_get_0 rfl (lv_at hl 0 rfl) ?_
  refine lv_iload_n hx hb dX9_get_1 rfl (lv_at hl 1 rfl) ?_
  obtain ⟨r1, hc2, hf⟩ := zz_b1s hf
  refine zz_ji0 (va_runV (As := [.int u0]) (rest := []) hfx (zc_X9_isSheet l D tb q k F u0 S r1 hc2 H.size) (cwV 1 hts gX9_get_X9_isSheet rfl rfl rfl (by decide +kernel) ⟨Nat.le_of_ble_eq_true rfl, Nat.le_of_ble_eq_true rfl⟩) (zz_pre0V hK hP hD hS hA hE 0 rfl rfl rfl) rfl rfl hl.1 rfl (lv_room (Nat.le_of_ble_eq_true rfl)) dX9_get_2 ⟨Nat.zero_le _, Nat.zero_le _⟩) hD hS hA (fun H locs hP hD hS => ?_)
  obtain ⟨j15_3, hj15_3, hf⟩ := zz_lts hf
  have Kj15_3 : ∀  (H : Heap) (locs : List Loc), va_P D vwCl (zw_9 q k S) H → va_D A (zw_9 q k S) → va_S A s.heap H locs → ∀ ls : Array Slot, lv_has ls 5 [] → j15_3 () = some (r, o1) → W p l e rmX9_get s m args below meth c H locs 0 0 Q (F0 m 15 ls []) := by
    intro  H locs hP hD hS ls hl hf
    rw [hj15_3] at hf
    refine lv_ldcw (v := (-2147483648 : Int32)) hx hb hown kc300 dX9_get_15 ?_
    obtain ⟨rfl, rfl⟩ := zz_e2 hf
    exact hret _ _ _ _ dX9_get_18 hP hD hS
  refine lv_if_eq (tgt := 15) hx hb dX9_get_5 (by decide) (fun c5 => ?_) (fun c5 => ?_)
  · have hf := zz_ps hf c5
    exact Kj15_3  _ _ hP hD hS ls (lv_sub hl [] rfl) hf
  · have hf := zz_ng hf c5
    refine lv_iload_n hx hb dX9_get_8 rfl (lv_at hl 2 rfl) ?_
    obtain ⟨r4, hc5, hf⟩ := zz_b1s hf
    refine zz_ji (va_runS (As := [.int u1]) (rest := []) hfx (zc_X5_isForm l D tb  F u1  r4 hc5 H.size) (va_cwS 1 hts gX9_get_X5_isForm rfl rfl rfl (by decide +kernel) ⟨Nat.le_of_ble_eq_true rfl, Nat.le_of_ble_eq_true rfl⟩) (zz_preS hK hP hD hS hA hE [] [] rfl (by decide) rfl) rfl rfl hl.1 rfl (lv_room (Nat.le_of_ble_eq_true rfl)) dX9_get_9 ⟨Nat.zero_le _, Nat.zero_le _⟩) hP hD hS hA [] rfl rfl (fun H locs hP hD hS => ?_)
    have hP : va_P D vwCl (zw_9 q k S) H := hP
    have hD : va_D A (zw_9 q k S) := hD
    refine lv_if_ne (tgt := 19) hx hb dX9_get_12 (by decide) (fun c12 => ?_) (fun c12 => ?_)
    · have hf := zz_ng hf c12
      refine lv_aload_n hx hb dX9_get_19 rfl (lv_at hl 0 rfl) ?_
      refine va_get (D := D) (ci := 9) (v := .ref (q 20)) (C := RX9) (T := TX9) (N := 18) hx hb hts inX9 hown hK hP 0 rfl rfl 7 (by decide) lk52 (fun _ h9 => h9) rfl dX9_get_20 ?_
      refine lv_iload_n hx hb dX9_get_23 rfl (lv_at hl 1 rfl) ?_
      by_cases ci24_0 : u0 = (0 : Int32)
      · have hf := zz_ps hf ci24_0
        have hl : lv_has ls 5 [(0, .ref (q 0)), (1, .int (0 : Int32)), (2, .int u1), (3, .int u2)] := ci24_0 ▸ hl
        refine zz_ti (y := (0 : Int32)) ci24_0.symm ?_
        refine va_aldq hx hb hK hP 20 12 rfl rfl (show zz_in (0 : Int32) 4 by decide) dX9_get_24 ?_
        refine W.eq (g2 := F0 m 25 ls [.ref (q 21)]) rfl ?_
        refine lv_iload_n hx hb dX9_get_25 rfl (lv_at hl 2 rfl) ?_
        refine lv_iload_n hx hb dX9_get_26 rfl (lv_at hl 3 rfl) ?_
        obtain ⟨r6, hc7, hf⟩ := zz_b1s hf
        refine zz_ji (va_runV (As := [.int u1, .int u2]) (rest := []) hfx (zc_X5_findingOf l D tb (q 21) (q 22) (k 22) F u1 u2 (zz_gI S 8) (zz_gI S 9) (zz_gI S 10) (zz_gA S 11) r6 hc7 H.size) (cwV 2 hts gX9_get_X5_findingOf rfl rfl rfl (by decide +kernel) ⟨Nat.le_of_ble_eq_true rfl, Nat.le_of_ble_eq_true rfl⟩) (zz_preV hK hP hD hS hA hE [21, 22] [13] rfl (by decide) rfl 21 rfl rfl rfl) rfl rfl hl.1 rfl (lv_room (Nat.le_of_ble_eq_true rfl)) dX9_get_27 ⟨Nat.zero_le _, Nat.zero_le _⟩) hP hD hS hA [21, 22] rfl rfl (fun H locs hP hD hS => ?_)
        have hP : va_P D vwCl (zw_9 q k S) H := hP
        have hD : va_D A (zw_9 q k S) := hD
        refine lv_istore (lv' := [(4, .int r6), (0, .ref (q 0)), (1, .int (0 : Int32)), (2, .int u1), (3, .int u2)]) hx hb dX9_get_30 hl (by decide) rfl (fun ls hl => ?_)
        refine lv_iload hx hb dX9_get_32 (lv_at hl 0 rfl) ?_
        refine lv_if_eq (tgt := 47) hx hb dX9_get_34 (by decide) (fun c34 => ?_) (fun c34 => ?_)
        · have hf := zz_ps hf c34
          refine lv_aload_n hx hb dX9_get_47 rfl (lv_at hl 1 rfl) ?_
          refine va_get (D := D) (ci := 9) (v := .ref (q 20)) (C := RX9) (T := TX9) (N := 18) hx hb hts inX9 hown hK hP 0 rfl rfl 7 (by decide) lk52 (fun _ h9 => h9) rfl dX9_get_48 ?_
          refine lv_iload_n hx hb dX9_get_51 rfl (lv_at hl 2 rfl) ?_
          refine va_aldq hx hb hK hP 20 12 rfl rfl (show zz_in (0 : Int32) 4 by decide) dX9_get_52 ?_
          refine W.eq (g2 := F0 m 53 ls [.ref (q 21)]) rfl ?_
          refine va_get (D := D) (ci := 5) (v := .ref (q 22)) (C := RX5) (T := TX5) (N := 4) hx hb hts inX5 hown hK hP 21 rfl rfl 0 (by decide) lk301 (fun _ h9 => h9) rfl dX9_get_53 ?_
          refine lv_iload_n hx hb dX9_get_56 rfl (lv_at hl 4 rfl) ?_
          obtain ⟨hg8, hf⟩ := zz_gd hf
          refine va_iald hx hb hK hP 22 13 rfl rfl hg8 dX9_get_57 ?_
          obtain ⟨rfl, rfl⟩ := zz_e2 hf
          exact hret _ _ _ _ dX9_get_58 hP hD hS
        · have hf := zz_ng hf c34
          refine lv_aload_n hx hb dX9_get_37 rfl (lv_at hl 1 rfl) ?_
          refine lv_iload hx hb dX9_get_38 (lv_at hl 0 rfl) ?_
          obtain ⟨S9, hS9, hf⟩ := zz_lts hf
          refine va_put (D := D) (ci := 9) (v := .int r6) (ty := .int) (C := RX9) (T := TX9) (N := 18) hx hb hts inX9 tyX9 tyX9_ok nmX9 hown hK hP hD hS 0 rfl rfl 15 (by decide) lk89 (fun _ h9 => h9) rfl (by decide +kernel) rfl rfl (Nat.le_of_ble_eq_true rfl) dX9_get_40 (fun H locs hP hD hS => ?_)
          have hP : va_P D vwCl (zw_9 q k S9) H := by rw [hS9]; exact hP
          have hD : va_D A (zw_9 q k S9) := by rw [hS9]; exact hD
          refine lv_ldcw (v := (-2147483648 : Int32)) hx hb hown kc300 dX9_get_43 ?_
          obtain ⟨rfl, rfl⟩ := zz_e2 hf
          exact hret _ _ _ _ dX9_get_46 hP hD hS
      have hf := zz_ng hf ci24_0
      by_cases ci24_1 : u0 = (1 : Int32)
      · have hf := zz_ps hf ci24_1
        have hl : lv_has ls 5 [(0, .ref (q 0)), (1, .int (1 : Int32)), (2, .int u1), (3, .int u2)] := ci24_1 ▸ hl
        refine zz_ti (y := (1 : Int32)) ci24_1.symm ?_
        refine va_aldq hx hb hK hP 20 12 rfl rfl (show zz_in (1 : Int32) 4 by decide) dX9_get_24 ?_
        refine W.eq (g2 := F0 m 25 ls [.ref (q 23)]) rfl ?_
        refine lv_iload_n hx hb dX9_get_25 rfl (lv_at hl 2 rfl) ?_
        refine lv_iload_n hx hb dX9_get_26 rfl (lv_at hl 3 rfl) ?_
        obtain ⟨r10, hc11, hf⟩ := zz_b1s hf
        refine zz_ji (va_runV (As := [.int u1, .int u2]) (rest := []) hfx (zc_X5_findingOf l D tb (q 23) (q 24) (k 24) F u1 u2 (zz_gI S 11) (zz_gI S 12) (zz_gI S 13) (zz_gA S 12) r10 hc11 H.size) (cwV 2 hts gX9_get_X5_findingOf rfl rfl rfl (by decide +kernel) ⟨Nat.le_of_ble_eq_true rfl, Nat.le_of_ble_eq_true rfl⟩) (zz_preV hK hP hD hS hA hE [23, 24] [14] rfl (by decide) rfl 23 rfl rfl rfl) rfl rfl hl.1 rfl (lv_room (Nat.le_of_ble_eq_true rfl)) dX9_get_27 ⟨Nat.zero_le _, Nat.zero_le _⟩) hP hD hS hA [23, 24] rfl rfl (fun H locs hP hD hS => ?_)
        have hP : va_P D vwCl (zw_9 q k S) H := hP
        have hD : va_D A (zw_9 q k S) := hD
        refine lv_istore (lv' := [(4, .int r10), (0, .ref (q 0)), (1, .int (1 : Int32)), (2, .int u1), (3, .int u2)]) hx hb dX9_get_30 hl (by decide) rfl (fun ls hl => ?_)
        refine lv_iload hx hb dX9_get_32 (lv_at hl 0 rfl) ?_
        refine lv_if_eq (tgt := 47) hx hb dX9_get_34 (by decide) (fun c34 => ?_) (fun c34 => ?_)
        · have hf := zz_ps hf c34
          refine lv_aload_n hx hb dX9_get_47 rfl (lv_at hl 1 rfl) ?_
          refine va_get (D := D) (ci := 9) (v := .ref (q 20)) (C := RX9) (T := TX9) (N := 18) hx hb hts inX9 hown hK hP 0 rfl rfl 7 (by decide) lk52 (fun _ h9 => h9) rfl dX9_get_48 ?_
          refine lv_iload_n hx hb dX9_get_51 rfl (lv_at hl 2 rfl) ?_
          refine va_aldq hx hb hK hP 20 12 rfl rfl (show zz_in (1 : Int32) 4 by decide) dX9_get_52 ?_
          refine W.eq (g2 := F0 m 53 ls [.ref (q 23)]) rfl ?_
          refine va_get (D := D) (ci := 5) (v := .ref (q 24)) (C := RX5) (T := TX5) (N := 4) hx hb hts inX5 hown hK hP 23 rfl rfl 0 (by decide) lk301 (fun _ h9 => h9) rfl dX9_get_53 ?_
          refine lv_iload_n hx hb dX9_get_56 rfl (lv_at hl 4 rfl) ?_
          obtain ⟨hg12, hf⟩ := zz_gd hf
          refine va_iald hx hb hK hP 24 14 rfl rfl hg12 dX9_get_57 ?_
          obtain ⟨rfl, rfl⟩ := zz_e2 hf
          exact hret _ _ _ _ dX9_get_58 hP hD hS
        · have hf := zz_ng hf c34
          refine lv_aload_n hx hb dX9_get_37 rfl (lv_at hl 1 rfl) ?_
          refine lv_iload hx hb dX9_get_38 (lv_at hl 0 rfl) ?_
          obtain ⟨S13, hS13, hf⟩ := zz_lts hf
          refine va_put (D := D) (ci := 9) (v := .int r10) (ty := .int) (C := RX9) (T := TX9) (N := 18) hx hb hts inX9 tyX9 tyX9_ok nmX9 hown hK hP hD hS 0 rfl rfl 15 (by decide) lk89 (fun _ h9 => h9) rfl (by decide +kernel) rfl rfl (Nat.le_of_ble_eq_true rfl) dX9_get_40 (fun H locs hP hD hS => ?_)
          have hP : va_P D vwCl (zw_9 q k S13) H := by rw [hS13]; exact hP
          have hD : va_D A (zw_9 q k S13) := by rw [hS13]; exact hD
          refine lv_ldcw (v := (-2147483648 : Int32)) hx hb hown kc300 dX9_get_43 ?_
          obtain ⟨rfl, rfl⟩ := zz_e2 hf
          exact hret _ _ _ _ dX9_get_46 hP hD hS
      have hf := zz_ng hf ci24_1
      by_cases ci24_2 : u0 = (2 : Int32)
      · have hf := zz_ps hf ci24_2
        have hl : lv_has ls 5 [(0, .ref (q 0)), (1, .int (2 : Int32)), (2, .int u1), (3, .int u2)] := ci24_2 ▸ hl
        refine zz_ti (y := (2 : Int32)) ci24_2.symm ?_
        refine va_aldq hx hb hK hP 20 12 rfl rfl (show zz_in (2 : Int32) 4 by decide) dX9_get_24 ?_
        refine W.eq (g2 := F0 m 25 ls [.ref (q 25)]) rfl ?_
        refine lv_iload_n hx hb dX9_get_25 rfl (lv_at hl 2 rfl) ?_
        refine lv_iload_n hx hb dX9_get_26 rfl (lv_at hl 3 rfl) ?_
        obtain ⟨r14, hc15, hf⟩ := zz_b1s hf
        refine zz_ji (va_runV (As := [.int u1, .int u2]) (rest := []) hfx (zc_X5_findingOf l D tb (q 25) (q 26) (k 26) F u1 u2 (zz_gI S 14) (zz_gI S 15) (zz_gI S 16) (zz_gA S 13) r14 hc15 H.size) (cwV 2 hts gX9_get_X5_findingOf rfl rfl rfl (by decide +kernel) ⟨Nat.le_of_ble_eq_true rfl, Nat.le_of_ble_eq_true rfl⟩) (zz_preV hK hP hD hS hA hE [25, 26] [15] rfl (by decide) rfl 25 rfl rfl rfl) rfl rfl hl.1 rfl (lv_room (Nat.le_of_ble_eq_true rfl)) dX9_get_27 ⟨Nat.zero_le _, Nat.zero_le _⟩) hP hD hS hA [25, 26] rfl rfl (fun H locs hP hD hS => ?_)
        have hP : va_P D vwCl (zw_9 q k S) H := hP
        have hD : va_D A (zw_9 q k S) := hD
        refine lv_istore (lv' := [(4, .int r14), (0, .ref (q 0)), (1, .int (2 : Int32)), (2, .int u1), (3, .int u2)]) hx hb dX9_get_30 hl (by decide) rfl (fun ls hl => ?_)
        refine lv_iload hx hb dX9_get_32 (lv_at hl 0 rfl) ?_
        refine lv_if_eq (tgt := 47) hx hb dX9_get_34 (by decide) (fun c34 => ?_) (fun c34 => ?_)
        · have hf := zz_ps hf c34
          refine lv_aload_n hx hb dX9_get_47 rfl (lv_at hl 1 rfl) ?_
          refine va_get (D := D) (ci := 9) (v := .ref (q 20)) (C := RX9) (T := TX9) (N := 18) hx hb hts inX9 hown hK hP 0 rfl rfl 7 (by decide) lk52 (fun _ h9 => h9) rfl dX9_get_48 ?_
          refine lv_iload_n hx hb dX9_get_51 rfl (lv_at hl 2 rfl) ?_
          refine va_aldq hx hb hK hP 20 12 rfl rfl (show zz_in (2 : Int32) 4 by decide) dX9_get_52 ?_
          refine W.eq (g2 := F0 m 53 ls [.ref (q 25)]) rfl ?_
          refine va_get (D := D) (ci := 5) (v := .ref (q 26)) (C := RX5) (T := TX5) (N := 4) hx hb hts inX5 hown hK hP 25 rfl rfl 0 (by decide) lk301 (fun _ h9 => h9) rfl dX9_get_53 ?_
          refine lv_iload_n hx hb dX9_get_56 rfl (lv_at hl 4 rfl) ?_
          obtain ⟨hg16, hf⟩ := zz_gd hf
          refine va_iald hx hb hK hP 26 15 rfl rfl hg16 dX9_get_57 ?_
          obtain ⟨rfl, rfl⟩ := zz_e2 hf
          exact hret _ _ _ _ dX9_get_58 hP hD hS
        · have hf := zz_ng hf c34
          refine lv_aload_n hx hb dX9_get_37 rfl (lv_at hl 1 rfl) ?_
          refine lv_iload hx hb dX9_get_38 (lv_at hl 0 rfl) ?_
          obtain ⟨S17, hS17, hf⟩ := zz_lts hf
          refine va_put (D := D) (ci := 9) (v := .int r14) (ty := .int) (C := RX9) (T := TX9) (N := 18) hx hb hts inX9 tyX9 tyX9_ok nmX9 hown hK hP hD hS 0 rfl rfl 15 (by decide) lk89 (fun _ h9 => h9) rfl (by decide +kernel) rfl rfl (Nat.le_of_ble_eq_true rfl) dX9_get_40 (fun H locs hP hD hS => ?_)
          have hP : va_P D vwCl (zw_9 q k S17) H := by rw [hS17]; exact hP
          have hD : va_D A (zw_9 q k S17) := by rw [hS17]; exact hD
          refine lv_ldcw (v := (-2147483648 : Int32)) hx hb hown kc300 dX9_get_43 ?_
          obtain ⟨rfl, rfl⟩ := zz_e2 hf
          exact hret _ _ _ _ dX9_get_46 hP hD hS
      have hf := zz_ng hf ci24_2
      by_cases ci24_3 : u0 = (3 : Int32)
      · have hf := zz_ps hf ci24_3
        have hl : lv_has ls 5 [(0, .ref (q 0)), (1, .int (3 : Int32)), (2, .int u1), (3, .int u2)] := ci24_3 ▸ hl
        refine zz_ti (y := (3 : Int32)) ci24_3.symm ?_
        refine va_aldq hx hb hK hP 20 12 rfl rfl (show zz_in (3 : Int32) 4 by decide) dX9_get_24 ?_
        refine W.eq (g2 := F0 m 25 ls [.ref (q 27)]) rfl ?_
        refine lv_iload_n hx hb dX9_get_25 rfl (lv_at hl 2 rfl) ?_
        refine lv_iload_n hx hb dX9_get_26 rfl (lv_at hl 3 rfl) ?_
        obtain ⟨r18, hc19, hf⟩ := zz_b1s hf
        refine zz_ji (va_runV (As := [.int u1, .int u2]) (rest := []) hfx (zc_X5_findingOf l D tb (q 27) (q 28) (k 28) F u1 u2 (zz_gI S 17) (zz_gI S 18) (zz_gI S 19) (zz_gA S 14) r18 hc19 H.size) (cwV 2 hts gX9_get_X5_findingOf rfl rfl rfl (by decide +kernel) ⟨Nat.le_of_ble_eq_true rfl, Nat.le_of_ble_eq_true rfl⟩) (zz_preV hK hP hD hS hA hE [27, 28] [16] rfl (by decide) rfl 27 rfl rfl rfl) rfl rfl hl.1 rfl (lv_room (Nat.le_of_ble_eq_true rfl)) dX9_get_27 ⟨Nat.zero_le _, Nat.zero_le _⟩) hP hD hS hA [27, 28] rfl rfl (fun H locs hP hD hS => ?_)
        have hP : va_P D vwCl (zw_9 q k S) H := hP
        have hD : va_D A (zw_9 q k S) := hD
        refine lv_istore (lv' := [(4, .int r18), (0, .ref (q 0)), (1, .int (3 : Int32)), (2, .int u1), (3, .int u2)]) hx hb dX9_get_30 hl (by decide) rfl (fun ls hl => ?_)
        refine lv_iload hx hb dX9_get_32 (lv_at hl 0 rfl) ?_
        refine lv_if_eq (tgt := 47) hx hb dX9_get_34 (by decide) (fun c34 => ?_) (fun c34 => ?_)
        · have hf := zz_ps hf c34
          refine lv_aload_n hx hb dX9_get_47 rfl (lv_at hl 1 rfl) ?_
          refine va_get (D := D) (ci := 9) (v := .ref (q 20)) (C := RX9) (T := TX9) (N := 18) hx hb hts inX9 hown hK hP 0 rfl rfl 7 (by decide) lk52 (fun _ h9 => h9) rfl dX9_get_48 ?_
          refine lv_iload_n hx hb dX9_get_51 rfl (lv_at hl 2 rfl) ?_
          refine va_aldq hx hb hK hP 20 12 rfl rfl (show zz_in (3 : Int32) 4 by decide) dX9_get_52 ?_
          refine W.eq (g2 := F0 m 53 ls [.ref (q 27)]) rfl ?_
          refine va_get (D := D) (ci := 5) (v := .ref (q 28)) (C := RX5) (T := TX5) (N := 4) hx hb hts inX5 hown hK hP 27 rfl rfl 0 (by decide) lk301 (fun _ h9 => h9) rfl dX9_get_53 ?_
          refine lv_iload_n hx hb dX9_get_56 rfl (lv_at hl 4 rfl) ?_
          obtain ⟨hg20, hf⟩ := zz_gd hf
          refine va_iald hx hb hK hP 28 16 rfl rfl hg20 dX9_get_57 ?_
          obtain ⟨rfl, rfl⟩ := zz_e2 hf
          exact hret _ _ _ _ dX9_get_58 hP hD hS
        · have hf := zz_ng hf c34
          refine lv_aload_n hx hb dX9_get_37 rfl (lv_at hl 1 rfl) ?_
          refine lv_iload hx hb dX9_get_38 (lv_at hl 0 rfl) ?_
          obtain ⟨S21, hS21, hf⟩ := zz_lts hf
          refine va_put (D := D) (ci := 9) (v := .int r18) (ty := .int) (C := RX9) (T := TX9) (N := 18) hx hb hts inX9 tyX9 tyX9_ok nmX9 hown hK hP hD hS 0 rfl rfl 15 (by decide) lk89 (fun _ h9 => h9) rfl (by decide +kernel) rfl rfl (Nat.le_of_ble_eq_true rfl) dX9_get_40 (fun H locs hP hD hS => ?_)
          have hP : va_P D vwCl (zw_9 q k S21) H := by rw [hS21]; exact hP
          have hD : va_D A (zw_9 q k S21) := by rw [hS21]; exact hD
          refine lv_ldcw (v := (-2147483648 : Int32)) hx hb hown kc300 dX9_get_43 ?_
          obtain ⟨rfl, rfl⟩ := zz_e2 hf
          exact hret _ _ _ _ dX9_get_46 hP hD hS
      have hf := zz_ng hf ci24_3
      exact nomatch hf
    · have hf := zz_ps hf c12
      exact Kj15_3  _ _ hP hD hS ls (lv_sub hl [] rfl) hf
def rmX9_write : Room := { frames := 4, cells := 0, slots := 0, locals := 96 }
set_option maxHeartbeats 4000000 in
set_option maxRecDepth 100000 in
theorem zc_X9_write (l : Launch) (D : va_G) (tb : Nat → Nat) (q : Nat → Nat) (k : Nat → ClassId) (F : Nat) (u0 : Int32) (S : zz_M) (r : Int32) (o1 : zz_M) (hf : pX9_write F u0 S = some (r, o1)) : zz_Mi l yX9_write wsX9_write rmX9_write D tb [((k 1), .object "CatBeat$Text"), ((k 3), .int), ((k 5), .int), ((k 7), .int), ((k 8), .int), ((k 9), .int), ((k 11), .int), ((k 13), .int), ((k 15), .int), ((k 16), .int), ((k 18), .int), ((k 19), .int), ((k 20), .object "CatBeat$Sheet"), ((k 22), .int), ((k 24), .int), ((k 26), .int), ((k 28), .int), ((k 30), .int), ((k 31), .long), ((k 32), .boolean), ((k 34), .int), ((k 35), .long), ((k 37), .int), ((k 39), .int), ((k 40), .long), ((k 41), .boolean), ((k 43), .int), ((k 44), .long), ((k 46), .long), ((k 47), .int)] [.ref (q 0), .int u0] (zw_9 q k S) (zw_9 q k o1) r := by
  refine zz_ofi (cc := cX9_write) (maxL := 4) (by decide) rfl (Nat.le_of_ble_eq_true rfl) ?_
  intro p e s m args below meth c A Q hfx hK hA hE hret H locs hP hD hS ls hl
  obtain ⟨hx, hb, hml, hown, hts⟩ := id hfx
  have inX9 : ∀ w ∈ u_ws RX9 TX9 18, w ∈ wsX9_write := by decide +kernel
  have inX5 : ∀ w ∈ u_ws RX5 TX5 4, w ∈ wsX9_write := by decide +kernel
  have inX2 : ∀ w ∈ u_ws RX2 TX2 2, w ∈ wsX9_write := by decide +kernel
  have lk52 := hts (.fieldLink RX9 52 "CatBeat" "sheets" "[LCatBeat$Sheet;") (by decide +kernel)
  have lk235 := hts (.fieldLink RX9 235 "CatBeat$Sheet" "lost" "Z") (by decide +kernel)
  have lk291 := hts (.fieldLink RX9 291 "CatBeat$Sheet" "size" "I") (by decide +kernel)
  have lk66 := hts (.fieldLink RX9 66 "CatBeat" "night" "LCatBeat$Night;") (by decide +kernel)
  have lk151 := hts (.fieldLink RX9 151 "CatBeat$Night" "places" "[I") (by decide +kernel)
  have hl : lv_has ls 4 [(0, .ref (q 0)), (1, .int u0)] := hl
  unfold pX9_write at hf
  refine lv_aload_n hx hb dX9_write_0 rfl (lv_at hl 0 rfl) ?_
  refine lv_iload_n hx hb dX9_write_1 rfl (lv_at hl 1 rfl) ?_
  obtain ⟨r1, hc2, hf⟩ := zz_b1s hf
  refine zz_ji0 (va_runV (As := [.int u0]) (rest := []) hfx (zc_X9_isSheet l D tb q k F u0 S r1 hc2 H.size) (cwV 1 hts gX9_write_X9_isSheet rfl rfl rfl (by decide +kernel) ⟨Nat.le_of_ble_eq_true rfl, Nat.le_of_ble_eq_true rfl⟩) (zz_pre0V hK hP hD hS hA hE 0 rfl rfl rfl) rfl rfl hl.1 rfl (lv_room (Nat.le_of_ble_eq_true rfl)) dX9_write_2 ⟨Nat.zero_le _, Nat.zero_le _⟩) hD hS hA (fun H locs hP hD hS => ?_)
  refine lv_if_ne (tgt := 11) hx hb dX9_write_5 (by decide) (fun c5 => ?_) (fun c5 => ?_)
  · have hf := zz_ng hf c5
    refine lv_aload_n hx hb dX9_write_11 rfl (lv_at hl 0 rfl) ?_
    refine va_get (D := D) (ci := 9) (v := .ref (q 20)) (C := RX9) (T := TX9) (N := 18) hx hb hts inX9 hown hK hP 0 rfl rfl 7 (by decide) lk52 (fun _ h9 => h9) rfl dX9_write_12 ?_
    refine lv_iload_n hx hb dX9_write_15 rfl (lv_at hl 1 rfl) ?_
    by_cases ci16_0 : u0 = (0 : Int32)
    · have hf := zz_ps hf ci16_0
      have hl : lv_has ls 4 [(0, .ref (q 0)), (1, .int (0 : Int32))] := ci16_0 ▸ hl
      refine zz_ti (y := (0 : Int32)) ci16_0.symm ?_
      refine va_aldq hx hb hK hP 20 12 rfl rfl (show zz_in (0 : Int32) 4 by decide) dX9_write_16 ?_
      refine W.eq (g2 := F0 m 17 ls [.ref (q 21)]) rfl ?_
      refine lv_astore_n (lv' := [(2, .ref (q 21)), (0, .ref (q 0)), (1, .int (0 : Int32))]) hx hb dX9_write_17 rfl hl (by decide) rfl (fun ls hl => ?_)
      refine lv_aload_n hx hb dX9_write_18 rfl (lv_at hl 0 rfl) ?_
      refine va_get (D := D) (ci := 5) (v := .int (zz_gI S 8)) (C := RX5) (T := TX5) (N := 4) hx hb hts inX5 hown hK hP 21 rfl rfl 1 (by decide) lk235 (fun _ h9 => h9) rfl dX9_write_19 ?_
      refine lv_if_eq (tgt := 31) hx hb dX9_write_22 (by decide) (fun c22 => ?_) (fun c22 => ?_)
      · have hf := zz_ps hf c22
        refine lv_aload_n hx hb dX9_write_31 rfl (lv_at hl 1 rfl) ?_
        obtain ⟨S3, hc4, hf⟩ := zz_b1s hf
        refine zz_jv0 (va_runV (As := []) (rest := []) hfx (zc_X9_settle l D tb q k F  S S3 hc4 H.size) (cwV 0 hts gX9_write_X9_settle rfl rfl rfl (by decide +kernel) ⟨Nat.le_of_ble_eq_true rfl, Nat.le_of_ble_eq_true rfl⟩) (zz_pre0V hK hP hD hS hA hE 0 rfl rfl rfl) rfl rfl hl.1 rfl (lv_room (Nat.le_of_ble_eq_true rfl)) dX9_write_32 ⟨Nat.zero_le _, Nat.zero_le _⟩) hD hS hA (fun H locs hP hD hS => ?_)
        refine lv_iconst (v := (0 : Int32)) hx hb dX9_write_35 (by decide) ?_
        refine lv_istore_n (lv' := [(3, .int (0 : Int32)), (2, .ref (q 21)), (0, .ref (q 0)), (1, .int (0 : Int32))]) hx hb dX9_write_36 rfl hl (by decide) rfl (fun ls hl => ?_)
        have hLkL37_6 : ∀ (n37_6 : Nat) (x5 : Int32) (z6 : zz_M) (H : Heap) (locs : List Loc), va_P D vwCl (zw_9 q k z6) H → va_D A (zw_9 q k z6) → va_S A s.heap H locs → ∀ ls : Array Slot, lv_has ls 4 [(2, .ref (q 21)), (0, .ref (q 0)), (3, .int x5)] → pX9_write_L37_6 F n37_6 x5 z6 = some (r, o1) → W p l e rmX9_write s m args below meth c H locs 0 0 Q (F0 m 37 ls []) := by
          intro n37_6
          induction n37_6 with
          | zero =>
            intro x5 z6 H locs hP hD hS ls hl hf
            exact nomatch (show (none : Option _) = some _ from hf)
          | succ n37_6 ihkL37_6 =>
            intro x5 z6 H locs hP hD hS ls hl hf
            rw [pX9_write_L37_6] at hf
            refine lv_iload_n hx hb dX9_write_37 rfl (lv_at hl 2 rfl) ?_
            refine lv_aload_n hx hb dX9_write_38 rfl (lv_at hl 0 rfl) ?_
            refine va_get (D := D) (ci := 5) (v := .int (zz_gI z6 10)) (C := RX5) (T := TX5) (N := 4) hx hb hts inX5 hown hK hP 21 rfl rfl 3 (by decide) lk291 (fun _ h9 => h9) rfl dX9_write_39 ?_
            obtain ⟨j71_8, hj71_8, hf⟩ := zz_lts hf
            have Kj71_8 : ∀  (H : Heap) (locs : List Loc), va_P D vwCl (zw_9 q k z6) H → va_D A (zw_9 q k z6) → va_S A s.heap H locs → ∀ ls : Array Slot, lv_has ls 4 [(2, .ref (q 21))] → j71_8 () = some (r, o1) → W p l e rmX9_write s m args below meth c H locs 0 0 Q (F0 m 71 ls []) := by
              intro  H locs hP hD hS ls hl hf
              rw [hj71_8] at hf
              refine lv_aload_n hx hb dX9_write_71 rfl (lv_at hl 0 rfl) ?_
              refine va_get (D := D) (ci := 5) (v := .int (zz_gI z6 10)) (C := RX5) (T := TX5) (N := 4) hx hb hts inX5 hown hK hP 21 rfl rfl 3 (by decide) lk291 (fun _ h9 => h9) rfl dX9_write_72 ?_
              obtain ⟨rfl, rfl⟩ := zz_e2 hf
              exact hret _ _ _ _ dX9_write_75 hP hD hS
            refine lv_icmp_ge (tgt := 71) hx hb dX9_write_42 (by decide) (fun c42 => ?_) (fun c42 => ?_)
            · have hf := zz_ps hf c42
              exact Kj71_8  _ _ hP hD hS ls (lv_sub hl [0] rfl) hf
            · have hf := zz_ng hf c42
              refine lv_iload_n hx hb dX9_write_45 rfl (lv_at hl 2 rfl) ?_
              refine lv_bipush (v := (96 : Int32)) hx hb dX9_write_46 (by decide) ?_
              refine lv_icmp_ge (tgt := 71) hx hb dX9_write_48 (by decide) (fun c48 => ?_) (fun c48 => ?_)
              · have hf := zz_ps hf c48
                exact Kj71_8  _ _ hP hD hS ls (lv_sub hl [0] rfl) hf
              · have hf := zz_ng hf c48
                refine lv_aload_n hx hb dX9_write_51 rfl (lv_at hl 0 rfl) ?_
                refine lv_iload_n hx hb dX9_write_52 rfl (lv_at hl 2 rfl) ?_
                refine lv_aload_n hx hb dX9_write_53 rfl (lv_at hl 1 rfl) ?_
                refine va_get (D := D) (ci := 9) (v := .ref (q 33)) (C := RX9) (T := TX9) (N := 18) hx hb hts inX9 hown hK hP 0 rfl rfl 9 (by decide) lk66 (fun _ h9 => h9) rfl dX9_write_54 ?_
                refine va_get (D := D) (ci := 2) (v := .ref (q 34)) (C := RX2) (T := TX2) (N := 2) hx hb hts inX2 hown hK hP 33 rfl rfl 0 (by decide) lk151 (fun _ h9 => h9) rfl dX9_write_57 ?_
                refine lv_iload_n hx hb dX9_write_60 rfl (lv_at hl 2 rfl) ?_
                obtain ⟨hg9, hf⟩ := zz_gd hf
                refine va_iald hx hb hK hP 34 20 rfl rfl hg9 dX9_write_61 ?_
                obtain ⟨f10, hc11, hf⟩ := zz_b1s hf
                obtain ⟨S12, hS12, hf⟩ := zz_lts hf
                refine zz_jv (va_runV (As := [.int x5, .int ((zz_gA z6 17) (Int32.toNatClampNeg x5))]) (rest := []) hfx (zc_X5_store l D tb (q 21) (q 22) (k 22) F x5 ((zz_gA z6 17) (Int32.toNatClampNeg x5)) (zz_gI z6 8) (zz_gI z6 9) (zz_gI z6 10) (zz_gA z6 11) f10 hc11 H.size) (cwV 2 hts gX9_write_X5_store rfl rfl rfl (by decide +kernel) ⟨Nat.le_of_ble_eq_true rfl, Nat.le_of_ble_eq_true rfl⟩) (zz_preV hK hP hD hS hA hE [21, 22] [13] rfl (by decide) rfl 21 rfl rfl rfl) rfl rfl hl.1 rfl (lv_room (Nat.le_of_ble_eq_true rfl)) dX9_write_62 ⟨Nat.zero_le _, Nat.zero_le _⟩) hP hD hS hA [21, 22] rfl rfl (fun H locs hP hD hS => ?_)
                have hP : va_P D vwCl (zw_9 q k S12) H := by rw [hS12]; exact hP
                have hD : va_D A (zw_9 q k S12) := by rw [hS12]; exact hD
                obtain ⟨v13, hv13, hf⟩ := zz_lts hf
                refine lv_iinc (v := v13) (lv' := [(3, .int v13), (2, .ref (q 21)), (0, .ref (q 0))]) hx hb dX9_write_65 hl (k := 2) rfl (by rw [hv13]; rfl) (by decide) rfl (fun ls hl => ?_)
                refine lv_goto (tgt := 37) hx hb dX9_write_68 (by decide) ?_
                exact ihkL37_6 v13 S12 _ _ hP hD hS ls (lv_sub hl [1, 2, 0] rfl) hf
        exact hLkL37_6 F (0 : Int32) S3 _ _ hP hD hS ls (lv_sub hl [1, 2, 0] rfl) hf
      · have hf := zz_ng hf c22
        refine lv_aload_n hx hb dX9_write_25 rfl (lv_at hl 1 rfl) ?_
        refine lv_iconst (v := (1 : Int32)) hx hb dX9_write_26 (by decide) ?_
        obtain ⟨r14, S15, hc16, hf⟩ := zz_b2s hf
        refine zz_ji0 (va_runV (As := [.int (1 : Int32)]) (rest := []) hfx (zc_X9_found l D tb q k F (1 : Int32) S r14 S15 hc16 H.size) (cwV 1 hts gX9_write_X9_found rfl rfl rfl (by decide +kernel) ⟨Nat.le_of_ble_eq_true rfl, Nat.le_of_ble_eq_true rfl⟩) (zz_pre0V hK hP hD hS hA hE 0 rfl rfl rfl) rfl rfl hl.1 rfl (lv_room (Nat.le_of_ble_eq_true rfl)) dX9_write_27 ⟨Nat.zero_le _, Nat.zero_le _⟩) hD hS hA (fun H locs hP hD hS => ?_)
        obtain ⟨rfl, rfl⟩ := zz_e2 hf
        exact hret _ _ _ _ dX9_write_30 hP hD hS
    have hf := zz_ng hf ci16_0
    by_cases ci16_1 : u0 = (1 : Int32)
    · have hf := zz_ps hf ci16_1
      have hl : lv_has ls 4 [(0, .ref (q 0)), (1, .int (1 : Int32))] := ci16_1 ▸ hl
      refine zz_ti (y := (1 : Int32)) ci16_1.symm ?_
      refine va_aldq hx hb hK hP 20 12 rfl rfl (show zz_in (1 : Int32) 4 by decide) dX9_write_16 ?_
      refine W.eq (g2 := F0 m 17 ls [.ref (q 23)]) rfl ?_
      refine lv_astore_n (lv' := [(2, .ref (q 23)), (0, .ref (q 0)), (1, .int (1 : Int32))]) hx hb dX9_write_17 rfl hl (by decide) rfl (fun ls hl => ?_)
      refine lv_aload_n hx hb dX9_write_18 rfl (lv_at hl 0 rfl) ?_
      refine va_get (D := D) (ci := 5) (v := .int (zz_gI S 11)) (C := RX5) (T := TX5) (N := 4) hx hb hts inX5 hown hK hP 23 rfl rfl 1 (by decide) lk235 (fun _ h9 => h9) rfl dX9_write_19 ?_
      refine lv_if_eq (tgt := 31) hx hb dX9_write_22 (by decide) (fun c22 => ?_) (fun c22 => ?_)
      · have hf := zz_ps hf c22
        refine lv_aload_n hx hb dX9_write_31 rfl (lv_at hl 1 rfl) ?_
        obtain ⟨S17, hc18, hf⟩ := zz_b1s hf
        refine zz_jv0 (va_runV (As := []) (rest := []) hfx (zc_X9_settle l D tb q k F  S S17 hc18 H.size) (cwV 0 hts gX9_write_X9_settle rfl rfl rfl (by decide +kernel) ⟨Nat.le_of_ble_eq_true rfl, Nat.le_of_ble_eq_true rfl⟩) (zz_pre0V hK hP hD hS hA hE 0 rfl rfl rfl) rfl rfl hl.1 rfl (lv_room (Nat.le_of_ble_eq_true rfl)) dX9_write_32 ⟨Nat.zero_le _, Nat.zero_le _⟩) hD hS hA (fun H locs hP hD hS => ?_)
        refine lv_iconst (v := (0 : Int32)) hx hb dX9_write_35 (by decide) ?_
        refine lv_istore_n (lv' := [(3, .int (0 : Int32)), (2, .ref (q 23)), (0, .ref (q 0)), (1, .int (1 : Int32))]) hx hb dX9_write_36 rfl hl (by decide) rfl (fun ls hl => ?_)
        have hLkL37_20 : ∀ (n37_20 : Nat) (x19 : Int32) (z20 : zz_M) (H : Heap) (locs : List Loc), va_P D vwCl (zw_9 q k z20) H → va_D A (zw_9 q k z20) → va_S A s.heap H locs → ∀ ls : Array Slot, lv_has ls 4 [(2, .ref (q 23)), (0, .ref (q 0)), (3, .int x19)] → pX9_write_L37_20 F n37_20 x19 z20 = some (r, o1) → W p l e rmX9_write s m args below meth c H locs 0 0 Q (F0 m 37 ls []) := by
          intro n37_20
          induction n37_20 with
          | zero =>
            intro x19 z20 H locs hP hD hS ls hl hf
            exact nomatch (show (none : Option _) = some _ from hf)
          | succ n37_20 ihkL37_20 =>
            intro x19 z20 H locs hP hD hS ls hl hf
            rw [pX9_write_L37_20] at hf
            refine lv_iload_n hx hb dX9_write_37 rfl (lv_at hl 2 rfl) ?_
            refine lv_aload_n hx hb dX9_write_38 rfl (lv_at hl 0 rfl) ?_
            refine va_get (D := D) (ci := 5) (v := .int (zz_gI z20 13)) (C := RX5) (T := TX5) (N := 4) hx hb hts inX5 hown hK hP 23 rfl rfl 3 (by decide) lk291 (fun _ h9 => h9) rfl dX9_write_39 ?_
            obtain ⟨j71_22, hj71_22, hf⟩ := zz_lts hf
            have Kj71_22 : ∀  (H : Heap) (locs : List Loc), va_P D vwCl (zw_9 q k z20) H → va_D A (zw_9 q k z20) → va_S A s.heap H locs → ∀ ls : Array Slot, lv_has ls 4 [(2, .ref (q 23))] → j71_22 () = some (r, o1) → W p l e rmX9_write s m args below meth c H locs 0 0 Q (F0 m 71 ls []) := by
              intro  H locs hP hD hS ls hl hf
              rw [hj71_22] at hf
              refine lv_aload_n hx hb dX9_write_71 rfl (lv_at hl 0 rfl) ?_
              refine va_get (D := D) (ci := 5) (v := .int (zz_gI z20 13)) (C := RX5) (T := TX5) (N := 4) hx hb hts inX5 hown hK hP 23 rfl rfl 3 (by decide) lk291 (fun _ h9 => h9) rfl dX9_write_72 ?_
              obtain ⟨rfl, rfl⟩ := zz_e2 hf
              exact hret _ _ _ _ dX9_write_75 hP hD hS
            refine lv_icmp_ge (tgt := 71) hx hb dX9_write_42 (by decide) (fun c42 => ?_) (fun c42 => ?_)
            · have hf := zz_ps hf c42
              exact Kj71_22  _ _ hP hD hS ls (lv_sub hl [0] rfl) hf
            · have hf := zz_ng hf c42
              refine lv_iload_n hx hb dX9_write_45 rfl (lv_at hl 2 rfl) ?_
              refine lv_bipush (v := (96 : Int32)) hx hb dX9_write_46 (by decide) ?_
              refine lv_icmp_ge (tgt := 71) hx hb dX9_write_48 (by decide) (fun c48 => ?_) (fun c48 => ?_)
              · have hf := zz_ps hf c48
                exact Kj71_22  _ _ hP hD hS ls (lv_sub hl [0] rfl) hf
              · have hf := zz_ng hf c48
                refine lv_aload_n hx hb dX9_write_51 rfl (lv_at hl 0 rfl) ?_
                refine lv_iload_n hx hb dX9_write_52 rfl (lv_at hl 2 rfl) ?_
                refine lv_aload_n hx hb dX9_write_53 rfl (lv_at hl 1 rfl) ?_
                refine va_get (D := D) (ci := 9) (v := .ref (q 33)) (C := RX9) (T := TX9) (N := 18) hx hb hts inX9 hown hK hP 0 rfl rfl 9 (by decide) lk66 (fun _ h9 => h9) rfl dX9_write_54 ?_
                refine va_get (D := D) (ci := 2) (v := .ref (q 34)) (C := RX2) (T := TX2) (N := 2) hx hb hts inX2 hown hK hP 33 rfl rfl 0 (by decide) lk151 (fun _ h9 => h9) rfl dX9_write_57 ?_
                refine lv_iload_n hx hb dX9_write_60 rfl (lv_at hl 2 rfl) ?_
                obtain ⟨hg23, hf⟩ := zz_gd hf
                refine va_iald hx hb hK hP 34 20 rfl rfl hg23 dX9_write_61 ?_
                obtain ⟨f24, hc25, hf⟩ := zz_b1s hf
                obtain ⟨S26, hS26, hf⟩ := zz_lts hf
                refine zz_jv (va_runV (As := [.int x19, .int ((zz_gA z20 17) (Int32.toNatClampNeg x19))]) (rest := []) hfx (zc_X5_store l D tb (q 23) (q 24) (k 24) F x19 ((zz_gA z20 17) (Int32.toNatClampNeg x19)) (zz_gI z20 11) (zz_gI z20 12) (zz_gI z20 13) (zz_gA z20 12) f24 hc25 H.size) (cwV 2 hts gX9_write_X5_store rfl rfl rfl (by decide +kernel) ⟨Nat.le_of_ble_eq_true rfl, Nat.le_of_ble_eq_true rfl⟩) (zz_preV hK hP hD hS hA hE [23, 24] [14] rfl (by decide) rfl 23 rfl rfl rfl) rfl rfl hl.1 rfl (lv_room (Nat.le_of_ble_eq_true rfl)) dX9_write_62 ⟨Nat.zero_le _, Nat.zero_le _⟩) hP hD hS hA [23, 24] rfl rfl (fun H locs hP hD hS => ?_)
                have hP : va_P D vwCl (zw_9 q k S26) H := by rw [hS26]; exact hP
                have hD : va_D A (zw_9 q k S26) := by rw [hS26]; exact hD
                obtain ⟨v27, hv27, hf⟩ := zz_lts hf
                refine lv_iinc (v := v27) (lv' := [(3, .int v27), (2, .ref (q 23)), (0, .ref (q 0))]) hx hb dX9_write_65 hl (k := 2) rfl (by rw [hv27]; rfl) (by decide) rfl (fun ls hl => ?_)
                refine lv_goto (tgt := 37) hx hb dX9_write_68 (by decide) ?_
                exact ihkL37_20 v27 S26 _ _ hP hD hS ls (lv_sub hl [1, 2, 0] rfl) hf
        exact hLkL37_20 F (0 : Int32) S17 _ _ hP hD hS ls (lv_sub hl [1, 2, 0] rfl) hf
      · have hf := zz_ng hf c22
        refine lv_aload_n hx hb dX9_write_25 rfl (lv_at hl 1 rfl) ?_
        refine lv_iconst (v := (1 : Int32)) hx hb dX9_write_26 (by decide) ?_
        obtain ⟨r28, S29, hc30, hf⟩ := zz_b2s hf
        refine zz_ji0 (va_runV (As := [.int (1 : Int32)]) (rest := []) hfx (zc_X9_found l D tb q k F (1 : Int32) S r28 S29 hc30 H.size) (cwV 1 hts gX9_write_X9_found rfl rfl rfl (by decide +kernel) ⟨Nat.le_of_ble_eq_true rfl, Nat.le_of_ble_eq_true rfl⟩) (zz_pre0V hK hP hD hS hA hE 0 rfl rfl rfl) rfl rfl hl.1 rfl (lv_room (Nat.le_of_ble_eq_true rfl)) dX9_write_27 ⟨Nat.zero_le _, Nat.zero_le _⟩) hD hS hA (fun H locs hP hD hS => ?_)
        obtain ⟨rfl, rfl⟩ := zz_e2 hf
        exact hret _ _ _ _ dX9_write_30 hP hD hS
    have hf := zz_ng hf ci16_1
    by_cases ci16_2 : u0 = (2 : Int32)
    · have hf := zz_ps hf ci16_2
      have hl : lv_has ls 4 [(0, .ref (q 0)), (1, .int (2 : Int32))] := ci16_2 ▸ hl
      refine zz_ti (y := (2 : Int32)) ci16_2.symm ?_
      refine va_aldq hx hb hK hP 20 12 rfl rfl (show zz_in (2 : Int32) 4 by decide) dX9_write_16 ?_
      refine W.eq (g2 := F0 m 17 ls [.ref (q 25)]) rfl ?_
      refine lv_astore_n (lv' := [(2, .ref (q 25)), (0, .ref (q 0)), (1, .int (2 : Int32))]) hx hb dX9_write_17 rfl hl (by decide) rfl (fun ls hl => ?_)
      refine lv_aload_n hx hb dX9_write_18 rfl (lv_at hl 0 rfl) ?_
      refine va_get (D := D) (ci := 5) (v := .int (zz_gI S 14)) (C := RX5) (T := TX5) (N := 4) hx hb hts inX5 hown hK hP 25 rfl rfl 1 (by decide) lk235 (fun _ h9 => h9) rfl dX9_write_19 ?_
      refine lv_if_eq (tgt := 31) hx hb dX9_write_22 (by decide) (fun c22 => ?_) (fun c22 => ?_)
      · have hf := zz_ps hf c22
        refine lv_aload_n hx hb dX9_write_31 rfl (lv_at hl 1 rfl) ?_
        obtain ⟨S31, hc32, hf⟩ := zz_b1s hf
        refine zz_jv0 (va_runV (As := []) (rest := []) hfx (zc_X9_settle l D tb q k F  S S31 hc32 H.size) (cwV 0 hts gX9_write_X9_settle rfl rfl rfl (by decide +kernel) ⟨Nat.le_of_ble_eq_true rfl, Nat.le_of_ble_eq_true rfl⟩) (zz_pre0V hK hP hD hS hA hE 0 rfl rfl rfl) rfl rfl hl.1 rfl (lv_room (Nat.le_of_ble_eq_true rfl)) dX9_write_32 ⟨Nat.zero_le _, Nat.zero_le _⟩) hD hS hA (fun H locs hP hD hS => ?_)
        refine lv_iconst (v := (0 : Int32)) hx hb dX9_write_35 (by decide) ?_
        refine lv_istore_n (lv' := [(3, .int (0 : Int32)), (2, .ref (q 25)), (0, .ref (q 0)), (1, .int (2 : Int32))]) hx hb dX9_write_36 rfl hl (by decide) rfl (fun ls hl => ?_)
        have hLkL37_34 : ∀ (n37_34 : Nat) (x33 : Int32) (z34 : zz_M) (H : Heap) (locs : List Loc), va_P D vwCl (zw_9 q k z34) H → va_D A (zw_9 q k z34) → va_S A s.heap H locs → ∀ ls : Array Slot, lv_has ls 4 [(2, .ref (q 25)), (0, .ref (q 0)), (3, .int x33)] → pX9_write_L37_34 F n37_34 x33 z34 = some (r, o1) → W p l e rmX9_write s m args below meth c H locs 0 0 Q (F0 m 37 ls []) := by
          intro n37_34
          induction n37_34 with
          | zero =>
            intro x33 z34 H locs hP hD hS ls hl hf
            exact nomatch (show (none : Option _) = some _ from hf)
          | succ n37_34 ihkL37_34 =>
            intro x33 z34 H locs hP hD hS ls hl hf
            rw [pX9_write_L37_34] at hf
            refine lv_iload_n hx hb dX9_write_37 rfl (lv_at hl 2 rfl) ?_
            refine lv_aload_n hx hb dX9_write_38 rfl (lv_at hl 0 rfl) ?_
            refine va_get (D := D) (ci := 5) (v := .int (zz_gI z34 16)) (C := RX5) (T := TX5) (N := 4) hx hb hts inX5 hown hK hP 25 rfl rfl 3 (by decide) lk291 (fun _ h9 => h9) rfl dX9_write_39 ?_
            obtain ⟨j71_36, hj71_36, hf⟩ := zz_lts hf
            have Kj71_36 : ∀  (H : Heap) (locs : List Loc), va_P D vwCl (zw_9 q k z34) H → va_D A (zw_9 q k z34) → va_S A s.heap H locs → ∀ ls : Array Slot, lv_has ls 4 [(2, .ref (q 25))] → j71_36 () = some (r, o1) → W p l e rmX9_write s m args below meth c H locs 0 0 Q (F0 m 71 ls []) := by
              intro  H locs hP hD hS ls hl hf
              rw [hj71_36] at hf
              refine lv_aload_n hx hb dX9_write_71 rfl (lv_at hl 0 rfl) ?_
              refine va_get (D := D) (ci := 5) (v := .int (zz_gI z34 16)) (C := RX5) (T := TX5) (N := 4) hx hb hts inX5 hown hK hP 25 rfl rfl 3 (by decide) lk291 (fun _ h9 => h9) rfl dX9_write_72 ?_
              obtain ⟨rfl, rfl⟩ := zz_e2 hf
              exact hret _ _ _ _ dX9_write_75 hP hD hS
            refine lv_icmp_ge (tgt := 71) hx hb dX9_write_42 (by decide) (fun c42 => ?_) (fun c42 => ?_)
            · have hf := zz_ps hf c42
              exact Kj71_36  _ _ hP hD hS ls (lv_sub hl [0] rfl) hf
            · have hf := zz_ng hf c42
              refine lv_iload_n hx hb dX9_write_45 rfl (lv_at hl 2 rfl) ?_
              refine lv_bipush (v := (96 : Int32)) hx hb dX9_write_46 (by decide) ?_
              refine lv_icmp_ge (tgt := 71) hx hb dX9_write_48 (by decide) (fun c48 => ?_) (fun c48 => ?_)
              · have hf := zz_ps hf c48
                exact Kj71_36  _ _ hP hD hS ls (lv_sub hl [0] rfl) hf
              · have hf := zz_ng hf c48
                refine lv_aload_n hx hb dX9_write_51 rfl (lv_at hl 0 rfl) ?_
                refine lv_iload_n hx hb dX9_write_52 rfl (lv_at hl 2 rfl) ?_
                refine lv_aload_n hx hb dX9_write_53 rfl (lv_at hl 1 rfl) ?_
                refine va_get (D := D) (ci := 9) (v := .ref (q 33)) (C := RX9) (T := TX9) (N := 18) hx hb hts inX9 hown hK hP 0 rfl rfl 9 (by decide) lk66 (fun _ h9 => h9) rfl dX9_write_54 ?_
                refine va_get (D := D) (ci := 2) (v := .ref (q 34)) (C := RX2) (T := TX2) (N := 2) hx hb hts inX2 hown hK hP 33 rfl rfl 0 (by decide) lk151 (fun _ h9 => h9) rfl dX9_write_57 ?_
                refine lv_iload_n hx hb dX9_write_60 rfl (lv_at hl 2 rfl) ?_
                obtain ⟨hg37, hf⟩ := zz_gd hf
                refine va_iald hx hb hK hP 34 20 rfl rfl hg37 dX9_write_61 ?_
                obtain ⟨f38, hc39, hf⟩ := zz_b1s hf
                obtain ⟨S40, hS40, hf⟩ := zz_lts hf
                refine zz_jv (va_runV (As := [.int x33, .int ((zz_gA z34 17) (Int32.toNatClampNeg x33))]) (rest := []) hfx (zc_X5_store l D tb (q 25) (q 26) (k 26) F x33 ((zz_gA z34 17) (Int32.toNatClampNeg x33)) (zz_gI z34 14) (zz_gI z34 15) (zz_gI z34 16) (zz_gA z34 13) f38 hc39 H.size) (cwV 2 hts gX9_write_X5_store rfl rfl rfl (by decide +kernel) ⟨Nat.le_of_ble_eq_true rfl, Nat.le_of_ble_eq_true rfl⟩) (zz_preV hK hP hD hS hA hE [25, 26] [15] rfl (by decide) rfl 25 rfl rfl rfl) rfl rfl hl.1 rfl (lv_room (Nat.le_of_ble_eq_true rfl)) dX9_write_62 ⟨Nat.zero_le _, Nat.zero_le _⟩) hP hD hS hA [25, 26] rfl rfl (fun H locs hP hD hS => ?_)
                have hP : va_P D vwCl (zw_9 q k S40) H := by rw [hS40]; exact hP
                have hD : va_D A (zw_9 q k S40) := by rw [hS40]; exact hD
                obtain ⟨v41, hv41, hf⟩ := zz_lts hf
                refine lv_iinc (v := v41) (lv' := [(3, .int v41), (2, .ref (q 25)), (0, .ref (q 0))]) hx hb dX9_write_65 hl (k := 2) rfl (by rw [hv41]; rfl) (by decide) rfl (fun ls hl => ?_)
                refine lv_goto (tgt := 37) hx hb dX9_write_68 (by decide) ?_
                exact ihkL37_34 v41 S40 _ _ hP hD hS ls (lv_sub hl [1, 2, 0] rfl) hf
        exact hLkL37_34 F (0 : Int32) S31 _ _ hP hD hS ls (lv_sub hl [1, 2, 0] rfl) hf
      · have hf := zz_ng hf c22
        refine lv_aload_n hx hb dX9_write_25 rfl (lv_at hl 1 rfl) ?_
        refine lv_iconst (v := (1 : Int32)) hx hb dX9_write_26 (by decide) ?_
        obtain ⟨r42, S43, hc44, hf⟩ := zz_b2s hf
        refine zz_ji0 (va_runV (As := [.int (1 : Int32)]) (rest := []) hfx (zc_X9_found l D tb q k F (1 : Int32) S r42 S43 hc44 H.size) (cwV 1 hts gX9_write_X9_found rfl rfl rfl (by decide +kernel) ⟨Nat.le_of_ble_eq_true rfl, Nat.le_of_ble_eq_true rfl⟩) (zz_pre0V hK hP hD hS hA hE 0 rfl rfl rfl) rfl rfl hl.1 rfl (lv_room (Nat.le_of_ble_eq_true rfl)) dX9_write_27 ⟨Nat.zero_le _, Nat.zero_le _⟩) hD hS hA (fun H locs hP hD hS => ?_)
        obtain ⟨rfl, rfl⟩ := zz_e2 hf
        exact hret _ _ _ _ dX9_write_30 hP hD hS
    have hf := zz_ng hf ci16_2
    by_cases ci16_3 : u0 = (3 : Int32)
    · have hf := zz_ps hf ci16_3
      have hl : lv_has ls 4 [(0, .ref (q 0)), (1, .int (3 : Int32))] := ci16_3 ▸ hl
      refine zz_ti (y := (3 : Int32)) ci16_3.symm ?_
      refine va_aldq hx hb hK hP 20 12 rfl rfl (show zz_in (3 : Int32) 4 by decide) dX9_write_16 ?_
      refine W.eq (g2 := F0 m 17 ls [.ref (q 27)]) rfl ?_
      refine lv_astore_n (lv' := [(2, .ref (q 27)), (0, .ref (q 0)), (1, .int (3 : Int32))]) hx hb dX9_write_17 rfl hl (by decide) rfl (fun ls hl => ?_)
      refine lv_aload_n hx hb dX9_write_18 rfl (lv_at hl 0 rfl) ?_
      refine va_get (D := D) (ci := 5) (v := .int (zz_gI S 17)) (C := RX5) (T := TX5) (N := 4) hx hb hts inX5 hown hK hP 27 rfl rfl 1 (by decide) lk235 (fun _ h9 => h9) rfl dX9_write_19 ?_
      refine lv_if_eq (tgt := 31) hx hb dX9_write_22 (by decide) (fun c22 => ?_) (fun c22 => ?_)
      · have hf := zz_ps hf c22
        refine lv_aload_n hx hb dX9_write_31 rfl (lv_at hl 1 rfl) ?_
        obtain ⟨S45, hc46, hf⟩ := zz_b1s hf
        refine zz_jv0 (va_runV (As := []) (rest := []) hfx (zc_X9_settle l D tb q k F  S S45 hc46 H.size) (cwV 0 hts gX9_write_X9_settle rfl rfl rfl (by decide +kernel) ⟨Nat.le_of_ble_eq_true rfl, Nat.le_of_ble_eq_true rfl⟩) (zz_pre0V hK hP hD hS hA hE 0 rfl rfl rfl) rfl rfl hl.1 rfl (lv_room (Nat.le_of_ble_eq_true rfl)) dX9_write_32 ⟨Nat.zero_le _, Nat.zero_le _⟩) hD hS hA (fun H locs hP hD hS => ?_)
        refine lv_iconst (v := (0 : Int32)) hx hb dX9_write_35 (by decide) ?_
        refine lv_istore_n (lv' := [(3, .int (0 : Int32)), (2, .ref (q 27)), (0, .ref (q 0)), (1, .int (3 : Int32))]) hx hb dX9_write_36 rfl hl (by decide) rfl (fun ls hl => ?_)
        have hLkL37_48 : ∀ (n37_48 : Nat) (x47 : Int32) (z48 : zz_M) (H : Heap) (locs : List Loc), va_P D vwCl (zw_9 q k z48) H → va_D A (zw_9 q k z48) → va_S A s.heap H locs → ∀ ls : Array Slot, lv_has ls 4 [(2, .ref (q 27)), (0, .ref (q 0)), (3, .int x47)] → pX9_write_L37_48 F n37_48 x47 z48 = some (r, o1) → W p l e rmX9_write s m args below meth c H locs 0 0 Q (F0 m 37 ls []) := by
          intro n37_48
          induction n37_48 with
          | zero =>
            intro x47 z48 H locs hP hD hS ls hl hf
            exact nomatch (show (none : Option _) = some _ from hf)
          | succ n37_48 ihkL37_48 =>
            intro x47 z48 H locs hP hD hS ls hl hf
            rw [pX9_write_L37_48] at hf
            refine lv_iload_n hx hb dX9_write_37 rfl (lv_at hl 2 rfl) ?_
            refine lv_aload_n hx hb dX9_write_38 rfl (lv_at hl 0 rfl) ?_
            refine va_get (D := D) (ci := 5) (v := .int (zz_gI z48 19)) (C := RX5) (T := TX5) (N := 4) hx hb hts inX5 hown hK hP 27 rfl rfl 3 (by decide) lk291 (fun _ h9 => h9) rfl dX9_write_39 ?_
            obtain ⟨j71_50, hj71_50, hf⟩ := zz_lts hf
            have Kj71_50 : ∀  (H : Heap) (locs : List Loc), va_P D vwCl (zw_9 q k z48) H → va_D A (zw_9 q k z48) → va_S A s.heap H locs → ∀ ls : Array Slot, lv_has ls 4 [(2, .ref (q 27))] → j71_50 () = some (r, o1) → W p l e rmX9_write s m args below meth c H locs 0 0 Q (F0 m 71 ls []) := by
              intro  H locs hP hD hS ls hl hf
              rw [hj71_50] at hf
              refine lv_aload_n hx hb dX9_write_71 rfl (lv_at hl 0 rfl) ?_
              refine va_get (D := D) (ci := 5) (v := .int (zz_gI z48 19)) (C := RX5) (T := TX5) (N := 4) hx hb hts inX5 hown hK hP 27 rfl rfl 3 (by decide) lk291 (fun _ h9 => h9) rfl dX9_write_72 ?_
              obtain ⟨rfl, rfl⟩ := zz_e2 hf
              exact hret _ _ _ _ dX9_write_75 hP hD hS
            refine lv_icmp_ge (tgt := 71) hx hb dX9_write_42 (by decide) (fun c42 => ?_) (fun c42 => ?_)
            · have hf := zz_ps hf c42
              exact Kj71_50  _ _ hP hD hS ls (lv_sub hl [0] rfl) hf
            · have hf := zz_ng hf c42
              refine lv_iload_n hx hb dX9_write_45 rfl (lv_at hl 2 rfl) ?_
              refine lv_bipush (v := (96 : Int32)) hx hb dX9_write_46 (by decide) ?_
              refine lv_icmp_ge (tgt := 71) hx hb dX9_write_48 (by decide) (fun c48 => ?_) (fun c48 => ?_)
              · have hf := zz_ps hf c48
                exact Kj71_50  _ _ hP hD hS ls (lv_sub hl [0] rfl) hf
              · have hf := zz_ng hf c48
                refine lv_aload_n hx hb dX9_write_51 rfl (lv_at hl 0 rfl) ?_
                refine lv_iload_n hx hb dX9_write_52 rfl (lv_at hl 2 rfl) ?_
                refine lv_aload_n hx hb dX9_write_53 rfl (lv_at hl 1 rfl) ?_
                refine va_get (D := D) (ci := 9) (v := .ref (q 33)) (C := RX9) (T := TX9) (N := 18) hx hb hts inX9 hown hK hP 0 rfl rfl 9 (by decide) lk66 (fun _ h9 => h9) rfl dX9_write_54 ?_
                refine va_get (D := D) (ci := 2) (v := .ref (q 34)) (C := RX2) (T := TX2) (N := 2) hx hb hts inX2 hown hK hP 33 rfl rfl 0 (by decide) lk151 (fun _ h9 => h9) rfl dX9_write_57 ?_
                refine lv_iload_n hx hb dX9_write_60 rfl (lv_at hl 2 rfl) ?_
                obtain ⟨hg51, hf⟩ := zz_gd hf
                refine va_iald hx hb hK hP 34 20 rfl rfl hg51 dX9_write_61 ?_
                obtain ⟨f52, hc53, hf⟩ := zz_b1s hf
                obtain ⟨S54, hS54, hf⟩ := zz_lts hf
                refine zz_jv (va_runV (As := [.int x47, .int ((zz_gA z48 17) (Int32.toNatClampNeg x47))]) (rest := []) hfx (zc_X5_store l D tb (q 27) (q 28) (k 28) F x47 ((zz_gA z48 17) (Int32.toNatClampNeg x47)) (zz_gI z48 17) (zz_gI z48 18) (zz_gI z48 19) (zz_gA z48 14) f52 hc53 H.size) (cwV 2 hts gX9_write_X5_store rfl rfl rfl (by decide +kernel) ⟨Nat.le_of_ble_eq_true rfl, Nat.le_of_ble_eq_true rfl⟩) (zz_preV hK hP hD hS hA hE [27, 28] [16] rfl (by decide) rfl 27 rfl rfl rfl) rfl rfl hl.1 rfl (lv_room (Nat.le_of_ble_eq_true rfl)) dX9_write_62 ⟨Nat.zero_le _, Nat.zero_le _⟩) hP hD hS hA [27, 28] rfl rfl (fun H locs hP hD hS => ?_)
                have hP : va_P D vwCl (zw_9 q k S54) H := by rw [hS54]; exact hP
                have hD : va_D A (zw_9 q k S54) := by rw [hS54]; exact hD
                obtain ⟨v55, hv55, hf⟩ := zz_lts hf
                refine lv_iinc (v := v55) (lv' := [(3, .int v55), (2, .ref (q 27)), (0, .ref (q 0))]) hx hb dX9_write_65 hl (k := 2) rfl (by rw [hv55]; rfl) (by decide) rfl (fun ls hl => ?_)
                refine lv_goto (tgt := 37) hx hb dX9_write_68 (by decide) ?_
                exact ihkL37_48 v55 S54 _ _ hP hD hS ls (lv_sub hl [1, 2, 0] rfl) hf
        exact hLkL37_48 F (0 : Int32) S45 _ _ hP hD hS ls (lv_sub hl [1, 2, 0] rfl) hf
      · have hf := zz_ng hf c22
        refine lv_aload_n hx hb dX9_write_25 rfl (lv_at hl 1 rfl) ?_
        refine lv_iconst (v := (1 : Int32)) hx hb dX9_write_26 (by decide) ?_
        obtain ⟨r56, S57, hc58, hf⟩ := zz_b2s hf
        refine zz_ji0 (va_runV (As := [.int (1 : Int32)]) (rest := []) hfx (zc_X9_found l D tb q k F (1 : Int32) S r56 S57 hc58 H.size) (cwV 1 hts gX9_write_X9_found rfl rfl rfl (by decide +kernel) ⟨Nat.le_of_ble_eq_true rfl, Nat.le_of_ble_eq_true rfl⟩) (zz_pre0V hK hP hD hS hA hE 0 rfl rfl rfl) rfl rfl hl.1 rfl (lv_room (Nat.le_of_ble_eq_true rfl)) dX9_write_27 ⟨Nat.zero_le _, Nat.zero_le _⟩) hD hS hA (fun H locs hP hD hS => ?_)
        obtain ⟨rfl, rfl⟩ := zz_e2 hf
        exact hret _ _ _ _ dX9_write_30 hP hD hS
    have hf := zz_ng hf ci16_3
    exact nomatch hf
  · have hf := zz_ps hf c5
    refine lv_bipush (v := (-2 : Int32)) hx hb dX9_write_8 (by decide) ?_
    obtain ⟨rfl, rfl⟩ := zz_e2 hf
    exact hret _ _ _ _ dX9_write_10 hP hD hS
def rmX9_count : Room := { frames := 1, cells := 0, slots := 0, locals := 21 }
set_option maxHeartbeats 4000000 in
set_option maxRecDepth 100000 in
theorem zc_X9_count (l : Launch) (D : va_G) (tb : Nat → Nat) (q : Nat → Nat) (k : Nat → ClassId) (F : Nat) (u0 : Int32) (S : zz_M) (r : Int32) (hf : pX9_count F u0 S = some r) : zz_Mi l yX9_count wsX9_count rmX9_count D tb [((k 1), .object "CatBeat$Text"), ((k 3), .int), ((k 5), .int), ((k 7), .int), ((k 8), .int), ((k 9), .int), ((k 11), .int), ((k 13), .int), ((k 15), .int), ((k 16), .int), ((k 18), .int), ((k 19), .int), ((k 20), .object "CatBeat$Sheet"), ((k 22), .int), ((k 24), .int), ((k 26), .int), ((k 28), .int), ((k 30), .int), ((k 31), .long), ((k 32), .boolean), ((k 34), .int), ((k 35), .long), ((k 37), .int), ((k 39), .int), ((k 40), .long), ((k 41), .boolean), ((k 43), .int), ((k 44), .long), ((k 46), .long), ((k 47), .int)] [.ref (q 0), .int u0] (zw_9 q k S) (zw_9 q k S) r := by
  refine zz_ofi (cc := cX9_count) (maxL := 2) (by decide) rfl (Nat.le_of_ble_eq_true rfl) ?_
  intro p e s m args below meth c A Q hfx hK hA hE hret H locs hP hD hS ls hl
  obtain ⟨hx, hb, hml, hown, hts⟩ := id hfx
  have inX9 : ∀ w ∈ u_ws RX9 TX9 18, w ∈ wsX9_count := by decide +kernel
  have inX8 : ∀ w ∈ u_ws RX8 TX8 4, w ∈ wsX9_count := by decide +kernel
  have inX4 : ∀ w ∈ u_ws RX4 TX4 2, w ∈ wsX9_count := by decide +kernel
  have inX7 : ∀ w ∈ u_ws RX7 TX7 3, w ∈ wsX9_count := by decide +kernel
  have inX6 : ∀ w ∈ u_ws RX6 TX6 2, w ∈ wsX9_count := by decide +kernel
  have inX1 : ∀ w ∈ u_ws RX1 TX1 3, w ∈ wsX9_count := by decide +kernel
  have lk25 := hts (.fieldLink RX9 25 "CatBeat" "ward" "LCatBeat$Ward;") (by decide +kernel)
  have lk120 := hts (.fieldLink RX9 120 "CatBeat$Ward" "count" "I") (by decide +kernel)
  have lk32 := hts (.fieldLink RX9 32 "CatBeat" "round" "LCatBeat$Round;") (by decide +kernel)
  have lk126 := hts (.fieldLink RX9 126 "CatBeat$Round" "count" "I") (by decide +kernel)
  have lk39 := hts (.fieldLink RX9 39 "CatBeat" "thieves" "LCatBeat$Thieves;") (by decide +kernel)
  have lk190 := hts (.fieldLink RX9 190 "CatBeat$Thieves" "count" "I") (by decide +kernel)
  have lk11 := hts (.fieldLink RX9 11 "CatBeat" "texts" "[LCatBeat$Text;") (by decide +kernel)
  have lk117 := hts (.fieldLink RX9 117 "CatBeat$Text" "length" "I") (by decide +kernel)
  have lk176 := hts (.fieldLink RX9 176 "CatBeat$Ward" "shops" "J") (by decide +kernel)
  have lk46 := hts (.fieldLink RX9 46 "CatBeat" "missing" "LCatBeat$Missed;") (by decide +kernel)
  have lk231 := hts (.fieldLink RX9 231 "CatBeat$Missed" "count" "I") (by decide +kernel)
  have lk89 := hts (.fieldLink RX9 89 "CatBeat" "latestFinding" "I") (by decide +kernel)
  have hl : lv_has ls 2 [(0, .ref (q 0)), (1, .int u0)] := hl
  unfold pX9_count at hf
  refine lv_iload_n hx hb dX9_count_0 rfl (lv_at hl 1 rfl) ?_
  by_cases cs1_0 : u0 = (0 : Int32)
  · have hf := zz_ps hf cs1_0
    refine zz_ti (y := (0 : Int32)) cs1_0.symm ?_
    refine lv_tableIn (off := 51) (tgt := 52) hx hb dX9_count_1 (by decide) (by decide) rfl (by decide) ?_
    refine lv_aload_n hx hb dX9_count_52 rfl (lv_at hl 0 rfl) ?_
    refine va_get (D := D) (ci := 9) (v := .ref (q 10)) (C := RX9) (T := TX9) (N := 18) hx hb hts inX9 hown hK hP 0 rfl rfl 3 (by decide) lk25 (fun _ h9 => h9) rfl dX9_count_53 ?_
    refine va_get (D := D) (ci := 8) (v := .int (zz_gI S 3)) (C := RX8) (T := TX8) (N := 4) hx hb hts inX8 hown hK hP 10 rfl rfl 1 (by decide) lk120 (fun _ h9 => h9) rfl dX9_count_56 ?_
    obtain rfl := zz_e1 hf
    exact hret _ _ _ _ dX9_count_59 hP hD hS
  have hf := zz_ng hf cs1_0
  by_cases cs1_1 : u0 = (1 : Int32)
  · have hf := zz_ps hf cs1_1
    refine zz_ti (y := (1 : Int32)) cs1_1.symm ?_
    refine lv_tableIn (off := 59) (tgt := 60) hx hb dX9_count_1 (by decide) (by decide) rfl (by decide) ?_
    refine lv_aload_n hx hb dX9_count_60 rfl (lv_at hl 0 rfl) ?_
    refine va_get (D := D) (ci := 9) (v := .ref (q 12)) (C := RX9) (T := TX9) (N := 18) hx hb hts inX9 hown hK hP 0 rfl rfl 4 (by decide) lk32 (fun _ h9 => h9) rfl dX9_count_61 ?_
    refine va_get (D := D) (ci := 4) (v := .int (zz_gI S 5)) (C := RX4) (T := TX4) (N := 2) hx hb hts inX4 hown hK hP 12 rfl rfl 1 (by decide) lk126 (fun _ h9 => h9) rfl dX9_count_64 ?_
    obtain rfl := zz_e1 hf
    exact hret _ _ _ _ dX9_count_67 hP hD hS
  have hf := zz_ng hf cs1_1
  by_cases cs1_2 : u0 = (2 : Int32)
  · have hf := zz_ps hf cs1_2
    refine zz_ti (y := (2 : Int32)) cs1_2.symm ?_
    refine lv_tableIn (off := 67) (tgt := 68) hx hb dX9_count_1 (by decide) (by decide) rfl (by decide) ?_
    refine lv_aload_n hx hb dX9_count_68 rfl (lv_at hl 0 rfl) ?_
    refine va_get (D := D) (ci := 9) (v := .ref (q 14)) (C := RX9) (T := TX9) (N := 18) hx hb hts inX9 hown hK hP 0 rfl rfl 5 (by decide) lk39 (fun _ h9 => h9) rfl dX9_count_69 ?_
    refine va_get (D := D) (ci := 7) (v := .int (zz_gI S 6)) (C := RX7) (T := TX7) (N := 3) hx hb hts inX7 hown hK hP 14 rfl rfl 2 (by decide) lk190 (fun _ h9 => h9) rfl dX9_count_72 ?_
    obtain rfl := zz_e1 hf
    exact hret _ _ _ _ dX9_count_75 hP hD hS
  have hf := zz_ng hf cs1_2
  by_cases cs1_3 : u0 = (3 : Int32)
  · have hf := zz_ps hf cs1_3
    refine zz_ti (y := (3 : Int32)) cs1_3.symm ?_
    refine lv_tableIn (off := 75) (tgt := 76) hx hb dX9_count_1 (by decide) (by decide) rfl (by decide) ?_
    refine lv_aload_n hx hb dX9_count_76 rfl (lv_at hl 0 rfl) ?_
    refine va_get (D := D) (ci := 9) (v := .ref (q 1)) (C := RX9) (T := TX9) (N := 18) hx hb hts inX9 hown hK hP 0 rfl rfl 0 (by decide) lk11 (fun _ h9 => h9) rfl dX9_count_77 ?_
    refine lv_iconst (v := (0 : Int32)) hx hb dX9_count_80 (by decide) ?_
    refine va_aldq hx hb hK hP 1 0 rfl rfl (show zz_in (0 : Int32) 3 by decide) dX9_count_81 ?_
    refine W.eq (g2 := F0 m 82 ls [.ref (q 2)]) rfl ?_
    refine va_get (D := D) (ci := 6) (v := .int (zz_gI S 0)) (C := RX6) (T := TX6) (N := 2) hx hb hts inX6 hown hK hP 2 rfl rfl 1 (by decide) lk117 (fun _ h9 => h9) rfl dX9_count_82 ?_
    obtain rfl := zz_e1 hf
    exact hret _ _ _ _ dX9_count_85 hP hD hS
  have hf := zz_ng hf cs1_3
  by_cases cs1_4 : u0 = (4 : Int32)
  · have hf := zz_ps hf cs1_4
    refine zz_ti (y := (4 : Int32)) cs1_4.symm ?_
    refine lv_tableIn (off := 85) (tgt := 86) hx hb dX9_count_1 (by decide) (by decide) rfl (by decide) ?_
    refine lv_aload_n hx hb dX9_count_86 rfl (lv_at hl 0 rfl) ?_
    refine va_get (D := D) (ci := 9) (v := .ref (q 1)) (C := RX9) (T := TX9) (N := 18) hx hb hts inX9 hown hK hP 0 rfl rfl 0 (by decide) lk11 (fun _ h9 => h9) rfl dX9_count_87 ?_
    refine lv_iconst (v := (1 : Int32)) hx hb dX9_count_90 (by decide) ?_
    refine va_aldq hx hb hK hP 1 0 rfl rfl (show zz_in (1 : Int32) 3 by decide) dX9_count_91 ?_
    refine W.eq (g2 := F0 m 92 ls [.ref (q 4)]) rfl ?_
    refine va_get (D := D) (ci := 6) (v := .int (zz_gI S 1)) (C := RX6) (T := TX6) (N := 2) hx hb hts inX6 hown hK hP 4 rfl rfl 1 (by decide) lk117 (fun _ h9 => h9) rfl dX9_count_92 ?_
    obtain rfl := zz_e1 hf
    exact hret _ _ _ _ dX9_count_95 hP hD hS
  have hf := zz_ng hf cs1_4
  by_cases cs1_5 : u0 = (5 : Int32)
  · have hf := zz_ps hf cs1_5
    refine zz_ti (y := (5 : Int32)) cs1_5.symm ?_
    refine lv_tableIn (off := 95) (tgt := 96) hx hb dX9_count_1 (by decide) (by decide) rfl (by decide) ?_
    refine lv_aload_n hx hb dX9_count_96 rfl (lv_at hl 0 rfl) ?_
    refine va_get (D := D) (ci := 9) (v := .ref (q 1)) (C := RX9) (T := TX9) (N := 18) hx hb hts inX9 hown hK hP 0 rfl rfl 0 (by decide) lk11 (fun _ h9 => h9) rfl dX9_count_97 ?_
    refine lv_iconst (v := (2 : Int32)) hx hb dX9_count_100 (by decide) ?_
    refine va_aldq hx hb hK hP 1 0 rfl rfl (show zz_in (2 : Int32) 3 by decide) dX9_count_101 ?_
    refine W.eq (g2 := F0 m 102 ls [.ref (q 6)]) rfl ?_
    refine va_get (D := D) (ci := 6) (v := .int (zz_gI S 2)) (C := RX6) (T := TX6) (N := 2) hx hb hts inX6 hown hK hP 6 rfl rfl 1 (by decide) lk117 (fun _ h9 => h9) rfl dX9_count_102 ?_
    obtain rfl := zz_e1 hf
    exact hret _ _ _ _ dX9_count_105 hP hD hS
  have hf := zz_ng hf cs1_5
  by_cases cs1_6 : u0 = (6 : Int32)
  · have hf := zz_ps hf cs1_6
    refine zz_ti (y := (6 : Int32)) cs1_6.symm ?_
    refine lv_tableIn (off := 105) (tgt := 106) hx hb dX9_count_1 (by decide) (by decide) rfl (by decide) ?_
    refine lv_aload_n hx hb dX9_count_106 rfl (lv_at hl 0 rfl) ?_
    refine va_get (D := D) (ci := 9) (v := .ref (q 10)) (C := RX9) (T := TX9) (N := 18) hx hb hts inX9 hown hK hP 0 rfl rfl 3 (by decide) lk25 (fun _ h9 => h9) rfl dX9_count_107 ?_
    refine va_get (D := D) (ci := 8) (v := .long (zz_gL S 0 0)) (C := RX8) (T := TX8) (N := 4) hx hb hts inX8 hown hK hP 10 rfl rfl 3 (by decide) lk176 (fun _ h9 => h9) rfl dX9_count_110 ?_
    obtain ⟨r1, hc2, hf⟩ := zz_b1s hf
    refine zz_ji (va_runS (As := [.long (zz_gL S 0 0)]) (rest := []) hfx (zc_J13_bitCount_95d88 l D tb  F (zz_gL S 0 0)  r1 hc2 H.size) (va_cwS 1 hts gX9_count_J13_bitCount_95d88 rfl rfl rfl (by decide +kernel) ⟨Nat.le_of_ble_eq_true rfl, Nat.le_of_ble_eq_true rfl⟩) (zz_preS hK hP hD hS hA hE [] [] rfl (by decide) rfl) rfl rfl hl.1 rfl (lv_room (Nat.le_of_ble_eq_true rfl)) dX9_count_113 ⟨Nat.zero_le _, Nat.zero_le _⟩) hP hD hS hA [] rfl rfl (fun H locs hP hD hS => ?_)
    have hP : va_P D vwCl (zw_9 q k S) H := hP
    have hD : va_D A (zw_9 q k S) := hD
    obtain rfl := zz_e1 hf
    exact hret _ _ _ _ dX9_count_116 hP hD hS
  have hf := zz_ng hf cs1_6
  by_cases cs1_7 : u0 = (7 : Int32)
  · have hf := zz_ps hf cs1_7
    refine zz_ti (y := (7 : Int32)) cs1_7.symm ?_
    refine lv_tableIn (off := 116) (tgt := 117) hx hb dX9_count_1 (by decide) (by decide) rfl (by decide) ?_
    refine lv_aload_n hx hb dX9_count_117 rfl (lv_at hl 0 rfl) ?_
    refine va_get (D := D) (ci := 9) (v := .ref (q 17)) (C := RX9) (T := TX9) (N := 18) hx hb hts inX9 hown hK hP 0 rfl rfl 6 (by decide) lk46 (fun _ h9 => h9) rfl dX9_count_118 ?_
    refine va_get (D := D) (ci := 1) (v := .int (zz_gI S 7)) (C := RX1) (T := TX1) (N := 3) hx hb hts inX1 hown hK hP 17 rfl rfl 2 (by decide) lk231 (fun _ h9 => h9) rfl dX9_count_121 ?_
    obtain rfl := zz_e1 hf
    exact hret _ _ _ _ dX9_count_124 hP hD hS
  have hf := zz_ng hf cs1_7
  by_cases cs1_8 : u0 = (8 : Int32)
  · have hf := zz_ps hf cs1_8
    refine zz_ti (y := (8 : Int32)) cs1_8.symm ?_
    refine lv_tableIn (off := 124) (tgt := 125) hx hb dX9_count_1 (by decide) (by decide) rfl (by decide) ?_
    refine lv_aload_n hx hb dX9_count_125 rfl (lv_at hl 0 rfl) ?_
    refine va_get (D := D) (ci := 9) (v := .int (zz_gI S 24)) (C := RX9) (T := TX9) (N := 18) hx hb hts inX9 hown hK hP 0 rfl rfl 15 (by decide) lk89 (fun _ h9 => h9) rfl dX9_count_126 ?_
    obtain rfl := zz_e1 hf
    exact hret _ _ _ _ dX9_count_129 hP hD hS
  have hf := zz_ng hf cs1_8
  obtain ⟨cd1, hf⟩ := zz_gd hf
  refine lv_tableOut (tgt := 130) hx hb dX9_count_1 cd1 (by decide) ?_
  refine lv_bipush (v := (-2 : Int32)) hx hb dX9_count_130 (by decide) ?_
  obtain rfl := zz_e1 hf
  exact hret _ _ _ _ dX9_count_132 hP hD hS
def rmX9_digestCells : Room := { frames := 5, cells := 0, slots := 0, locals := 118 }
set_option maxHeartbeats 4000000 in
set_option maxRecDepth 100000 in
theorem zc_X9_digestCells (l : Launch) (D : va_G) (tb : Nat → Nat) (q : Nat → Nat) (k : Nat → ClassId) (F : Nat) (u0 : Int64) (S : zz_M) (r : Int64) (o1 : zz_M) (hf : pX9_digestCells F u0 S = some (r, o1)) : zz_Ml l yX9_digestCells wsX9_digestCells rmX9_digestCells D tb [((k 1), .object "CatBeat$Text"), ((k 3), .int), ((k 5), .int), ((k 7), .int), ((k 8), .int), ((k 9), .int), ((k 11), .int), ((k 13), .int), ((k 15), .int), ((k 16), .int), ((k 18), .int), ((k 19), .int), ((k 20), .object "CatBeat$Sheet"), ((k 22), .int), ((k 24), .int), ((k 26), .int), ((k 28), .int), ((k 30), .int), ((k 31), .long), ((k 32), .boolean), ((k 34), .int), ((k 35), .long), ((k 37), .int), ((k 39), .int), ((k 40), .long), ((k 41), .boolean), ((k 43), .int), ((k 44), .long), ((k 46), .long), ((k 47), .int)] [.ref (q 0), .long u0] (zw_9 q k S) (zw_9 q k o1) r := by
  refine zz_ofl (cc := cX9_digestCells) (maxL := 6) (by decide) rfl (Nat.le_of_ble_eq_true rfl) ?_
  intro p e s m args below meth c A Q hfx hK hA hE hret H locs hP hD hS ls hl
  obtain ⟨hx, hb, hml, hown, hts⟩ := id hfx
  have inX9 : ∀ w ∈ u_ws RX9 TX9 18, w ∈ wsX9_digestCells := by decide +kernel
  have inX8 : ∀ w ∈ u_ws RX8 TX8 4, w ∈ wsX9_digestCells := by decide +kernel
  have lk25 := hts (.fieldLink RX9 25 "CatBeat" "ward" "LCatBeat$Ward;") (by decide +kernel)
  have lk120 := hts (.fieldLink RX9 120 "CatBeat$Ward" "count" "I") (by decide +kernel)
  have kc318 := hts (.constantLong RX9 318 (31)) (by decide +kernel)
  have hl : lv_has ls 6 [(0, .ref (q 0)), (1, .long u0)] := hl
  unfold pX9_digestCells at hf
  refine lv_lload_n hx hb dX9_digestCells_0 rfl (lv_at hl 1 rfl) ?_
  refine lv_lstore_n (lv' := [(3, .long u0), (0, .ref (q 0)), (1, .long u0)]) hx hb dX9_digestCells_1 rfl hl (by decide) rfl (fun ls hl => ?_)
  refine lv_iconst (v := (0 : Int32)) hx hb dX9_digestCells_2 (by decide) ?_
  refine lv_istore (lv' := [(5, .int (0 : Int32)), (3, .long u0), (0, .ref (q 0)), (1, .long u0)]) hx hb dX9_digestCells_3 hl (by decide) rfl (fun ls hl => ?_)
  have hLkL5_3 : ∀ (n5_3 : Nat) (x1 : Int64) (x2 : Int32) (z3 : zz_M) (H : Heap) (locs : List Loc), va_P D vwCl (zw_9 q k z3) H → va_D A (zw_9 q k z3) → va_S A s.heap H locs → ∀ ls : Array Slot, lv_has ls 6 [(0, .ref (q 0)), (3, .long x1), (5, .int x2)] → pX9_digestCells_L5_3 F n5_3 x1 x2 z3 = some (r, o1) → W p l e rmX9_digestCells s m args below meth c H locs 0 0 Q (F0 m 5 ls []) := by
    intro n5_3
    induction n5_3 with
    | zero =>
      intro x1 x2 z3 H locs hP hD hS ls hl hf
      exact nomatch (show (none : Option _) = some _ from hf)
    | succ n5_3 ihkL5_3 =>
      intro x1 x2 z3 H locs hP hD hS ls hl hf
      rw [pX9_digestCells_L5_3] at hf
      refine lv_iload hx hb dX9_digestCells_5 (lv_at hl 2 rfl) ?_
      refine lv_aload_n hx hb dX9_digestCells_7 rfl (lv_at hl 0 rfl) ?_
      refine va_get (D := D) (ci := 9) (v := .ref (q 10)) (C := RX9) (T := TX9) (N := 18) hx hb hts inX9 hown hK hP 0 rfl rfl 3 (by decide) lk25 (fun _ h9 => h9) rfl dX9_digestCells_8 ?_
      refine va_get (D := D) (ci := 8) (v := .int (zz_gI z3 3)) (C := RX8) (T := TX8) (N := 4) hx hb hts inX8 hown hK hP 10 rfl rfl 1 (by decide) lk120 (fun _ h9 => h9) rfl dX9_digestCells_11 ?_
      refine lv_icmp_ge (tgt := 67) hx hb dX9_digestCells_14 (by decide) (fun c14 => ?_) (fun c14 => ?_)
      · have hf := zz_ps hf c14
        refine lv_lload_n hx hb dX9_digestCells_67 rfl (lv_at hl 1 rfl) ?_
        obtain ⟨rfl, rfl⟩ := zz_e2 hf
        exact hret _ _ _ _ dX9_digestCells_68 hP hD hS
      · have hf := zz_ng hf c14
        refine lv_ldc2 (v := (31 : Int64)) hx hb hown kc318 dX9_digestCells_17 ?_
        refine lv_lload_n hx hb dX9_digestCells_20 rfl (lv_at hl 1 rfl) ?_
        refine lv_lmul hx hb dX9_digestCells_21 ?_
        refine lv_aload_n hx hb dX9_digestCells_22 rfl (lv_at hl 0 rfl) ?_
        refine lv_iload hx hb dX9_digestCells_23 (lv_at hl 2 rfl) ?_
        obtain ⟨r5, hc6, hf⟩ := zz_b1s hf
        refine zz_ji0 (va_runV (As := [.int x2]) (rest := [.long ((31 : Int64) * x1)]) hfx (zc_X9_cell l D tb q k F x2 z3 r5 hc6 H.size) (cwV 1 hts gX9_digestCells_X9_cell rfl rfl rfl (by decide +kernel) ⟨Nat.le_of_ble_eq_true rfl, Nat.le_of_ble_eq_true rfl⟩) (zz_pre0V hK hP hD hS hA hE 0 rfl rfl rfl) rfl rfl hl.1 rfl (lv_room (Nat.le_of_ble_eq_true rfl)) dX9_digestCells_25 ⟨Nat.zero_le _, Nat.zero_le _⟩) hD hS hA (fun H locs hP hD hS => ?_)
        refine lv_i2l (v := (Int32.toInt64 r5)) hx hb dX9_digestCells_28 rfl ?_
        refine lv_ladd hx hb dX9_digestCells_29 ?_
        obtain ⟨v7, hv7, hf⟩ := zz_lts hf
        refine zz_tl hv7 ?_
        refine lv_lstore_n (lv' := [(3, .long v7), (0, .ref (q 0)), (5, .int x2)]) hx hb dX9_digestCells_30 rfl hl (by decide) rfl (fun ls hl => ?_)
        refine lv_ldc2 (v := (31 : Int64)) hx hb hown kc318 dX9_digestCells_31 ?_
        refine lv_lload_n hx hb dX9_digestCells_34 rfl (lv_at hl 0 rfl) ?_
        refine lv_lmul hx hb dX9_digestCells_35 ?_
        refine lv_aload_n hx hb dX9_digestCells_36 rfl (lv_at hl 1 rfl) ?_
        refine lv_iload hx hb dX9_digestCells_37 (lv_at hl 2 rfl) ?_
        refine lv_iconst (v := (0 : Int32)) hx hb dX9_digestCells_39 (by decide) ?_
        obtain ⟨r8, S9, hc10, hf⟩ := zz_b2s hf
        refine zz_ji0 (va_runV (As := [.int x2, .int (0 : Int32)]) (rest := [.long ((31 : Int64) * v7)]) hfx (zc_X9_seen l D tb q k F x2 (0 : Int32) z3 r8 S9 hc10 H.size) (cwV 2 hts gX9_digestCells_X9_seen rfl rfl rfl (by decide +kernel) ⟨Nat.le_of_ble_eq_true rfl, Nat.le_of_ble_eq_true rfl⟩) (zz_pre0V hK hP hD hS hA hE 0 rfl rfl rfl) rfl rfl hl.1 rfl (lv_room (Nat.le_of_ble_eq_true rfl)) dX9_digestCells_40 ⟨Nat.zero_le _, Nat.zero_le _⟩) hD hS hA (fun H locs hP hD hS => ?_)
        refine lv_i2l (v := (Int32.toInt64 r8)) hx hb dX9_digestCells_43 rfl ?_
        refine lv_ladd hx hb dX9_digestCells_44 ?_
        obtain ⟨v11, hv11, hf⟩ := zz_lts hf
        refine zz_tl hv11 ?_
        refine lv_lstore_n (lv' := [(3, .long v11), (0, .ref (q 0)), (5, .int x2)]) hx hb dX9_digestCells_45 rfl hl (by decide) rfl (fun ls hl => ?_)
        refine lv_ldc2 (v := (31 : Int64)) hx hb hown kc318 dX9_digestCells_46 ?_
        refine lv_lload_n hx hb dX9_digestCells_49 rfl (lv_at hl 0 rfl) ?_
        refine lv_lmul hx hb dX9_digestCells_50 ?_
        refine lv_aload_n hx hb dX9_digestCells_51 rfl (lv_at hl 1 rfl) ?_
        refine lv_iload hx hb dX9_digestCells_52 (lv_at hl 2 rfl) ?_
        refine lv_iconst (v := (1 : Int32)) hx hb dX9_digestCells_54 (by decide) ?_
        obtain ⟨r12, S13, hc14, hf⟩ := zz_b2s hf
        refine zz_ji0 (va_runV (As := [.int x2, .int (1 : Int32)]) (rest := [.long ((31 : Int64) * v11)]) hfx (zc_X9_seen l D tb q k F x2 (1 : Int32) S9 r12 S13 hc14 H.size) (cwV 2 hts gX9_digestCells_X9_seen rfl rfl rfl (by decide +kernel) ⟨Nat.le_of_ble_eq_true rfl, Nat.le_of_ble_eq_true rfl⟩) (zz_pre0V hK hP hD hS hA hE 0 rfl rfl rfl) rfl rfl hl.1 rfl (lv_room (Nat.le_of_ble_eq_true rfl)) dX9_digestCells_55 ⟨Nat.zero_le _, Nat.zero_le _⟩) hD hS hA (fun H locs hP hD hS => ?_)
        refine lv_i2l (v := (Int32.toInt64 r12)) hx hb dX9_digestCells_58 rfl ?_
        refine lv_ladd hx hb dX9_digestCells_59 ?_
        obtain ⟨v15, hv15, hf⟩ := zz_lts hf
        refine zz_tl hv15 ?_
        refine lv_lstore_n (lv' := [(3, .long v15), (0, .ref (q 0)), (5, .int x2)]) hx hb dX9_digestCells_60 rfl hl (by decide) rfl (fun ls hl => ?_)
        obtain ⟨v16, hv16, hf⟩ := zz_lts hf
        refine lv_iinc (v := v16) (lv' := [(5, .int v16), (3, .long v15), (0, .ref (q 0))]) hx hb dX9_digestCells_61 hl (k := 2) rfl (by rw [hv16]; rfl) (by decide) rfl (fun ls hl => ?_)
        refine lv_goto (tgt := 5) hx hb dX9_digestCells_64 (by decide) ?_
        exact ihkL5_3 v15 v16 S13 _ _ hP hD hS ls (lv_sub hl [2, 1, 0] rfl) hf
  exact hLkL5_3 F u0 (0 : Int32) S _ _ hP hD hS ls (lv_sub hl [2, 1, 0] rfl) hf
def rmX9_digestThief : Room := { frames := 5, cells := 0, slots := 0, locals := 131 }
set_option maxHeartbeats 4000000 in
set_option maxRecDepth 100000 in
theorem zc_X9_digestThief (l : Launch) (D : va_G) (tb : Nat → Nat) (q : Nat → Nat) (k : Nat → ClassId) (F : Nat) (u0 : Int64) (u1 : Int32) (S : zz_M) (r : Int64) (o1 : zz_M) (hf : pX9_digestThief F u0 u1 S = some (r, o1)) : zz_Ml l yX9_digestThief wsX9_digestThief rmX9_digestThief D tb [((k 1), .object "CatBeat$Text"), ((k 3), .int), ((k 5), .int), ((k 7), .int), ((k 8), .int), ((k 9), .int), ((k 11), .int), ((k 13), .int), ((k 15), .int), ((k 16), .int), ((k 18), .int), ((k 19), .int), ((k 20), .object "CatBeat$Sheet"), ((k 22), .int), ((k 24), .int), ((k 26), .int), ((k 28), .int), ((k 30), .int), ((k 31), .long), ((k 32), .boolean), ((k 34), .int), ((k 35), .long), ((k 37), .int), ((k 39), .int), ((k 40), .long), ((k 41), .boolean), ((k 43), .int), ((k 44), .long), ((k 46), .long), ((k 47), .int)] [.ref (q 0), .long u0, .int u1] (zw_9 q k S) (zw_9 q k o1) r := by
  refine zz_ofl (cc := cX9_digestThief) (maxL := 6) (by decide) rfl (Nat.le_of_ble_eq_true rfl) ?_
  intro p e s m args below meth c A Q hfx hK hA hE hret H locs hP hD hS ls hl
  obtain ⟨hx, hb, hml, hown, hts⟩ := id hfx
  have kc318 := hts (.constantLong RX9 318 (31)) (by decide +kernel)
  have hl : lv_has ls 6 [(0, .ref (q 0)), (1, .long u0), (3, .int u1)] := hl
  unfold pX9_digestThief at hf
  refine lv_lload_n hx hb dX9_digestThief_0 rfl (lv_at hl 1 rfl) ?_
  refine lv_lstore (lv' := [(4, .long u0), (0, .ref (q 0)), (1, .long u0), (3, .int u1)]) hx hb dX9_digestThief_1 hl (by decide) rfl (fun ls hl => ?_)
  refine lv_ldc2 (v := (31 : Int64)) hx hb hown kc318 dX9_digestThief_3 ?_
  refine lv_lload hx hb dX9_digestThief_6 (lv_at hl 0 rfl) ?_
  refine lv_lmul hx hb dX9_digestThief_8 ?_
  refine lv_aload_n hx hb dX9_digestThief_9 rfl (lv_at hl 1 rfl) ?_
  refine lv_iload_n hx hb dX9_digestThief_10 rfl (lv_at hl 3 rfl) ?_
  refine lv_iconst (v := (0 : Int32)) hx hb dX9_digestThief_11 (by decide) ?_
  obtain ⟨r1, hc2, hf⟩ := zz_b1s hf
  refine zz_ji0 (va_runV (As := [.int u1, .int (0 : Int32)]) (rest := [.long ((31 : Int64) * u0)]) hfx (zc_X9_thief l D tb q k F u1 (0 : Int32) S r1 hc2 H.size) (cwV 2 hts gX9_digestThief_X9_thief rfl rfl rfl (by decide +kernel) ⟨Nat.le_of_ble_eq_true rfl, Nat.le_of_ble_eq_true rfl⟩) (zz_pre0V hK hP hD hS hA hE 0 rfl rfl rfl) rfl rfl hl.1 rfl (lv_room (Nat.le_of_ble_eq_true rfl)) dX9_digestThief_12 ⟨Nat.zero_le _, Nat.zero_le _⟩) hD hS hA (fun H locs hP hD hS => ?_)
  refine lv_i2l (v := (Int32.toInt64 r1)) hx hb dX9_digestThief_15 rfl ?_
  refine lv_ladd hx hb dX9_digestThief_16 ?_
  obtain ⟨v3, hv3, hf⟩ := zz_lts hf
  refine zz_tl hv3 ?_
  refine lv_lstore (lv' := [(4, .long v3), (0, .ref (q 0)), (1, .long u0), (3, .int u1)]) hx hb dX9_digestThief_17 hl (by decide) rfl (fun ls hl => ?_)
  refine lv_ldc2 (v := (31 : Int64)) hx hb hown kc318 dX9_digestThief_19 ?_
  refine lv_lload hx hb dX9_digestThief_22 (lv_at hl 0 rfl) ?_
  refine lv_lmul hx hb dX9_digestThief_24 ?_
  refine lv_aload_n hx hb dX9_digestThief_25 rfl (lv_at hl 1 rfl) ?_
  refine lv_iload_n hx hb dX9_digestThief_26 rfl (lv_at hl 3 rfl) ?_
  refine lv_iconst (v := (1 : Int32)) hx hb dX9_digestThief_27 (by decide) ?_
  obtain ⟨r4, hc5, hf⟩ := zz_b1s hf
  refine zz_ji0 (va_runV (As := [.int u1, .int (1 : Int32)]) (rest := [.long ((31 : Int64) * v3)]) hfx (zc_X9_thief l D tb q k F u1 (1 : Int32) S r4 hc5 H.size) (cwV 2 hts gX9_digestThief_X9_thief rfl rfl rfl (by decide +kernel) ⟨Nat.le_of_ble_eq_true rfl, Nat.le_of_ble_eq_true rfl⟩) (zz_pre0V hK hP hD hS hA hE 0 rfl rfl rfl) rfl rfl hl.1 rfl (lv_room (Nat.le_of_ble_eq_true rfl)) dX9_digestThief_28 ⟨Nat.zero_le _, Nat.zero_le _⟩) hD hS hA (fun H locs hP hD hS => ?_)
  refine lv_i2l (v := (Int32.toInt64 r4)) hx hb dX9_digestThief_31 rfl ?_
  refine lv_ladd hx hb dX9_digestThief_32 ?_
  obtain ⟨v6, hv6, hf⟩ := zz_lts hf
  refine zz_tl hv6 ?_
  refine lv_lstore (lv' := [(4, .long v6), (0, .ref (q 0)), (1, .long u0), (3, .int u1)]) hx hb dX9_digestThief_33 hl (by decide) rfl (fun ls hl => ?_)
  refine lv_ldc2 (v := (31 : Int64)) hx hb hown kc318 dX9_digestThief_35 ?_
  refine lv_lload hx hb dX9_digestThief_38 (lv_at hl 0 rfl) ?_
  refine lv_lmul hx hb dX9_digestThief_40 ?_
  refine lv_aload_n hx hb dX9_digestThief_41 rfl (lv_at hl 1 rfl) ?_
  refine lv_iload_n hx hb dX9_digestThief_42 rfl (lv_at hl 3 rfl) ?_
  obtain ⟨r7, S8, hc9, hf⟩ := zz_b2s hf
  refine zz_ji0 (va_runV (As := [.int u1]) (rest := [.long ((31 : Int64) * v6)]) hfx (zc_X9_takes l D tb q k F u1 S r7 S8 hc9 H.size) (cwV 1 hts gX9_digestThief_X9_takes rfl rfl rfl (by decide +kernel) ⟨Nat.le_of_ble_eq_true rfl, Nat.le_of_ble_eq_true rfl⟩) (zz_pre0V hK hP hD hS hA hE 0 rfl rfl rfl) rfl rfl hl.1 rfl (lv_room (Nat.le_of_ble_eq_true rfl)) dX9_digestThief_43 ⟨Nat.zero_le _, Nat.zero_le _⟩) hD hS hA (fun H locs hP hD hS => ?_)
  refine lv_i2l (v := (Int32.toInt64 r7)) hx hb dX9_digestThief_46 rfl ?_
  refine lv_ladd hx hb dX9_digestThief_47 ?_
  obtain ⟨v10, hv10, hf⟩ := zz_lts hf
  refine zz_tl hv10 ?_
  refine lv_lstore (lv' := [(4, .long v10), (0, .ref (q 0)), (1, .long u0), (3, .int u1)]) hx hb dX9_digestThief_48 hl (by decide) rfl (fun ls hl => ?_)
  refine lv_ldc2 (v := (31 : Int64)) hx hb hown kc318 dX9_digestThief_50 ?_
  refine lv_lload hx hb dX9_digestThief_53 (lv_at hl 0 rfl) ?_
  refine lv_lmul hx hb dX9_digestThief_55 ?_
  refine lv_aload_n hx hb dX9_digestThief_56 rfl (lv_at hl 1 rfl) ?_
  refine lv_iload_n hx hb dX9_digestThief_57 rfl (lv_at hl 3 rfl) ?_
  refine lv_iconst (v := (-1 : Int32)) hx hb dX9_digestThief_58 (by decide) ?_
  obtain ⟨r11, S12, hc13, hf⟩ := zz_b2s hf
  refine zz_ji0 (va_runV (As := [.int u1, .int (-1 : Int32)]) (rest := [.long ((31 : Int64) * v10)]) hfx (zc_X9_meant l D tb q k F u1 (-1 : Int32) S8 r11 S12 hc13 H.size) (cwV 2 hts gX9_digestThief_X9_meant rfl rfl rfl (by decide +kernel) ⟨Nat.le_of_ble_eq_true rfl, Nat.le_of_ble_eq_true rfl⟩) (zz_pre0V hK hP hD hS hA hE 0 rfl rfl rfl) rfl rfl hl.1 rfl (lv_room (Nat.le_of_ble_eq_true rfl)) dX9_digestThief_59 ⟨Nat.zero_le _, Nat.zero_le _⟩) hD hS hA (fun H locs hP hD hS => ?_)
  refine lv_i2l (v := (Int32.toInt64 r11)) hx hb dX9_digestThief_62 rfl ?_
  refine lv_ladd hx hb dX9_digestThief_63 ?_
  obtain ⟨v14, hv14, hf⟩ := zz_lts hf
  refine zz_tl hv14 ?_
  refine lv_lstore (lv' := [(4, .long v14), (0, .ref (q 0)), (1, .long u0), (3, .int u1)]) hx hb dX9_digestThief_64 hl (by decide) rfl (fun ls hl => ?_)
  refine lv_ldc2 (v := (31 : Int64)) hx hb hown kc318 dX9_digestThief_66 ?_
  refine lv_lload hx hb dX9_digestThief_69 (lv_at hl 0 rfl) ?_
  refine lv_lmul hx hb dX9_digestThief_71 ?_
  refine lv_aload_n hx hb dX9_digestThief_72 rfl (lv_at hl 1 rfl) ?_
  refine lv_iload_n hx hb dX9_digestThief_73 rfl (lv_at hl 3 rfl) ?_
  refine lv_iconst (v := (0 : Int32)) hx hb dX9_digestThief_74 (by decide) ?_
  obtain ⟨r15, S16, hc17, hf⟩ := zz_b2s hf
  refine zz_ji0 (va_runV (As := [.int u1, .int (0 : Int32)]) (rest := [.long ((31 : Int64) * v14)]) hfx (zc_X9_meant l D tb q k F u1 (0 : Int32) S12 r15 S16 hc17 H.size) (cwV 2 hts gX9_digestThief_X9_meant rfl rfl rfl (by decide +kernel) ⟨Nat.le_of_ble_eq_true rfl, Nat.le_of_ble_eq_true rfl⟩) (zz_pre0V hK hP hD hS hA hE 0 rfl rfl rfl) rfl rfl hl.1 rfl (lv_room (Nat.le_of_ble_eq_true rfl)) dX9_digestThief_75 ⟨Nat.zero_le _, Nat.zero_le _⟩) hD hS hA (fun H locs hP hD hS => ?_)
  refine lv_i2l (v := (Int32.toInt64 r15)) hx hb dX9_digestThief_78 rfl ?_
  refine lv_ladd hx hb dX9_digestThief_79 ?_
  obtain ⟨v18, hv18, hf⟩ := zz_lts hf
  refine zz_tl hv18 ?_
  refine lv_lstore (lv' := [(4, .long v18), (0, .ref (q 0)), (1, .long u0), (3, .int u1)]) hx hb dX9_digestThief_80 hl (by decide) rfl (fun ls hl => ?_)
  refine lv_ldc2 (v := (31 : Int64)) hx hb hown kc318 dX9_digestThief_82 ?_
  refine lv_lload hx hb dX9_digestThief_85 (lv_at hl 0 rfl) ?_
  refine lv_lmul hx hb dX9_digestThief_87 ?_
  refine lv_aload_n hx hb dX9_digestThief_88 rfl (lv_at hl 1 rfl) ?_
  refine lv_iconst (v := (5 : Int32)) hx hb dX9_digestThief_89 (by decide) ?_
  refine lv_iconst (v := (5 : Int32)) hx hb dX9_digestThief_90 (by decide) ?_
  refine lv_iload_n hx hb dX9_digestThief_91 rfl (lv_at hl 3 rfl) ?_
  refine lv_iconst (v := (0 : Int32)) hx hb dX9_digestThief_92 (by decide) ?_
  obtain ⟨r19, S20, hc21, hf⟩ := zz_b2s hf
  refine zz_jl0 (va_runV (As := [.int (5 : Int32), .int (5 : Int32), .int u1, .int (0 : Int32)]) (rest := [.long ((31 : Int64) * v18)]) hfx (zc_X9_fogged l D tb q k F (5 : Int32) (5 : Int32) u1 (0 : Int32) S16 r19 S20 hc21 H.size) (cwV 4 hts gX9_digestThief_X9_fogged rfl rfl rfl (by decide +kernel) ⟨Nat.le_of_ble_eq_true rfl, Nat.le_of_ble_eq_true rfl⟩) (zz_pre0V hK hP hD hS hA hE 0 rfl rfl rfl) rfl rfl hl.1 rfl (lv_room (Nat.le_of_ble_eq_true rfl)) dX9_digestThief_93 ⟨Nat.zero_le _, Nat.zero_le _⟩) hD hS hA (fun H locs hP hD hS => ?_)
  refine lv_ladd hx hb dX9_digestThief_96 ?_
  obtain ⟨v22, hv22, hf⟩ := zz_lts hf
  refine zz_tl hv22 ?_
  refine lv_lstore (lv' := [(4, .long v22), (0, .ref (q 0)), (1, .long u0), (3, .int u1)]) hx hb dX9_digestThief_97 hl (by decide) rfl (fun ls hl => ?_)
  refine lv_ldc2 (v := (31 : Int64)) hx hb hown kc318 dX9_digestThief_99 ?_
  refine lv_lload hx hb dX9_digestThief_102 (lv_at hl 0 rfl) ?_
  refine lv_lmul hx hb dX9_digestThief_104 ?_
  refine lv_aload_n hx hb dX9_digestThief_105 rfl (lv_at hl 1 rfl) ?_
  refine lv_iconst (v := (5 : Int32)) hx hb dX9_digestThief_106 (by decide) ?_
  refine lv_iconst (v := (5 : Int32)) hx hb dX9_digestThief_107 (by decide) ?_
  refine lv_iload_n hx hb dX9_digestThief_108 rfl (lv_at hl 3 rfl) ?_
  refine lv_iconst (v := (1 : Int32)) hx hb dX9_digestThief_109 (by decide) ?_
  obtain ⟨r23, S24, hc25, hf⟩ := zz_b2s hf
  refine zz_jl0 (va_runV (As := [.int (5 : Int32), .int (5 : Int32), .int u1, .int (1 : Int32)]) (rest := [.long ((31 : Int64) * v22)]) hfx (zc_X9_fogged l D tb q k F (5 : Int32) (5 : Int32) u1 (1 : Int32) S20 r23 S24 hc25 H.size) (cwV 4 hts gX9_digestThief_X9_fogged rfl rfl rfl (by decide +kernel) ⟨Nat.le_of_ble_eq_true rfl, Nat.le_of_ble_eq_true rfl⟩) (zz_pre0V hK hP hD hS hA hE 0 rfl rfl rfl) rfl rfl hl.1 rfl (lv_room (Nat.le_of_ble_eq_true rfl)) dX9_digestThief_110 ⟨Nat.zero_le _, Nat.zero_le _⟩) hD hS hA (fun H locs hP hD hS => ?_)
  refine lv_ladd hx hb dX9_digestThief_113 ?_
  obtain ⟨v26, hv26, hf⟩ := zz_lts hf
  refine zz_tl hv26 ?_
  refine lv_lstore (lv' := [(4, .long v26), (0, .ref (q 0)), (1, .long u0), (3, .int u1)]) hx hb dX9_digestThief_114 hl (by decide) rfl (fun ls hl => ?_)
  refine lv_lload hx hb dX9_digestThief_116 (lv_at hl 0 rfl) ?_
  obtain ⟨rfl, rfl⟩ := zz_e2 hf
  exact hret _ _ _ _ dX9_digestThief_118 hP hD hS
def rmX9_digestMoments : Room := { frames := 5, cells := 0, slots := 0, locals := 118 }
set_option maxHeartbeats 4000000 in
set_option maxRecDepth 100000 in
theorem zc_X9_digestMoments (l : Launch) (D : va_G) (tb : Nat → Nat) (q : Nat → Nat) (k : Nat → ClassId) (F : Nat) (u0 : Int64) (S : zz_M) (r : Int64) (o1 : zz_M) (hf : pX9_digestMoments F u0 S = some (r, o1)) : zz_Ml l yX9_digestMoments wsX9_digestMoments rmX9_digestMoments D tb [((k 1), .object "CatBeat$Text"), ((k 3), .int), ((k 5), .int), ((k 7), .int), ((k 8), .int), ((k 9), .int), ((k 11), .int), ((k 13), .int), ((k 15), .int), ((k 16), .int), ((k 18), .int), ((k 19), .int), ((k 20), .object "CatBeat$Sheet"), ((k 22), .int), ((k 24), .int), ((k 26), .int), ((k 28), .int), ((k 30), .int), ((k 31), .long), ((k 32), .boolean), ((k 34), .int), ((k 35), .long), ((k 37), .int), ((k 39), .int), ((k 40), .long), ((k 41), .boolean), ((k 43), .int), ((k 44), .long), ((k 46), .long), ((k 47), .int)] [.ref (q 0), .long u0] (zw_9 q k S) (zw_9 q k o1) r := by
  refine zz_ofl (cc := cX9_digestMoments) (maxL := 9) (by decide) rfl (Nat.le_of_ble_eq_true rfl) ?_
  intro p e s m args below meth c A Q hfx hK hA hE hret H locs hP hD hS ls hl
  obtain ⟨hx, hb, hml, hown, hts⟩ := id hfx
  have lk386 := hts (.fieldLink RX9 386 "CatBeat" "DIGESTED_MOMENTS" "[I") (by decide +kernel)
  have kc318 := hts (.constantLong RX9 318 (31)) (by decide +kernel)
  obtain ⟨-, hE0, hE1, hE2⟩ := id hE
  have hl : lv_has ls 9 [(0, .ref (q 0)), (1, .long u0)] := hl
  unfold pX9_digestMoments at hf
  refine lv_lload_n hx hb dX9_digestMoments_0 rfl (lv_at hl 1 rfl) ?_
  refine lv_lstore_n (lv' := [(3, .long u0), (0, .ref (q 0)), (1, .long u0)]) hx hb dX9_digestMoments_1 rfl hl (by decide) rfl (fun ls hl => ?_)
  refine va_gets hx hb hE2.1 hS hown lk386 (fun _ h9 => h9) dX9_digestMoments_2 ?_
  refine lv_astore (lv' := [(5, .ref (tb 2)), (3, .long u0), (0, .ref (q 0)), (1, .long u0)]) hx hb dX9_digestMoments_5 hl (by decide) rfl (fun ls hl => ?_)
  refine lv_aload hx hb dX9_digestMoments_7 (lv_at hl 0 rfl) ?_
  refine va_tlen (v := (4 : Int32)) hx hb hE2.2 hS rfl dX9_digestMoments_9 ?_
  refine lv_istore (lv' := [(6, .int (4 : Int32)), (5, .ref (tb 2)), (3, .long u0), (0, .ref (q 0)), (1, .long u0)]) hx hb dX9_digestMoments_10 hl (by decide) rfl (fun ls hl => ?_)
  refine lv_iconst (v := (0 : Int32)) hx hb dX9_digestMoments_12 (by decide) ?_
  refine lv_istore (lv' := [(7, .int (0 : Int32)), (6, .int (4 : Int32)), (5, .ref (tb 2)), (3, .long u0), (0, .ref (q 0)), (1, .long u0)]) hx hb dX9_digestMoments_13 hl (by decide) rfl (fun ls hl => ?_)
  have hLkL15_3 : ∀ (n15_3 : Nat) (x1 : Int64) (x2 : Int32) (z3 : zz_M) (H : Heap) (locs : List Loc), va_P D vwCl (zw_9 q k z3) H → va_D A (zw_9 q k z3) → va_S A s.heap H locs → ∀ ls : Array Slot, lv_has ls 9 [(6, .int (4 : Int32)), (5, .ref (tb 2)), (0, .ref (q 0)), (3, .long x1), (7, .int x2)] → pX9_digestMoments_L15_3 F n15_3 x1 x2 z3 = some (r, o1) → W p l e rmX9_digestMoments s m args below meth c H locs 0 0 Q (F0 m 15 ls []) := by
    intro n15_3
    induction n15_3 with
    | zero =>
      intro x1 x2 z3 H locs hP hD hS ls hl hf
      exact nomatch (show (none : Option _) = some _ from hf)
    | succ n15_3 ihkL15_3 =>
      intro x1 x2 z3 H locs hP hD hS ls hl hf
      rw [pX9_digestMoments_L15_3] at hf
      refine lv_iload hx hb dX9_digestMoments_15 (lv_at hl 4 rfl) ?_
      refine lv_iload hx hb dX9_digestMoments_17 (lv_at hl 0 rfl) ?_
      refine lv_icmp_ge (tgt := 79) hx hb dX9_digestMoments_19 (by decide) (fun c19 => ?_) (fun c19 => ?_)
      · have hf := zz_ps hf c19
        refine lv_lload_n hx hb dX9_digestMoments_79 rfl (lv_at hl 3 rfl) ?_
        obtain ⟨rfl, rfl⟩ := zz_e2 hf
        exact hret _ _ _ _ dX9_digestMoments_80 hP hD hS
      · have hf := zz_ng hf c19
        refine lv_aload hx hb dX9_digestMoments_22 (lv_at hl 1 rfl) ?_
        refine lv_iload hx hb dX9_digestMoments_24 (lv_at hl 4 rfl) ?_
        obtain ⟨hg5, hf⟩ := zz_gd hf
        refine va_ti (v := .int (zz_T2 (Int32.toNatClampNeg x2))) hx hb hE2.2 hS hg5 rfl dX9_digestMoments_26 ?_
        obtain ⟨v6, hv6, hf⟩ := zz_lts hf
        refine zz_ti hv6 ?_
        refine lv_istore (lv' := [(8, .int v6), (6, .int (4 : Int32)), (5, .ref (tb 2)), (0, .ref (q 0)), (3, .long x1), (7, .int x2)]) hx hb dX9_digestMoments_27 hl (by decide) rfl (fun ls hl => ?_)
        refine lv_ldc2 (v := (31 : Int64)) hx hb hown kc318 dX9_digestMoments_29 ?_
        refine lv_lload_n hx hb dX9_digestMoments_32 rfl (lv_at hl 4 rfl) ?_
        refine lv_lmul hx hb dX9_digestMoments_33 ?_
        refine lv_aload_n hx hb dX9_digestMoments_34 rfl (lv_at hl 3 rfl) ?_
        refine lv_iload hx hb dX9_digestMoments_35 (lv_at hl 0 rfl) ?_
        obtain ⟨r7, S8, hc9, hf⟩ := zz_b2s hf
        refine zz_ji0 (va_runV (As := [.int v6]) (rest := [.long ((31 : Int64) * x1)]) hfx (zc_X9_at l D tb q k F v6 z3 r7 S8 hc9 H.size) (cwV 1 hts gX9_digestMoments_X9_at rfl rfl rfl (by decide +kernel) ⟨Nat.le_of_ble_eq_true rfl, Nat.le_of_ble_eq_true rfl⟩) (zz_pre0V hK hP hD hS hA hE 0 rfl rfl rfl) rfl rfl hl.1 rfl (lv_room (Nat.le_of_ble_eq_true rfl)) dX9_digestMoments_37 ⟨Nat.zero_le _, Nat.zero_le _⟩) hD hS hA (fun H locs hP hD hS => ?_)
        refine lv_i2l (v := (Int32.toInt64 r7)) hx hb dX9_digestMoments_40 rfl ?_
        refine lv_ladd hx hb dX9_digestMoments_41 ?_
        obtain ⟨v10, hv10, hf⟩ := zz_lts hf
        refine zz_tl hv10 ?_
        refine lv_lstore_n (lv' := [(3, .long v10), (8, .int v6), (6, .int (4 : Int32)), (5, .ref (tb 2)), (0, .ref (q 0)), (7, .int x2)]) hx hb dX9_digestMoments_42 rfl hl (by decide) rfl (fun ls hl => ?_)
        refine lv_ldc2 (v := (31 : Int64)) hx hb hown kc318 dX9_digestMoments_43 ?_
        refine lv_lload_n hx hb dX9_digestMoments_46 rfl (lv_at hl 0 rfl) ?_
        refine lv_lmul hx hb dX9_digestMoments_47 ?_
        refine lv_aload_n hx hb dX9_digestMoments_48 rfl (lv_at hl 4 rfl) ?_
        refine lv_iload hx hb dX9_digestMoments_49 (lv_at hl 1 rfl) ?_
        refine lv_iconst (v := (0 : Int32)) hx hb dX9_digestMoments_51 (by decide) ?_
        obtain ⟨r11, S12, hc13, hf⟩ := zz_b2s hf
        refine zz_ji0 (va_runV (As := [.int v6, .int (0 : Int32)]) (rest := [.long ((31 : Int64) * v10)]) hfx (zc_X9_sees l D tb q k F v6 (0 : Int32) S8 r11 S12 hc13 H.size) (cwV 2 hts gX9_digestMoments_X9_sees rfl rfl rfl (by decide +kernel) ⟨Nat.le_of_ble_eq_true rfl, Nat.le_of_ble_eq_true rfl⟩) (zz_pre0V hK hP hD hS hA hE 0 rfl rfl rfl) rfl rfl hl.1 rfl (lv_room (Nat.le_of_ble_eq_true rfl)) dX9_digestMoments_52 ⟨Nat.zero_le _, Nat.zero_le _⟩) hD hS hA (fun H locs hP hD hS => ?_)
        refine lv_i2l (v := (Int32.toInt64 r11)) hx hb dX9_digestMoments_55 rfl ?_
        refine lv_ladd hx hb dX9_digestMoments_56 ?_
        obtain ⟨v14, hv14, hf⟩ := zz_lts hf
        refine zz_tl hv14 ?_
        refine lv_lstore_n (lv' := [(3, .long v14), (8, .int v6), (6, .int (4 : Int32)), (5, .ref (tb 2)), (0, .ref (q 0)), (7, .int x2)]) hx hb dX9_digestMoments_57 rfl hl (by decide) rfl (fun ls hl => ?_)
        refine lv_ldc2 (v := (31 : Int64)) hx hb hown kc318 dX9_digestMoments_58 ?_
        refine lv_lload_n hx hb dX9_digestMoments_61 rfl (lv_at hl 0 rfl) ?_
        refine lv_lmul hx hb dX9_digestMoments_62 ?_
        refine lv_aload_n hx hb dX9_digestMoments_63 rfl (lv_at hl 4 rfl) ?_
        refine lv_iload hx hb dX9_digestMoments_64 (lv_at hl 1 rfl) ?_
        refine lv_iconst (v := (1 : Int32)) hx hb dX9_digestMoments_66 (by decide) ?_
        obtain ⟨r15, S16, hc17, hf⟩ := zz_b2s hf
        refine zz_ji0 (va_runV (As := [.int v6, .int (1 : Int32)]) (rest := [.long ((31 : Int64) * v14)]) hfx (zc_X9_sees l D tb q k F v6 (1 : Int32) S12 r15 S16 hc17 H.size) (cwV 2 hts gX9_digestMoments_X9_sees rfl rfl rfl (by decide +kernel) ⟨Nat.le_of_ble_eq_true rfl, Nat.le_of_ble_eq_true rfl⟩) (zz_pre0V hK hP hD hS hA hE 0 rfl rfl rfl) rfl rfl hl.1 rfl (lv_room (Nat.le_of_ble_eq_true rfl)) dX9_digestMoments_67 ⟨Nat.zero_le _, Nat.zero_le _⟩) hD hS hA (fun H locs hP hD hS => ?_)
        refine lv_i2l (v := (Int32.toInt64 r15)) hx hb dX9_digestMoments_70 rfl ?_
        refine lv_ladd hx hb dX9_digestMoments_71 ?_
        obtain ⟨v18, hv18, hf⟩ := zz_lts hf
        refine zz_tl hv18 ?_
        refine lv_lstore_n (lv' := [(3, .long v18), (8, .int v6), (6, .int (4 : Int32)), (5, .ref (tb 2)), (0, .ref (q 0)), (7, .int x2)]) hx hb dX9_digestMoments_72 rfl hl (by decide) rfl (fun ls hl => ?_)
        obtain ⟨v19, hv19, hf⟩ := zz_lts hf
        refine lv_iinc (v := v19) (lv' := [(7, .int v19), (3, .long v18), (8, .int v6), (6, .int (4 : Int32)), (5, .ref (tb 2)), (0, .ref (q 0))]) hx hb dX9_digestMoments_73 hl (k := 5) rfl (by rw [hv19]; rfl) (by decide) rfl (fun ls hl => ?_)
        refine lv_goto (tgt := 15) hx hb dX9_digestMoments_76 (by decide) ?_
        exact ihkL15_3 v18 v19 S16 _ _ hP hD hS ls (lv_sub hl [3, 4, 5, 1, 0] rfl) hf
  exact hLkL15_3 F u0 (0 : Int32) S _ _ hP hD hS ls (lv_sub hl [1, 2, 4, 3, 0] rfl) hf
def rmX9_digest : Room := { frames := 6, cells := 0, slots := 0, locals := 156 }
set_option maxHeartbeats 4000000 in
set_option maxRecDepth 100000 in
theorem zc_X9_digest (l : Launch) (D : va_G) (tb : Nat → Nat) (q : Nat → Nat) (k : Nat → ClassId) (F : Nat)  (S : zz_M) (r : Int64) (o1 : zz_M) (hf : pX9_digest F S = some (r, o1)) : zz_Ml l yX9_digest wsX9_digest rmX9_digest D tb [((k 1), .object "CatBeat$Text"), ((k 3), .int), ((k 5), .int), ((k 7), .int), ((k 8), .int), ((k 9), .int), ((k 11), .int), ((k 13), .int), ((k 15), .int), ((k 16), .int), ((k 18), .int), ((k 19), .int), ((k 20), .object "CatBeat$Sheet"), ((k 22), .int), ((k 24), .int), ((k 26), .int), ((k 28), .int), ((k 30), .int), ((k 31), .long), ((k 32), .boolean), ((k 34), .int), ((k 35), .long), ((k 37), .int), ((k 39), .int), ((k 40), .long), ((k 41), .boolean), ((k 43), .int), ((k 44), .long), ((k 46), .long), ((k 47), .int)] [.ref (q 0)] (zw_9 q k S) (zw_9 q k o1) r := by
  refine zz_ofl (cc := cX9_digest) (maxL := 4) (by decide) rfl (Nat.le_of_ble_eq_true rfl) ?_
  intro p e s m args below meth c A Q hfx hK hA hE hret H locs hP hD hS ls hl
  obtain ⟨hx, hb, hml, hown, hts⟩ := id hfx
  have inX9 : ∀ w ∈ u_ws RX9 TX9 18, w ∈ wsX9_digest := by decide +kernel
  have inX4 : ∀ w ∈ u_ws RX4 TX4 2, w ∈ wsX9_digest := by decide +kernel
  have inX7 : ∀ w ∈ u_ws RX7 TX7 3, w ∈ wsX9_digest := by decide +kernel
  have lk11 := hts (.fieldLink RX9 11 "CatBeat" "texts" "[LCatBeat$Text;") (by decide +kernel)
  have lk32 := hts (.fieldLink RX9 32 "CatBeat" "round" "LCatBeat$Round;") (by decide +kernel)
  have lk126 := hts (.fieldLink RX9 126 "CatBeat$Round" "count" "I") (by decide +kernel)
  have lk39 := hts (.fieldLink RX9 39 "CatBeat" "thieves" "LCatBeat$Thieves;") (by decide +kernel)
  have lk190 := hts (.fieldLink RX9 190 "CatBeat$Thieves" "count" "I") (by decide +kernel)
  have kc316 := hts (.constantLong RX9 316 (17)) (by decide +kernel)
  have kc318 := hts (.constantLong RX9 318 (31)) (by decide +kernel)
  have hl : lv_has ls 4 [(0, .ref (q 0))] := hl
  unfold pX9_digest at hf
  refine lv_ldc2 (v := (17 : Int64)) hx hb hown kc316 dX9_digest_0 ?_
  refine lv_lstore_n (lv' := [(1, .long (17 : Int64)), (0, .ref (q 0))]) hx hb dX9_digest_3 rfl hl (by decide) rfl (fun ls hl => ?_)
  refine lv_iconst (v := (0 : Int32)) hx hb dX9_digest_4 (by decide) ?_
  refine lv_istore_n (lv' := [(3, .int (0 : Int32)), (1, .long (17 : Int64)), (0, .ref (q 0))]) hx hb dX9_digest_5 rfl hl (by decide) rfl (fun ls hl => ?_)
  have hLkL6_2 : ∀ (n6_2 : Nat) (x1 : Int64) (x2 : Int32) (H : Heap) (locs : List Loc), va_P D vwCl (zw_9 q k S) H → va_D A (zw_9 q k S) → va_S A s.heap H locs → ∀ ls : Array Slot, lv_has ls 4 [(0, .ref (q 0)), (1, .long x1), (3, .int x2)] → pX9_digest_L6_2 F S n6_2 x1 x2 = some (r, o1) → W p l e rmX9_digest s m args below meth c H locs 0 0 Q (F0 m 6 ls []) := by
    intro n6_2
    induction n6_2 with
    | zero =>
      intro x1 x2 H locs hP hD hS ls hl hf
      exact nomatch (show (none : Option _) = some _ from hf)
    | succ n6_2 ihkL6_2 =>
      intro x1 x2 H locs hP hD hS ls hl hf
      rw [pX9_digest_L6_2] at hf
      refine lv_iload_n hx hb dX9_digest_6 rfl (lv_at hl 2 rfl) ?_
      refine lv_bipush (v := (7 : Int32)) hx hb dX9_digest_7 (by decide) ?_
      refine lv_icmp_gt (tgt := 31) hx hb dX9_digest_9 (by decide) (fun c9 => ?_) (fun c9 => ?_)
      · have hf := zz_ps hf c9
        refine lv_iconst (v := (0 : Int32)) hx hb dX9_digest_31 (by decide) ?_
        refine lv_istore_n (lv' := [(3, .int (0 : Int32)), (0, .ref (q 0)), (1, .long x1)]) hx hb dX9_digest_32 rfl hl (by decide) rfl (fun ls hl => ?_)
        have hLkL33_5 : ∀ (n33_5 : Nat) (x4 : Int64) (x5 : Int32) (H : Heap) (locs : List Loc), va_P D vwCl (zw_9 q k S) H → va_D A (zw_9 q k S) → va_S A s.heap H locs → ∀ ls : Array Slot, lv_has ls 4 [(0, .ref (q 0)), (1, .long x4), (3, .int x5)] → pX9_digest_L33_5 F S n33_5 x4 x5 = some (r, o1) → W p l e rmX9_digest s m args below meth c H locs 0 0 Q (F0 m 33 ls []) := by
          intro n33_5
          induction n33_5 with
          | zero =>
            intro x4 x5 H locs hP hD hS ls hl hf
            exact nomatch (show (none : Option _) = some _ from hf)
          | succ n33_5 ihkL33_5 =>
            intro x4 x5 H locs hP hD hS ls hl hf
            rw [pX9_digest_L33_5] at hf
            refine lv_iload_n hx hb dX9_digest_33 rfl (lv_at hl 2 rfl) ?_
            refine lv_aload_n hx hb dX9_digest_34 rfl (lv_at hl 0 rfl) ?_
            refine va_get (D := D) (ci := 9) (v := .ref (q 1)) (C := RX9) (T := TX9) (N := 18) hx hb hts inX9 hown hK hP 0 rfl rfl 0 (by decide) lk11 (fun _ h9 => h9) rfl dX9_digest_35 ?_
            refine va_alen (v := (3 : Int32)) hx hb hK hP 1 0 rfl rfl rfl dX9_digest_38 ?_
            refine lv_icmp_ge (tgt := 61) hx hb dX9_digest_39 (by decide) (fun c39 => ?_) (fun c39 => ?_)
            · have hf := zz_ps hf c39
              refine lv_aload_n hx hb dX9_digest_61 rfl (lv_at hl 0 rfl) ?_
              refine lv_lload_n hx hb dX9_digest_62 rfl (lv_at hl 1 rfl) ?_
              obtain ⟨r7, S8, hc9, hf⟩ := zz_b2s hf
              refine zz_jl0 (va_runV (As := [.long x4]) (rest := []) hfx (zc_X9_digestCells l D tb q k F x4 S r7 S8 hc9 H.size) (cwV 1 hts gX9_digest_X9_digestCells rfl rfl rfl (by decide +kernel) ⟨Nat.le_of_ble_eq_true rfl, Nat.le_of_ble_eq_true rfl⟩) (zz_pre0V hK hP hD hS hA hE 0 rfl rfl rfl) rfl rfl hl.1 rfl (lv_room (Nat.le_of_ble_eq_true rfl)) dX9_digest_63 ⟨Nat.zero_le _, Nat.zero_le _⟩) hD hS hA (fun H locs hP hD hS => ?_)
              refine lv_lstore_n (lv' := [(1, .long r7), (0, .ref (q 0)), (3, .int x5)]) hx hb dX9_digest_66 rfl hl (by decide) rfl (fun ls hl => ?_)
              refine lv_iconst (v := (0 : Int32)) hx hb dX9_digest_67 (by decide) ?_
              refine lv_istore_n (lv' := [(3, .int (0 : Int32)), (1, .long r7), (0, .ref (q 0))]) hx hb dX9_digest_68 rfl hl (by decide) rfl (fun ls hl => ?_)
              have hLkL69_11 : ∀ (n69_11 : Nat) (x10 : Int64) (x11 : Int32) (H : Heap) (locs : List Loc), va_P D vwCl (zw_9 q k S8) H → va_D A (zw_9 q k S8) → va_S A s.heap H locs → ∀ ls : Array Slot, lv_has ls 4 [(0, .ref (q 0)), (1, .long x10), (3, .int x11)] → pX9_digest_L69_11 F S8 n69_11 x10 x11 = some (r, o1) → W p l e rmX9_digest s m args below meth c H locs 0 0 Q (F0 m 69 ls []) := by
                intro n69_11
                induction n69_11 with
                | zero =>
                  intro x10 x11 H locs hP hD hS ls hl hf
                  exact nomatch (show (none : Option _) = some _ from hf)
                | succ n69_11 ihkL69_11 =>
                  intro x10 x11 H locs hP hD hS ls hl hf
                  rw [pX9_digest_L69_11] at hf
                  refine lv_iload_n hx hb dX9_digest_69 rfl (lv_at hl 2 rfl) ?_
                  refine lv_aload_n hx hb dX9_digest_70 rfl (lv_at hl 0 rfl) ?_
                  refine va_get (D := D) (ci := 9) (v := .ref (q 12)) (C := RX9) (T := TX9) (N := 18) hx hb hts inX9 hown hK hP 0 rfl rfl 4 (by decide) lk32 (fun _ h9 => h9) rfl dX9_digest_71 ?_
                  refine va_get (D := D) (ci := 4) (v := .int (zz_gI S8 5)) (C := RX4) (T := TX4) (N := 2) hx hb hts inX4 hown hK hP 12 rfl rfl 1 (by decide) lk126 (fun _ h9 => h9) rfl dX9_digest_74 ?_
                  refine lv_icmp_ge (tgt := 99) hx hb dX9_digest_77 (by decide) (fun c77 => ?_) (fun c77 => ?_)
                  · have hf := zz_ps hf c77
                    refine lv_iconst (v := (0 : Int32)) hx hb dX9_digest_99 (by decide) ?_
                    refine lv_istore_n (lv' := [(3, .int (0 : Int32)), (0, .ref (q 0)), (1, .long x10)]) hx hb dX9_digest_100 rfl hl (by decide) rfl (fun ls hl => ?_)
                    have hLkL101_15 : ∀ (n101_15 : Nat) (x13 : Int64) (x14 : Int32) (z15 : zz_M) (H : Heap) (locs : List Loc), va_P D vwCl (zw_9 q k z15) H → va_D A (zw_9 q k z15) → va_S A s.heap H locs → ∀ ls : Array Slot, lv_has ls 4 [(0, .ref (q 0)), (1, .long x13), (3, .int x14)] → pX9_digest_L101_15 F n101_15 x13 x14 z15 = some (r, o1) → W p l e rmX9_digest s m args below meth c H locs 0 0 Q (F0 m 101 ls []) := by
                      intro n101_15
                      induction n101_15 with
                      | zero =>
                        intro x13 x14 z15 H locs hP hD hS ls hl hf
                        exact nomatch (show (none : Option _) = some _ from hf)
                      | succ n101_15 ihkL101_15 =>
                        intro x13 x14 z15 H locs hP hD hS ls hl hf
                        rw [pX9_digest_L101_15] at hf
                        refine lv_iload_n hx hb dX9_digest_101 rfl (lv_at hl 2 rfl) ?_
                        refine lv_aload_n hx hb dX9_digest_102 rfl (lv_at hl 0 rfl) ?_
                        refine va_get (D := D) (ci := 9) (v := .ref (q 14)) (C := RX9) (T := TX9) (N := 18) hx hb hts inX9 hown hK hP 0 rfl rfl 5 (by decide) lk39 (fun _ h9 => h9) rfl dX9_digest_103 ?_
                        refine va_get (D := D) (ci := 7) (v := .int (zz_gI z15 6)) (C := RX7) (T := TX7) (N := 3) hx hb hts inX7 hown hK hP 14 rfl rfl 2 (by decide) lk190 (fun _ h9 => h9) rfl dX9_digest_106 ?_
                        refine lv_icmp_ge (tgt := 125) hx hb dX9_digest_109 (by decide) (fun c109 => ?_) (fun c109 => ?_)
                        · have hf := zz_ps hf c109
                          refine lv_aload_n hx hb dX9_digest_125 rfl (lv_at hl 0 rfl) ?_
                          refine lv_lload_n hx hb dX9_digest_126 rfl (lv_at hl 1 rfl) ?_
                          obtain ⟨r17, S18, hc19, hf⟩ := zz_b2s hf
                          refine zz_jl0 (va_runV (As := [.long x13]) (rest := []) hfx (zc_X9_digestMoments l D tb q k F x13 z15 r17 S18 hc19 H.size) (cwV 1 hts gX9_digest_X9_digestMoments rfl rfl rfl (by decide +kernel) ⟨Nat.le_of_ble_eq_true rfl, Nat.le_of_ble_eq_true rfl⟩) (zz_pre0V hK hP hD hS hA hE 0 rfl rfl rfl) rfl rfl hl.1 rfl (lv_room (Nat.le_of_ble_eq_true rfl)) dX9_digest_127 ⟨Nat.zero_le _, Nat.zero_le _⟩) hD hS hA (fun H locs hP hD hS => ?_)
                          refine lv_lstore_n (lv' := [(1, .long r17), (0, .ref (q 0)), (3, .int x14)]) hx hb dX9_digest_130 rfl hl (by decide) rfl (fun ls hl => ?_)
                          refine lv_ldc2 (v := (31 : Int64)) hx hb hown kc318 dX9_digest_131 ?_
                          refine lv_lload_n hx hb dX9_digest_134 rfl (lv_at hl 0 rfl) ?_
                          refine lv_lmul hx hb dX9_digest_135 ?_
                          refine lv_aload_n hx hb dX9_digest_136 rfl (lv_at hl 1 rfl) ?_
                          refine lv_iconst (v := (0 : Int32)) hx hb dX9_digest_137 (by decide) ?_
                          obtain ⟨r20, S21, hc22, hf⟩ := zz_b2s hf
                          refine zz_ji0 (va_runV (As := [.int (0 : Int32)]) (rest := [.long ((31 : Int64) * r17)]) hfx (zc_X9_safe l D tb q k F (0 : Int32) S18 r20 S21 hc22 H.size) (cwV 1 hts gX9_digest_X9_safe rfl rfl rfl (by decide +kernel) ⟨Nat.le_of_ble_eq_true rfl, Nat.le_of_ble_eq_true rfl⟩) (zz_pre0V hK hP hD hS hA hE 0 rfl rfl rfl) rfl rfl hl.1 rfl (lv_room (Nat.le_of_ble_eq_true rfl)) dX9_digest_138 ⟨Nat.zero_le _, Nat.zero_le _⟩) hD hS hA (fun H locs hP hD hS => ?_)
                          refine lv_i2l (v := (Int32.toInt64 r20)) hx hb dX9_digest_141 rfl ?_
                          refine lv_ladd hx hb dX9_digest_142 ?_
                          obtain ⟨v23, hv23, hf⟩ := zz_lts hf
                          refine zz_tl hv23 ?_
                          refine lv_lstore_n (lv' := [(1, .long v23), (0, .ref (q 0)), (3, .int x14)]) hx hb dX9_digest_143 rfl hl (by decide) rfl (fun ls hl => ?_)
                          refine lv_ldc2 (v := (31 : Int64)) hx hb hown kc318 dX9_digest_144 ?_
                          refine lv_lload_n hx hb dX9_digest_147 rfl (lv_at hl 0 rfl) ?_
                          refine lv_lmul hx hb dX9_digest_148 ?_
                          refine lv_aload_n hx hb dX9_digest_149 rfl (lv_at hl 1 rfl) ?_
                          refine lv_iconst (v := (1 : Int32)) hx hb dX9_digest_150 (by decide) ?_
                          obtain ⟨r24, S25, hc26, hf⟩ := zz_b2s hf
                          refine zz_ji0 (va_runV (As := [.int (1 : Int32)]) (rest := [.long ((31 : Int64) * v23)]) hfx (zc_X9_safe l D tb q k F (1 : Int32) S21 r24 S25 hc26 H.size) (cwV 1 hts gX9_digest_X9_safe rfl rfl rfl (by decide +kernel) ⟨Nat.le_of_ble_eq_true rfl, Nat.le_of_ble_eq_true rfl⟩) (zz_pre0V hK hP hD hS hA hE 0 rfl rfl rfl) rfl rfl hl.1 rfl (lv_room (Nat.le_of_ble_eq_true rfl)) dX9_digest_151 ⟨Nat.zero_le _, Nat.zero_le _⟩) hD hS hA (fun H locs hP hD hS => ?_)
                          refine lv_i2l (v := (Int32.toInt64 r24)) hx hb dX9_digest_154 rfl ?_
                          refine lv_ladd hx hb dX9_digest_155 ?_
                          obtain ⟨v27, hv27, hf⟩ := zz_lts hf
                          refine zz_tl hv27 ?_
                          refine lv_lstore_n (lv' := [(1, .long v27), (0, .ref (q 0)), (3, .int x14)]) hx hb dX9_digest_156 rfl hl (by decide) rfl (fun ls hl => ?_)
                          refine lv_ldc2 (v := (31 : Int64)) hx hb hown kc318 dX9_digest_157 ?_
                          refine lv_lload_n hx hb dX9_digest_160 rfl (lv_at hl 0 rfl) ?_
                          refine lv_lmul hx hb dX9_digest_161 ?_
                          refine lv_aload_n hx hb dX9_digest_162 rfl (lv_at hl 1 rfl) ?_
                          obtain ⟨r28, S29, hc30, hf⟩ := zz_b2s hf
                          refine zz_ji0 (va_runV (As := []) (rest := [.long ((31 : Int64) * v27)]) hfx (zc_X9_lost l D tb q k F  S25 r28 S29 hc30 H.size) (cwV 0 hts gX9_digest_X9_lost rfl rfl rfl (by decide +kernel) ⟨Nat.le_of_ble_eq_true rfl, Nat.le_of_ble_eq_true rfl⟩) (zz_pre0V hK hP hD hS hA hE 0 rfl rfl rfl) rfl rfl hl.1 rfl (lv_room (Nat.le_of_ble_eq_true rfl)) dX9_digest_163 ⟨Nat.zero_le _, Nat.zero_le _⟩) hD hS hA (fun H locs hP hD hS => ?_)
                          refine lv_i2l (v := (Int32.toInt64 r28)) hx hb dX9_digest_166 rfl ?_
                          refine lv_ladd hx hb dX9_digest_167 ?_
                          obtain ⟨v31, hv31, hf⟩ := zz_lts hf
                          refine zz_tl hv31 ?_
                          refine lv_lstore_n (lv' := [(1, .long v31), (0, .ref (q 0)), (3, .int x14)]) hx hb dX9_digest_168 rfl hl (by decide) rfl (fun ls hl => ?_)
                          refine lv_ldc2 (v := (31 : Int64)) hx hb hown kc318 dX9_digest_169 ?_
                          refine lv_lload_n hx hb dX9_digest_172 rfl (lv_at hl 0 rfl) ?_
                          refine lv_lmul hx hb dX9_digest_173 ?_
                          refine lv_aload_n hx hb dX9_digest_174 rfl (lv_at hl 1 rfl) ?_
                          obtain ⟨r32, S33, hc34, hf⟩ := zz_b2s hf
                          refine zz_ji0 (va_runV (As := []) (rest := [.long ((31 : Int64) * v31)]) hfx (zc_X9_first l D tb q k F  S29 r32 S33 hc34 H.size) (cwV 0 hts gX9_digest_X9_first rfl rfl rfl (by decide +kernel) ⟨Nat.le_of_ble_eq_true rfl, Nat.le_of_ble_eq_true rfl⟩) (zz_pre0V hK hP hD hS hA hE 0 rfl rfl rfl) rfl rfl hl.1 rfl (lv_room (Nat.le_of_ble_eq_true rfl)) dX9_digest_175 ⟨Nat.zero_le _, Nat.zero_le _⟩) hD hS hA (fun H locs hP hD hS => ?_)
                          refine lv_i2l (v := (Int32.toInt64 r32)) hx hb dX9_digest_178 rfl ?_
                          refine lv_ladd hx hb dX9_digest_179 ?_
                          obtain ⟨v35, hv35, hf⟩ := zz_lts hf
                          refine zz_tl hv35 ?_
                          refine lv_lstore_n (lv' := [(1, .long v35), (0, .ref (q 0)), (3, .int x14)]) hx hb dX9_digest_180 rfl hl (by decide) rfl (fun ls hl => ?_)
                          refine lv_ldc2 (v := (31 : Int64)) hx hb hown kc318 dX9_digest_181 ?_
                          refine lv_lload_n hx hb dX9_digest_184 rfl (lv_at hl 0 rfl) ?_
                          refine lv_lmul hx hb dX9_digest_185 ?_
                          refine lv_aload_n hx hb dX9_digest_186 rfl (lv_at hl 1 rfl) ?_
                          obtain ⟨r36, S37, hc38, hf⟩ := zz_b2s hf
                          refine zz_ji0 (va_runV (As := []) (rest := [.long ((31 : Int64) * v35)]) hfx (zc_X9_spare l D tb q k F  S33 r36 S37 hc38 H.size) (cwV 0 hts gX9_digest_X9_spare rfl rfl rfl (by decide +kernel) ⟨Nat.le_of_ble_eq_true rfl, Nat.le_of_ble_eq_true rfl⟩) (zz_pre0V hK hP hD hS hA hE 0 rfl rfl rfl) rfl rfl hl.1 rfl (lv_room (Nat.le_of_ble_eq_true rfl)) dX9_digest_187 ⟨Nat.zero_le _, Nat.zero_le _⟩) hD hS hA (fun H locs hP hD hS => ?_)
                          refine lv_i2l (v := (Int32.toInt64 r36)) hx hb dX9_digest_190 rfl ?_
                          refine lv_ladd hx hb dX9_digest_191 ?_
                          obtain ⟨v39, hv39, hf⟩ := zz_lts hf
                          refine zz_tl hv39 ?_
                          refine lv_lstore_n (lv' := [(1, .long v39), (0, .ref (q 0)), (3, .int x14)]) hx hb dX9_digest_192 rfl hl (by decide) rfl (fun ls hl => ?_)
                          refine lv_ldc2 (v := (31 : Int64)) hx hb hown kc318 dX9_digest_193 ?_
                          refine lv_lload_n hx hb dX9_digest_196 rfl (lv_at hl 0 rfl) ?_
                          refine lv_lmul hx hb dX9_digest_197 ?_
                          refine lv_aload_n hx hb dX9_digest_198 rfl (lv_at hl 1 rfl) ?_
                          refine lv_iconst (v := (-1 : Int32)) hx hb dX9_digest_199 (by decide) ?_
                          obtain ⟨r40, S41, hc42, hf⟩ := zz_b2s hf
                          refine zz_ji0 (va_runV (As := [.int (-1 : Int32)]) (rest := [.long ((31 : Int64) * v39)]) hfx (zc_X9_trim l D tb q k F (-1 : Int32) S37 r40 S41 hc42 H.size) (cwV 1 hts gX9_digest_X9_trim rfl rfl rfl (by decide +kernel) ⟨Nat.le_of_ble_eq_true rfl, Nat.le_of_ble_eq_true rfl⟩) (zz_pre0V hK hP hD hS hA hE 0 rfl rfl rfl) rfl rfl hl.1 rfl (lv_room (Nat.le_of_ble_eq_true rfl)) dX9_digest_200 ⟨Nat.zero_le _, Nat.zero_le _⟩) hD hS hA (fun H locs hP hD hS => ?_)
                          refine lv_i2l (v := (Int32.toInt64 r40)) hx hb dX9_digest_203 rfl ?_
                          refine lv_ladd hx hb dX9_digest_204 ?_
                          obtain ⟨v43, hv43, hf⟩ := zz_lts hf
                          refine zz_tl hv43 ?_
                          refine lv_lstore_n (lv' := [(1, .long v43), (0, .ref (q 0)), (3, .int x14)]) hx hb dX9_digest_205 rfl hl (by decide) rfl (fun ls hl => ?_)
                          refine lv_ldc2 (v := (31 : Int64)) hx hb hown kc318 dX9_digest_206 ?_
                          refine lv_lload_n hx hb dX9_digest_209 rfl (lv_at hl 0 rfl) ?_
                          refine lv_lmul hx hb dX9_digest_210 ?_
                          refine lv_aload_n hx hb dX9_digest_211 rfl (lv_at hl 1 rfl) ?_
                          refine lv_iconst (v := (0 : Int32)) hx hb dX9_digest_212 (by decide) ?_
                          obtain ⟨r44, S45, hc46, hf⟩ := zz_b2s hf
                          refine zz_ji0 (va_runV (As := [.int (0 : Int32)]) (rest := [.long ((31 : Int64) * v43)]) hfx (zc_X9_trim l D tb q k F (0 : Int32) S41 r44 S45 hc46 H.size) (cwV 1 hts gX9_digest_X9_trim rfl rfl rfl (by decide +kernel) ⟨Nat.le_of_ble_eq_true rfl, Nat.le_of_ble_eq_true rfl⟩) (zz_pre0V hK hP hD hS hA hE 0 rfl rfl rfl) rfl rfl hl.1 rfl (lv_room (Nat.le_of_ble_eq_true rfl)) dX9_digest_213 ⟨Nat.zero_le _, Nat.zero_le _⟩) hD hS hA (fun H locs hP hD hS => ?_)
                          refine lv_i2l (v := (Int32.toInt64 r44)) hx hb dX9_digest_216 rfl ?_
                          refine lv_ladd hx hb dX9_digest_217 ?_
                          obtain ⟨v47, hv47, hf⟩ := zz_lts hf
                          refine zz_tl hv47 ?_
                          refine lv_lstore_n (lv' := [(1, .long v47), (0, .ref (q 0)), (3, .int x14)]) hx hb dX9_digest_218 rfl hl (by decide) rfl (fun ls hl => ?_)
                          refine lv_ldc2 (v := (31 : Int64)) hx hb hown kc318 dX9_digest_219 ?_
                          refine lv_lload_n hx hb dX9_digest_222 rfl (lv_at hl 0 rfl) ?_
                          refine lv_lmul hx hb dX9_digest_223 ?_
                          refine lv_aload_n hx hb dX9_digest_224 rfl (lv_at hl 1 rfl) ?_
                          refine lv_iconst (v := (0 : Int32)) hx hb dX9_digest_225 (by decide) ?_
                          obtain ⟨r48, S49, hc50, hf⟩ := zz_b2s hf
                          refine zz_ji0 (va_runV (As := [.int (0 : Int32)]) (rest := [.long ((31 : Int64) * v47)]) hfx (zc_X9_begin l D tb q k F (0 : Int32) S45 r48 S49 hc50 H.size) (cwV 1 hts gX9_digest_X9_begin rfl rfl rfl (by decide +kernel) ⟨Nat.le_of_ble_eq_true rfl, Nat.le_of_ble_eq_true rfl⟩) (zz_pre0V hK hP hD hS hA hE 0 rfl rfl rfl) rfl rfl hl.1 rfl (lv_room (Nat.le_of_ble_eq_true rfl)) dX9_digest_226 ⟨Nat.zero_le _, Nat.zero_le _⟩) hD hS hA (fun H locs hP hD hS => ?_)
                          refine lv_i2l (v := (Int32.toInt64 r48)) hx hb dX9_digest_229 rfl ?_
                          refine lv_ladd hx hb dX9_digest_230 ?_
                          obtain ⟨v51, hv51, hf⟩ := zz_lts hf
                          refine zz_tl hv51 ?_
                          refine lv_lstore_n (lv' := [(1, .long v51), (0, .ref (q 0)), (3, .int x14)]) hx hb dX9_digest_231 rfl hl (by decide) rfl (fun ls hl => ?_)
                          refine lv_ldc2 (v := (31 : Int64)) hx hb hown kc318 dX9_digest_232 ?_
                          refine lv_lload_n hx hb dX9_digest_235 rfl (lv_at hl 0 rfl) ?_
                          refine lv_lmul hx hb dX9_digest_236 ?_
                          refine lv_aload_n hx hb dX9_digest_237 rfl (lv_at hl 1 rfl) ?_
                          refine lv_iconst (v := (1 : Int32)) hx hb dX9_digest_238 (by decide) ?_
                          obtain ⟨r52, S53, hc54, hf⟩ := zz_b2s hf
                          refine zz_ji0 (va_runV (As := [.int (1 : Int32)]) (rest := [.long ((31 : Int64) * v51)]) hfx (zc_X9_begin l D tb q k F (1 : Int32) S49 r52 S53 hc54 H.size) (cwV 1 hts gX9_digest_X9_begin rfl rfl rfl (by decide +kernel) ⟨Nat.le_of_ble_eq_true rfl, Nat.le_of_ble_eq_true rfl⟩) (zz_pre0V hK hP hD hS hA hE 0 rfl rfl rfl) rfl rfl hl.1 rfl (lv_room (Nat.le_of_ble_eq_true rfl)) dX9_digest_239 ⟨Nat.zero_le _, Nat.zero_le _⟩) hD hS hA (fun H locs hP hD hS => ?_)
                          refine lv_i2l (v := (Int32.toInt64 r52)) hx hb dX9_digest_242 rfl ?_
                          refine lv_ladd hx hb dX9_digest_243 ?_
                          obtain ⟨v55, hv55, hf⟩ := zz_lts hf
                          refine zz_tl hv55 ?_
                          refine lv_lstore_n (lv' := [(1, .long v55), (0, .ref (q 0)), (3, .int x14)]) hx hb dX9_digest_244 rfl hl (by decide) rfl (fun ls hl => ?_)
                          refine lv_ldc2 (v := (31 : Int64)) hx hb hown kc318 dX9_digest_245 ?_
                          refine lv_lload_n hx hb dX9_digest_248 rfl (lv_at hl 0 rfl) ?_
                          refine lv_lmul hx hb dX9_digest_249 ?_
                          refine lv_aload_n hx hb dX9_digest_250 rfl (lv_at hl 1 rfl) ?_
                          refine lv_iconst (v := (0 : Int32)) hx hb dX9_digest_251 (by decide) ?_
                          obtain ⟨r56, S57, hc58, hf⟩ := zz_b2s hf
                          refine zz_ji0 (va_runV (As := [.int (0 : Int32)]) (rest := [.long ((31 : Int64) * v55)]) hfx (zc_X9_recruit l D tb q k F (0 : Int32) S53 r56 S57 hc58 H.size) (cwV 1 hts gX9_digest_X9_recruit rfl rfl rfl (by decide +kernel) ⟨Nat.le_of_ble_eq_true rfl, Nat.le_of_ble_eq_true rfl⟩) (zz_pre0V hK hP hD hS hA hE 0 rfl rfl rfl) rfl rfl hl.1 rfl (lv_room (Nat.le_of_ble_eq_true rfl)) dX9_digest_252 ⟨Nat.zero_le _, Nat.zero_le _⟩) hD hS hA (fun H locs hP hD hS => ?_)
                          refine lv_i2l (v := (Int32.toInt64 r56)) hx hb dX9_digest_255 rfl ?_
                          refine lv_ladd hx hb dX9_digest_256 ?_
                          obtain ⟨v59, hv59, hf⟩ := zz_lts hf
                          refine zz_tl hv59 ?_
                          refine lv_lstore_n (lv' := [(1, .long v59), (0, .ref (q 0)), (3, .int x14)]) hx hb dX9_digest_257 rfl hl (by decide) rfl (fun ls hl => ?_)
                          refine lv_ldc2 (v := (31 : Int64)) hx hb hown kc318 dX9_digest_258 ?_
                          refine lv_lload_n hx hb dX9_digest_261 rfl (lv_at hl 0 rfl) ?_
                          refine lv_lmul hx hb dX9_digest_262 ?_
                          refine lv_aload_n hx hb dX9_digest_263 rfl (lv_at hl 1 rfl) ?_
                          refine lv_iconst (v := (1 : Int32)) hx hb dX9_digest_264 (by decide) ?_
                          obtain ⟨r60, S61, hc62, hf⟩ := zz_b2s hf
                          refine zz_ji0 (va_runV (As := [.int (1 : Int32)]) (rest := [.long ((31 : Int64) * v59)]) hfx (zc_X9_recruit l D tb q k F (1 : Int32) S57 r60 S61 hc62 H.size) (cwV 1 hts gX9_digest_X9_recruit rfl rfl rfl (by decide +kernel) ⟨Nat.le_of_ble_eq_true rfl, Nat.le_of_ble_eq_true rfl⟩) (zz_pre0V hK hP hD hS hA hE 0 rfl rfl rfl) rfl rfl hl.1 rfl (lv_room (Nat.le_of_ble_eq_true rfl)) dX9_digest_265 ⟨Nat.zero_le _, Nat.zero_le _⟩) hD hS hA (fun H locs hP hD hS => ?_)
                          refine lv_i2l (v := (Int32.toInt64 r60)) hx hb dX9_digest_268 rfl ?_
                          refine lv_ladd hx hb dX9_digest_269 ?_
                          obtain ⟨v63, hv63, hf⟩ := zz_lts hf
                          refine zz_tl hv63 ?_
                          refine lv_lstore_n (lv' := [(1, .long v63), (0, .ref (q 0)), (3, .int x14)]) hx hb dX9_digest_270 rfl hl (by decide) rfl (fun ls hl => ?_)
                          refine lv_ldc2 (v := (31 : Int64)) hx hb hown kc318 dX9_digest_271 ?_
                          refine lv_lload_n hx hb dX9_digest_274 rfl (lv_at hl 0 rfl) ?_
                          refine lv_lmul hx hb dX9_digest_275 ?_
                          refine lv_aload_n hx hb dX9_digest_276 rfl (lv_at hl 1 rfl) ?_
                          obtain ⟨r64, S65, hc66, hf⟩ := zz_b2s hf
                          refine zz_ji0 (va_runV (As := []) (rest := [.long ((31 : Int64) * v63)]) hfx (zc_X9_omitted l D tb q k F  S61 r64 S65 hc66 H.size) (cwV 0 hts gX9_digest_X9_omitted rfl rfl rfl (by decide +kernel) ⟨Nat.le_of_ble_eq_true rfl, Nat.le_of_ble_eq_true rfl⟩) (zz_pre0V hK hP hD hS hA hE 0 rfl rfl rfl) rfl rfl hl.1 rfl (lv_room (Nat.le_of_ble_eq_true rfl)) dX9_digest_277 ⟨Nat.zero_le _, Nat.zero_le _⟩) hD hS hA (fun H locs hP hD hS => ?_)
                          refine lv_i2l (v := (Int32.toInt64 r64)) hx hb dX9_digest_280 rfl ?_
                          refine lv_ladd hx hb dX9_digest_281 ?_
                          obtain ⟨v67, hv67, hf⟩ := zz_lts hf
                          refine zz_tl hv67 ?_
                          refine lv_lstore_n (lv' := [(1, .long v67), (0, .ref (q 0)), (3, .int x14)]) hx hb dX9_digest_282 rfl hl (by decide) rfl (fun ls hl => ?_)
                          refine lv_ldc2 (v := (31 : Int64)) hx hb hown kc318 dX9_digest_283 ?_
                          refine lv_lload_n hx hb dX9_digest_286 rfl (lv_at hl 0 rfl) ?_
                          refine lv_lmul hx hb dX9_digest_287 ?_
                          refine lv_aload_n hx hb dX9_digest_288 rfl (lv_at hl 1 rfl) ?_
                          obtain ⟨r68, S69, hc70, hf⟩ := zz_b2s hf
                          refine zz_ji0 (va_runV (As := []) (rest := [.long ((31 : Int64) * v67)]) hfx (zc_X9_ask l D tb q k F  S65 r68 S69 hc70 H.size) (cwV 0 hts gX9_digest_X9_ask rfl rfl rfl (by decide +kernel) ⟨Nat.le_of_ble_eq_true rfl, Nat.le_of_ble_eq_true rfl⟩) (zz_pre0V hK hP hD hS hA hE 0 rfl rfl rfl) rfl rfl hl.1 rfl (lv_room (Nat.le_of_ble_eq_true rfl)) dX9_digest_289 ⟨Nat.zero_le _, Nat.zero_le _⟩) hD hS hA (fun H locs hP hD hS => ?_)
                          refine lv_i2l (v := (Int32.toInt64 r68)) hx hb dX9_digest_292 rfl ?_
                          refine lv_ladd hx hb dX9_digest_293 ?_
                          obtain ⟨v71, hv71, hf⟩ := zz_lts hf
                          refine zz_tl hv71 ?_
                          refine lv_lstore_n (lv' := [(1, .long v71), (0, .ref (q 0)), (3, .int x14)]) hx hb dX9_digest_294 rfl hl (by decide) rfl (fun ls hl => ?_)
                          refine lv_ldc2 (v := (31 : Int64)) hx hb hown kc318 dX9_digest_295 ?_
                          refine lv_lload_n hx hb dX9_digest_298 rfl (lv_at hl 0 rfl) ?_
                          refine lv_lmul hx hb dX9_digest_299 ?_
                          refine lv_aload_n hx hb dX9_digest_300 rfl (lv_at hl 1 rfl) ?_
                          refine lv_bipush (v := (7 : Int32)) hx hb dX9_digest_301 (by decide) ?_
                          refine lv_bipush (v := (12 : Int32)) hx hb dX9_digest_303 (by decide) ?_
                          refine lv_iconst (v := (0 : Int32)) hx hb dX9_digest_305 (by decide) ?_
                          obtain ⟨r72, S73, hc74, hf⟩ := zz_b2s hf
                          refine zz_ji0 (va_runV (As := [.int (7 : Int32), .int (12 : Int32), .int (0 : Int32)]) (rest := [.long ((31 : Int64) * v71)]) hfx (zc_X9_nights l D tb q k F (7 : Int32) (12 : Int32) (0 : Int32) S69 r72 S73 hc74 H.size) (cwV 3 hts gX9_digest_X9_nights rfl rfl rfl (by decide +kernel) ⟨Nat.le_of_ble_eq_true rfl, Nat.le_of_ble_eq_true rfl⟩) (zz_pre0V hK hP hD hS hA hE 0 rfl rfl rfl) rfl rfl hl.1 rfl (lv_room (Nat.le_of_ble_eq_true rfl)) dX9_digest_306 ⟨Nat.zero_le _, Nat.zero_le _⟩) hD hS hA (fun H locs hP hD hS => ?_)
                          refine lv_i2l (v := (Int32.toInt64 r72)) hx hb dX9_digest_309 rfl ?_
                          refine lv_ladd hx hb dX9_digest_310 ?_
                          obtain ⟨v75, hv75, hf⟩ := zz_lts hf
                          refine zz_tl hv75 ?_
                          refine lv_lstore_n (lv' := [(1, .long v75), (0, .ref (q 0)), (3, .int x14)]) hx hb dX9_digest_311 rfl hl (by decide) rfl (fun ls hl => ?_)
                          refine lv_ldc2 (v := (31 : Int64)) hx hb hown kc318 dX9_digest_312 ?_
                          refine lv_lload_n hx hb dX9_digest_315 rfl (lv_at hl 0 rfl) ?_
                          refine lv_lmul hx hb dX9_digest_316 ?_
                          refine lv_aload_n hx hb dX9_digest_317 rfl (lv_at hl 1 rfl) ?_
                          refine lv_bipush (v := (7 : Int32)) hx hb dX9_digest_318 (by decide) ?_
                          refine lv_bipush (v := (12 : Int32)) hx hb dX9_digest_320 (by decide) ?_
                          refine lv_iconst (v := (1 : Int32)) hx hb dX9_digest_322 (by decide) ?_
                          obtain ⟨r76, S77, hc78, hf⟩ := zz_b2s hf
                          refine zz_ji0 (va_runV (As := [.int (7 : Int32), .int (12 : Int32), .int (1 : Int32)]) (rest := [.long ((31 : Int64) * v75)]) hfx (zc_X9_nights l D tb q k F (7 : Int32) (12 : Int32) (1 : Int32) S73 r76 S77 hc78 H.size) (cwV 3 hts gX9_digest_X9_nights rfl rfl rfl (by decide +kernel) ⟨Nat.le_of_ble_eq_true rfl, Nat.le_of_ble_eq_true rfl⟩) (zz_pre0V hK hP hD hS hA hE 0 rfl rfl rfl) rfl rfl hl.1 rfl (lv_room (Nat.le_of_ble_eq_true rfl)) dX9_digest_323 ⟨Nat.zero_le _, Nat.zero_le _⟩) hD hS hA (fun H locs hP hD hS => ?_)
                          refine lv_i2l (v := (Int32.toInt64 r76)) hx hb dX9_digest_326 rfl ?_
                          refine lv_ladd hx hb dX9_digest_327 ?_
                          obtain ⟨v79, hv79, hf⟩ := zz_lts hf
                          refine zz_tl hv79 ?_
                          refine lv_lstore_n (lv' := [(1, .long v79), (0, .ref (q 0)), (3, .int x14)]) hx hb dX9_digest_328 rfl hl (by decide) rfl (fun ls hl => ?_)
                          refine lv_lload_n hx hb dX9_digest_329 rfl (lv_at hl 0 rfl) ?_
                          obtain ⟨rfl, rfl⟩ := zz_e2 hf
                          exact hret _ _ _ _ dX9_digest_330 hP hD hS
                        · have hf := zz_ng hf c109
                          refine lv_aload_n hx hb dX9_digest_112 rfl (lv_at hl 0 rfl) ?_
                          refine lv_lload_n hx hb dX9_digest_113 rfl (lv_at hl 1 rfl) ?_
                          refine lv_iload_n hx hb dX9_digest_114 rfl (lv_at hl 2 rfl) ?_
                          obtain ⟨r80, S81, hc82, hf⟩ := zz_b2s hf
                          refine zz_jl0 (va_runV (As := [.long x13, .int x14]) (rest := []) hfx (zc_X9_digestThief l D tb q k F x13 x14 z15 r80 S81 hc82 H.size) (cwV 2 hts gX9_digest_X9_digestThief rfl rfl rfl (by decide +kernel) ⟨Nat.le_of_ble_eq_true rfl, Nat.le_of_ble_eq_true rfl⟩) (zz_pre0V hK hP hD hS hA hE 0 rfl rfl rfl) rfl rfl hl.1 rfl (lv_room (Nat.le_of_ble_eq_true rfl)) dX9_digest_115 ⟨Nat.zero_le _, Nat.zero_le _⟩) hD hS hA (fun H locs hP hD hS => ?_)
                          refine lv_lstore_n (lv' := [(1, .long r80), (0, .ref (q 0)), (3, .int x14)]) hx hb dX9_digest_118 rfl hl (by decide) rfl (fun ls hl => ?_)
                          obtain ⟨v83, hv83, hf⟩ := zz_lts hf
                          refine lv_iinc (v := v83) (lv' := [(3, .int v83), (1, .long r80), (0, .ref (q 0))]) hx hb dX9_digest_119 hl (k := 2) rfl (by rw [hv83]; rfl) (by decide) rfl (fun ls hl => ?_)
                          refine lv_goto (tgt := 101) hx hb dX9_digest_122 (by decide) ?_
                          exact ihkL101_15 r80 v83 S81 _ _ hP hD hS ls (lv_sub hl [2, 1, 0] rfl) hf
                    exact hLkL101_15 F x10 (0 : Int32) S8 _ _ hP hD hS ls (lv_sub hl [1, 2, 0] rfl) hf
                  · have hf := zz_ng hf c77
                    refine lv_ldc2 (v := (31 : Int64)) hx hb hown kc318 dX9_digest_80 ?_
                    refine lv_lload_n hx hb dX9_digest_83 rfl (lv_at hl 1 rfl) ?_
                    refine lv_lmul hx hb dX9_digest_84 ?_
                    refine lv_aload_n hx hb dX9_digest_85 rfl (lv_at hl 0 rfl) ?_
                    refine lv_iload_n hx hb dX9_digest_86 rfl (lv_at hl 2 rfl) ?_
                    obtain ⟨r84, hc85, hf⟩ := zz_b1s hf
                    refine zz_ji0 (va_runV (As := [.int x11]) (rest := [.long ((31 : Int64) * x10)]) hfx (zc_X9_beat l D tb q k F x11 S8 r84 hc85 H.size) (cwV 1 hts gX9_digest_X9_beat rfl rfl rfl (by decide +kernel) ⟨Nat.le_of_ble_eq_true rfl, Nat.le_of_ble_eq_true rfl⟩) (zz_pre0V hK hP hD hS hA hE 0 rfl rfl rfl) rfl rfl hl.1 rfl (lv_room (Nat.le_of_ble_eq_true rfl)) dX9_digest_87 ⟨Nat.zero_le _, Nat.zero_le _⟩) hD hS hA (fun H locs hP hD hS => ?_)
                    refine lv_i2l (v := (Int32.toInt64 r84)) hx hb dX9_digest_90 rfl ?_
                    refine lv_ladd hx hb dX9_digest_91 ?_
                    obtain ⟨v86, hv86, hf⟩ := zz_lts hf
                    refine zz_tl hv86 ?_
                    refine lv_lstore_n (lv' := [(1, .long v86), (0, .ref (q 0)), (3, .int x11)]) hx hb dX9_digest_92 rfl hl (by decide) rfl (fun ls hl => ?_)
                    obtain ⟨v87, hv87, hf⟩ := zz_lts hf
                    refine lv_iinc (v := v87) (lv' := [(3, .int v87), (1, .long v86), (0, .ref (q 0))]) hx hb dX9_digest_93 hl (k := 2) rfl (by rw [hv87]; rfl) (by decide) rfl (fun ls hl => ?_)
                    refine lv_goto (tgt := 69) hx hb dX9_digest_96 (by decide) ?_
                    exact ihkL69_11 v86 v87 _ _ hP hD hS ls (lv_sub hl [2, 1, 0] rfl) hf
              exact hLkL69_11 F r7 (0 : Int32) _ _ hP hD hS ls (lv_sub hl [2, 1, 0] rfl) hf
            · have hf := zz_ng hf c39
              refine lv_ldc2 (v := (31 : Int64)) hx hb hown kc318 dX9_digest_42 ?_
              refine lv_lload_n hx hb dX9_digest_45 rfl (lv_at hl 1 rfl) ?_
              refine lv_lmul hx hb dX9_digest_46 ?_
              refine lv_aload_n hx hb dX9_digest_47 rfl (lv_at hl 0 rfl) ?_
              refine lv_iload_n hx hb dX9_digest_48 rfl (lv_at hl 2 rfl) ?_
              obtain ⟨r88, hc89, hf⟩ := zz_b1s hf
              refine zz_ji0 (va_runV (As := [.int x5]) (rest := [.long ((31 : Int64) * x4)]) hfx (zc_X9_fault l D tb q k F x5 S r88 hc89 H.size) (cwV 1 hts gX9_digest_X9_fault rfl rfl rfl (by decide +kernel) ⟨Nat.le_of_ble_eq_true rfl, Nat.le_of_ble_eq_true rfl⟩) (zz_pre0V hK hP hD hS hA hE 0 rfl rfl rfl) rfl rfl hl.1 rfl (lv_room (Nat.le_of_ble_eq_true rfl)) dX9_digest_49 ⟨Nat.zero_le _, Nat.zero_le _⟩) hD hS hA (fun H locs hP hD hS => ?_)
              refine lv_i2l (v := (Int32.toInt64 r88)) hx hb dX9_digest_52 rfl ?_
              refine lv_ladd hx hb dX9_digest_53 ?_
              obtain ⟨v90, hv90, hf⟩ := zz_lts hf
              refine zz_tl hv90 ?_
              refine lv_lstore_n (lv' := [(1, .long v90), (0, .ref (q 0)), (3, .int x5)]) hx hb dX9_digest_54 rfl hl (by decide) rfl (fun ls hl => ?_)
              obtain ⟨v91, hv91, hf⟩ := zz_lts hf
              refine lv_iinc (v := v91) (lv' := [(3, .int v91), (1, .long v90), (0, .ref (q 0))]) hx hb dX9_digest_55 hl (k := 2) rfl (by rw [hv91]; rfl) (by decide) rfl (fun ls hl => ?_)
              refine lv_goto (tgt := 33) hx hb dX9_digest_58 (by decide) ?_
              exact ihkL33_5 v90 v91 _ _ hP hD hS ls (lv_sub hl [2, 1, 0] rfl) hf
        exact hLkL33_5 F x1 (0 : Int32) _ _ hP hD hS ls (lv_sub hl [1, 2, 0] rfl) hf
      · have hf := zz_ng hf c9
        refine lv_ldc2 (v := (31 : Int64)) hx hb hown kc318 dX9_digest_12 ?_
        refine lv_lload_n hx hb dX9_digest_15 rfl (lv_at hl 1 rfl) ?_
        refine lv_lmul hx hb dX9_digest_16 ?_
        refine lv_aload_n hx hb dX9_digest_17 rfl (lv_at hl 0 rfl) ?_
        refine lv_iload_n hx hb dX9_digest_18 rfl (lv_at hl 2 rfl) ?_
        obtain ⟨r92, hc93, hf⟩ := zz_b1s hf
        refine zz_ji0 (va_runV (As := [.int x2]) (rest := [.long ((31 : Int64) * x1)]) hfx (zc_X9_count l D tb q k F x2 S r92 hc93 H.size) (cwV 1 hts gX9_digest_X9_count rfl rfl rfl (by decide +kernel) ⟨Nat.le_of_ble_eq_true rfl, Nat.le_of_ble_eq_true rfl⟩) (zz_pre0V hK hP hD hS hA hE 0 rfl rfl rfl) rfl rfl hl.1 rfl (lv_room (Nat.le_of_ble_eq_true rfl)) dX9_digest_19 ⟨Nat.zero_le _, Nat.zero_le _⟩) hD hS hA (fun H locs hP hD hS => ?_)
        refine lv_i2l (v := (Int32.toInt64 r92)) hx hb dX9_digest_22 rfl ?_
        refine lv_ladd hx hb dX9_digest_23 ?_
        obtain ⟨v94, hv94, hf⟩ := zz_lts hf
        refine zz_tl hv94 ?_
        refine lv_lstore_n (lv' := [(1, .long v94), (0, .ref (q 0)), (3, .int x2)]) hx hb dX9_digest_24 rfl hl (by decide) rfl (fun ls hl => ?_)
        obtain ⟨v95, hv95, hf⟩ := zz_lts hf
        refine lv_iinc (v := v95) (lv' := [(3, .int v95), (1, .long v94), (0, .ref (q 0))]) hx hb dX9_digest_25 hl (k := 2) rfl (by rw [hv95]; rfl) (by decide) rfl (fun ls hl => ?_)
        refine lv_goto (tgt := 6) hx hb dX9_digest_28 (by decide) ?_
        exact ihkL6_2 v94 v95 _ _ hP hD hS ls (lv_sub hl [2, 1, 0] rfl) hf
  exact hLkL6_2 F (17 : Int64) (0 : Int32) _ _ hP hD hS ls (lv_sub hl [2, 1, 0] rfl) hf
