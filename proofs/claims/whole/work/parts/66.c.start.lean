set_option maxHeartbeats 16000000 in
set_option maxRecDepth 100000 in
/-- what the Statement gives of the class's own tables -/
theorem lw_ex {s : State} {b : Nat} (hts : ∀ w ∈ lw_tbl, w.before #[Value.ref b] s = true) (hgv : (Jvm.Cond.and given_1 narrow_1).before #[Value.ref b] s = true) : ∃ tb : Nat → Nat, zz_EX tb (lwA s) s s.heap := by
  have hs := flat_of_before _ hgv
  obtain ⟨t0, tv0, tt0⟩ := va_Tof (tm := .static "CatBeat" "TEXT_LIMITS" "[I") (ty := .int) (N := 3) (f := fun j => .int (zz_T0 j)) (A := lwA s) (by decide) (hs (Cond.arrayOf (.static "CatBeat" "TEXT_LIMITS" "[I") .int) (by decide +kernel)) (va_eqt (hs (Cond.eq (.length (.static "CatBeat" "TEXT_LIMITS" "[I")) (.int 3)) (by decide +kernel))) (fun j hj => by
    rcases (show j = 0 ∨ j = 1 ∨ j = 2 by omega) with rfl | rfl | rfl
    · exact va_eqt (hs (Cond.eq (.elem (.static "CatBeat" "TEXT_LIMITS" "[I") (.int 0)) (.int 41)) (by decide +kernel))
    · exact va_eqt (hs (Cond.eq (.elem (.static "CatBeat" "TEXT_LIMITS" "[I") (.int 1)) (.int 24)) (by decide +kernel))
    · exact va_eqt (hs (Cond.eq (.elem (.static "CatBeat" "TEXT_LIMITS" "[I") (.int 2)) (.int 31)) (by decide +kernel))) (fun a h => Nat.not_le.mpr h)
  obtain ⟨t1, tv1, tt1⟩ := va_Tof (tm := .static "CatBeat" "MOST_OF_SETTING" "[I") (ty := .int) (N := 4) (f := fun j => .int (zz_T1 j)) (A := lwA s) (by decide) (hs (Cond.arrayOf (.static "CatBeat" "MOST_OF_SETTING" "[I") .int) (by decide +kernel)) (va_eqt (hs (Cond.eq (.length (.static "CatBeat" "MOST_OF_SETTING" "[I")) (.int 4)) (by decide +kernel))) (fun j hj => by
    rcases (show j = 0 ∨ j = 1 ∨ j = 2 ∨ j = 3 by omega) with rfl | rfl | rfl | rfl
    · exact va_eqt (hs (Cond.eq (.elem (.static "CatBeat" "MOST_OF_SETTING" "[I") (.int 0)) (.int 35)) (by decide +kernel))
    · exact va_eqt (hs (Cond.eq (.elem (.static "CatBeat" "MOST_OF_SETTING" "[I") (.int 1)) (.int 9)) (by decide +kernel))
    · exact va_eqt (hs (Cond.eq (.elem (.static "CatBeat" "MOST_OF_SETTING" "[I") (.int 2)) (.int 9)) (by decide +kernel))
    · exact va_eqt (hs (Cond.eq (.elem (.static "CatBeat" "MOST_OF_SETTING" "[I") (.int 3)) (.int 1)) (by decide +kernel))) (fun a h => Nat.not_le.mpr h)
  obtain ⟨t2, tv2, tt2⟩ := va_Tof (tm := .static "CatBeat" "DIGESTED_MOMENTS" "[I") (ty := .int) (N := 4) (f := fun j => .int (zz_T2 j)) (A := lwA s) (by decide) (hs (Cond.arrayOf (.static "CatBeat" "DIGESTED_MOMENTS" "[I") .int) (by decide +kernel)) (va_eqt (hs (Cond.eq (.length (.static "CatBeat" "DIGESTED_MOMENTS" "[I")) (.int 4)) (by decide +kernel))) (fun j hj => by
    rcases (show j = 0 ∨ j = 1 ∨ j = 2 ∨ j = 3 by omega) with rfl | rfl | rfl | rfl
    · exact va_eqt (hs (Cond.eq (.elem (.static "CatBeat" "DIGESTED_MOMENTS" "[I") (.int 0)) (.int 0)) (by decide +kernel))
    · exact va_eqt (hs (Cond.eq (.elem (.static "CatBeat" "DIGESTED_MOMENTS" "[I") (.int 1)) (.int 7)) (by decide +kernel))
    · exact va_eqt (hs (Cond.eq (.elem (.static "CatBeat" "DIGESTED_MOMENTS" "[I") (.int 2)) (.int 50)) (by decide +kernel))
    · exact va_eqt (hs (Cond.eq (.elem (.static "CatBeat" "DIGESTED_MOMENTS" "[I") (.int 3)) (.int 95)) (by decide +kernel))) (fun a h => Nat.not_le.mpr h)
  have hini := hts (.initialized "CatBeat") (by decide +kernel)
  refine ⟨fun j => if j = 0 then t0 else if j = 1 then t1 else t2, va_Nw.of rfl (hts (.methodLinkNest "CatBeat$Missed" 22 yX9_isEither "CatBeat") (by decide +kernel)), ⟨?_, tt0⟩, ⟨?_, tt1⟩, ⟨?_, tt2⟩⟩
  · exact va_Zref (hts (.laysStatic "CatBeat" "TEXT_LIMITS" "[I") (by decide +kernel)) hini tv0 (fun a h => Nat.not_le.mpr h)
  · exact va_Zref (hts (.laysStatic "CatBeat" "MOST_OF_SETTING" "[I") (by decide +kernel)) hini tv1 (fun a h => Nat.not_le.mpr h)
  · exact va_Zref (hts (.laysStatic "CatBeat" "DIGESTED_MOMENTS" "[I") (by decide +kernel)) hini tv2 (fun a h => Nat.not_le.mpr h)
set_option maxHeartbeats 16000000 in
set_option maxRecDepth 100000 in
theorem lw_en {s : State} {b : Nat} (hts : ∀ w ∈ lw_tbl, w.before #[Value.ref b] s = true) : zz_EN s :=
  ⟨va_Nw.of rfl (hts (.methodLinkNest "CatBeat" 24 yX8_init "CatBeat") (by decide +kernel)), va_Nw.of rfl (hts (.methodLinkNest "CatBeat" 31 yX4_init "CatBeat") (by decide +kernel)), va_Nw.of rfl (hts (.methodLinkNest "CatBeat" 38 yX7_init "CatBeat") (by decide +kernel)), va_Nw.of rfl (hts (.methodLinkNest "CatBeat" 45 yX1_init "CatBeat") (by decide +kernel)), va_Nw.of rfl (hts (.methodLinkNest "CatBeat" 58 yX0_init "CatBeat") (by decide +kernel)), va_Nw.of rfl (hts (.methodLinkNest "CatBeat" 65 yX2_init "CatBeat") (by decide +kernel)), va_Nw.of rfl (hts (.methodLinkNest "CatBeat" 81 yX3_init "CatBeat") (by decide +kernel)), va_Nw.of rfl (hts (.methodLinkNest "CatBeat" 106 yX5_init "CatBeat") (by decide +kernel)), va_AO.of (hts (.arrayOver (.object "CatBeat$Text")) (by decide +kernel)), va_AO.of (hts (.arrayOver (.object "CatBeat$Sheet")) (by decide +kernel))⟩
set_option maxHeartbeats 16000000 in
set_option maxRecDepth 100000 in
theorem lw_known {s : State} {b : Nat} (htw : ∀ w ∈ wsL_law, w.before #[Value.ref b] s = true) (hts : ∀ w ∈ lw_tbl, w.before #[Value.ref b] s = true) : ∃ D : va_G, va_K D vwCl [] s := by
  obtain ⟨c0, iS0, hKn0⟩ := u_known (C := RX0) (T := TX0) (N := 4) (n := 4) htw inlX0 (hts (.instantiable RX0 4) (by decide +kernel))
  obtain ⟨c1, iS1, hKn1⟩ := u_known (C := RX1) (T := TX1) (N := 3) (n := 3) htw inlX1 (hts (.instantiable RX1 3) (by decide +kernel))
  obtain ⟨c2, iS2, hKn2⟩ := u_known (C := RX2) (T := TX2) (N := 2) (n := 2) htw inlX2 (hts (.instantiable RX2 2) (by decide +kernel))
  obtain ⟨c3, iS3, hKn3⟩ := u_known (C := RX3) (T := TX3) (N := 2) (n := 2) htw inlX3 (hts (.instantiable RX3 2) (by decide +kernel))
  obtain ⟨c4, iS4, hKn4⟩ := u_known (C := RX4) (T := TX4) (N := 2) (n := 2) htw inlX4 (hts (.instantiable RX4 2) (by decide +kernel))
  obtain ⟨c5, iS5, hKn5⟩ := u_known (C := RX5) (T := TX5) (N := 4) (n := 4) htw inlX5 (hts (.instantiable RX5 4) (by decide +kernel))
  obtain ⟨c6, iS6, hKn6⟩ := u_known (C := RX6) (T := TX6) (N := 2) (n := 2) htw inlX6 (hts (.instantiable RX6 2) (by decide +kernel))
  obtain ⟨c7, iS7, hKn7⟩ := u_known (C := RX7) (T := TX7) (N := 3) (n := 3) htw inlX7 (hts (.instantiable RX7 3) (by decide +kernel))
  obtain ⟨c8, iS8, hKn8⟩ := u_known (C := RX8) (T := TX8) (N := 4) (n := 4) htw inlX8 (hts (.instantiable RX8 4) (by decide +kernel))
  obtain ⟨c9, iS9, hKn9⟩ := u_known (C := RX9) (T := TX9) (N := 18) (n := 18) htw inlX9 (hts (.instantiable RX9 18) (by decide +kernel))
  obtain ⟨c10, iS10, hKn10⟩ := u_known (C := RX10) (T := TX10) (N := 34) (n := 34) htw inlX10 (hts (.instantiable RX10 34) (by decide +kernel))
  refine ⟨(fun k => if k = 0 then c0 else if k = 1 then c1 else if k = 2 then c2 else if k = 3 then c3 else if k = 4 then c4 else if k = 5 then c5 else if k = 6 then c6 else if k = 7 then c7 else if k = 8 then c8 else if k = 9 then c9 else c10, fun k => if k = 0 then iS0 else if k = 1 then iS1 else if k = 2 then iS2 else if k = 3 then iS3 else if k = 4 then iS4 else if k = 5 then iS5 else if k = 6 then iS6 else if k = 7 then iS7 else if k = 8 then iS8 else if k = 9 then iS9 else iS10), ?_, fun k q h => by simp at h⟩
  intro k q hq
  match k, hq with
  | 0, hq => cases hq; exact hKn0
  | 1, hq => cases hq; exact hKn1
  | 2, hq => cases hq; exact hKn2
  | 3, hq => cases hq; exact hKn3
  | 4, hq => cases hq; exact hKn4
  | 5, hq => cases hq; exact hKn5
  | 6, hq => cases hq; exact hKn6
  | 7, hq => cases hq; exact hKn7
  | 8, hq => cases hq; exact hKn8
  | 9, hq => cases hq; exact hKn9
  | 10, hq => cases hq; exact hKn10
  | k + 11, hq => simp [vwCl] at hq
set_option maxHeartbeats 16000000 in
set_option maxRecDepth 100000 in
/-- THE LAW, from its entry -/
theorem whole_start {p : Program} {e : Env} {s : State} {m : MethodId} {below : List Frame} {meth : Method} {c : Code} (l : Launch) {b L : Nat} {xs : Nat → Int32} (hL : L ≤ 384) (C0 : lw_At p s m meth c b L xs) : W p l e room_1 s m #[Value.ref b] below meth c s.heap [] 0 0 (lw_Z below #[Value.ref b] s) (entryFrame m ([Value.ref b] : List Value).toArray 4) := by
  obtain ⟨hx, hb, hr, hml, hown, hts0, hX, hbl, hlocks, hgv⟩ := id C0
  have hts : ∀ w ∈ wsL_law, w.before #[Value.ref b] s = true := fun w h => hts0 w (gl_in w h)
  have hA : ∀ a : Nat, s.heap.size ≤ a → lwA s a := fun _ h => h
  have hbA : ¬ lwA s b := Nat.not_le.mpr hbl
  obtain ⟨tb, hE⟩ := lw_ex hts0 hgv
  have hN := lw_en hts0
  obtain ⟨D, hK⟩ := lw_known hts hts0
  have hfx : CallFix p m c cL_law 4 s #[Value.ref b] wsL_law RL := ⟨hx, hb, hml, hown, hts⟩
  have hS : va_S (lwA s) s.heap s.heap [] := va_S.rf
  have hP : va_P D vwCl [] s.heap := fun k q h => by simp at h
  have hD : va_D (lwA s) [] := ⟨fun i j p q h => by simp at h, fun k q h => by simp at h⟩
  have hl := lv_entry ([.ref b]) (n := 4) (Nat.le_of_ble_eq_true rfl)
  rw [lg_entry_eq]
  generalize (lg_sl ([.ref b]) ++ List.replicate (4 - (lg_sl ([.ref b])).length) Slot.unset).toArray = ls at hl ⊢
  have hl : lv_has ls 4 [(0, .ref b)] := hl
  refine va_new (ci := 9) (fs := [.null, .null, .null, .null, .null, .null, .null, .null, .null, .null, .null, .null, .null, .null, .null, .int 0, .int 0, .int 0]) (C := RX9) (T := TX9) (N := 18) hx hb hts inlX9 tyX9 tyX9_ok hown (hts (.classLink RL 7 RX9) (by decide +kernel)) (hts (.instantiable RX9 18) (by decide +kernel)) (hts (.initialized RX9) (by decide +kernel)) hK hP hD hS hA rfl (fun j hj => by rcases (show j = 0 ∨ j = 1 ∨ j = 2 ∨ j = 3 ∨ j = 4 ∨ j = 5 ∨ j = 6 ∨ j = 7 ∨ j = 8 ∨ j = 9 ∨ j = 10 ∨ j = 11 ∨ j = 12 ∨ j = 13 ∨ j = 14 ∨ j = 15 ∨ j = 16 ∨ j = 17 by omega) with rfl | rfl | rfl | rfl | rfl | rfl | rfl | rfl | rfl | rfl | rfl | rfl | rfl | rfl | rfl | rfl | rfl | rfl <;> rfl) (Nat.le_of_ble_eq_true rfl) (Nat.le_of_ble_eq_true rfl) dL_law_0 (fun h9 H hP hD hS => ?_)
  have hP : va_P D vwCl [(h9, .inr (9, [.null, .null, .null, .null, .null, .null, .null, .null, .null, .null, .null, .null, .null, .null, .null, .int 0, .int 0, .int 0]))] H := hP
  have hD : va_D (lwA s) [(h9, .inr (9, [.null, .null, .null, .null, .null, .null, .null, .null, .null, .null, .null, .null, .null, .null, .null, .int 0, .int 0, .int 0]))] := hD
  refine W.widen (k := 1) (n := 18) (by omega) (by omega) ?_
  refine lv_dup hx hb dL_law_3 rfl ?_
  have hFc := va_free (wc := [(h9, .inr (9, [.null, .null, .null, .null, .null, .null, .null, .null, .null, .null, .null, .null, .null, .null, .null, .int 0, .int 0, .int 0]))]) hD hS hA [0] rfl
  refine va_callv (va_runI (As := []) (rest := [.ref h9]) hfx (zi_X9 l D tb h9 H.size) (cwI 0 hts gL_law_X9_init rfl rfl rfl (hts (.initialized RX9) (by decide +kernel)) (hts (.methodLink RL 9 yX9_init) (by decide +kernel)) (hts (.instanceMethod yX9_init) (by decide +kernel)) rfl (by decide +kernel) ⟨Nat.le_of_ble_eq_true rfl, Nat.le_of_ble_eq_true rfl⟩) (zz_preI9 hK hP hD hS hA hE hN [0] rfl (by decide)) rfl rfl hl.1 rfl (lv_room (Nat.le_of_ble_eq_true rfl)) dL_law_4 ⟨Nat.le_of_ble_eq_true rfl, Nat.le_of_ble_eq_true rfl⟩) hS (fun q _ h => hFc q h) hFc (fun u t H1 locs ht hvm hw hB hz1 hk1 hS => ?_)
  obtain ⟨q, k, hq0, hP1, hK1, hD1⟩ := hB
  subst hq0
  rw [ht] at hP1
  have hK1 := va_K.moved hvm.symm hK1
  obtain ⟨hP, hD⟩ := va_join (wr := []) (w1 := zw_9 q k zs_X9) hP hD [0] [] rfl rfl (by decide) (by decide) hk1 hFc hP1 hD1
  have hK : va_K D vwCl (lwt9 k) s := hK1
  generalize H1 = H at hP hS ⊢
  have hP : va_P D vwCl (zw_9 q k zs_X9) H := hP
  have hD : va_D (lwA s) (zw_9 q k zs_X9) := hD
  refine W.widen (k := 48) (n := 1468) (by omega) (by omega) ?_
  refine lv_astore_n (lv' := [(1, .ref (q 0)), (0, .ref b)]) hx hb dL_law_7 rfl hl (by decide) rfl (fun ls hl => ?_)
  refine va_new (ci := 10) (fs := [.null, .null, .int 0, .int 0, .int 0, .null, .int 0, .null, .int 0, .null, .null, .int 0, .int 0, .int 0, .int 0, .int 0, .null, .null, .null, .null, .null, .int 0, .int 0, .null, .int 0, .null, .null, .null, .null, .null, .null, .null, .null, .int 0]) (C := RX10) (T := TX10) (N := 34) hx hb hts inlX10 tyX10 tyX10_ok hown (hts (.classLink RL 10 RX10) (by decide +kernel)) (hts (.instantiable RX10 34) (by decide +kernel)) (hts (.initialized RX10) (by decide +kernel)) hK hP hD hS hA rfl (fun j hj => by rcases (show j = 0 ∨ j = 1 ∨ j = 2 ∨ j = 3 ∨ j = 4 ∨ j = 5 ∨ j = 6 ∨ j = 7 ∨ j = 8 ∨ j = 9 ∨ j = 10 ∨ j = 11 ∨ j = 12 ∨ j = 13 ∨ j = 14 ∨ j = 15 ∨ j = 16 ∨ j = 17 ∨ j = 18 ∨ j = 19 ∨ j = 20 ∨ j = 21 ∨ j = 22 ∨ j = 23 ∨ j = 24 ∨ j = 25 ∨ j = 26 ∨ j = 27 ∨ j = 28 ∨ j = 29 ∨ j = 30 ∨ j = 31 ∨ j = 32 ∨ j = 33 by omega) with rfl | rfl | rfl | rfl | rfl | rfl | rfl | rfl | rfl | rfl | rfl | rfl | rfl | rfl | rfl | rfl | rfl | rfl | rfl | rfl | rfl | rfl | rfl | rfl | rfl | rfl | rfl | rfl | rfl | rfl | rfl | rfl | rfl | rfl <;> rfl) (Nat.le_of_ble_eq_true rfl) (Nat.le_of_ble_eq_true rfl) dL_law_8 (fun h10 H hP hD hS => ?_)
  have hP : va_P D vwCl (zw_9 q k zs_X9 ++ [(h10, .inr (10, [.null, .null, .int 0, .int 0, .int 0, .null, .int 0, .null, .int 0, .null, .null, .int 0, .int 0, .int 0, .int 0, .int 0, .null, .null, .null, .null, .null, .int 0, .int 0, .null, .int 0, .null, .null, .null, .null, .null, .null, .null, .null, .int 0]))]) H := hP
  have hD : va_D (lwA s) (zw_9 q k zs_X9 ++ [(h10, .inr (10, [.null, .null, .int 0, .int 0, .int 0, .null, .int 0, .null, .int 0, .null, .null, .int 0, .int 0, .int 0, .int 0, .int 0, .null, .null, .null, .null, .null, .int 0, .int 0, .null, .int 0, .null, .null, .null, .null, .null, .null, .null, .null, .int 0]))]) := hD
  refine W.widen (k := 49) (n := 1502) (by omega) (by omega) ?_
  refine lv_dup hx hb dL_law_11 rfl ?_
  have hFc := va_free (wc := [(h10, .inr (10, [.null, .null, .int 0, .int 0, .int 0, .null, .int 0, .null, .int 0, .null, .null, .int 0, .int 0, .int 0, .int 0, .int 0, .null, .null, .null, .null, .null, .int 0, .int 0, .null, .int 0, .null, .null, .null, .null, .null, .null, .null, .null, .int 0]))]) hD hS hA [48] rfl
  refine va_callv (va_runI (As := []) (rest := [.ref h10]) hfx (zi_X10 l D tb h10 H.size) (cwI 0 hts gL_law_X10_init rfl rfl rfl (hts (.initialized RX10) (by decide +kernel)) (hts (.methodLink RL 12 yX10_init) (by decide +kernel)) (hts (.instanceMethod yX10_init) (by decide +kernel)) rfl (by decide +kernel) ⟨Nat.le_of_ble_eq_true rfl, Nat.le_of_ble_eq_true rfl⟩) (zz_preI hK hP hD hS hA hE [48] rfl (by decide)) rfl rfl hl.1 rfl (lv_room (Nat.le_of_ble_eq_true rfl)) dL_law_12 ⟨Nat.le_of_ble_eq_true rfl, Nat.le_of_ble_eq_true rfl⟩) hS (fun q _ h => hFc q h) hFc (fun u t H1 locs ht hvm hw hB hz1 hk1 hS => ?_)
  obtain ⟨q2, k2, hq0, hP1, hK1, hD1⟩ := hB
  subst hq0
  rw [ht] at hP1
  have hK1 := va_K.moved hvm.symm hK1
  obtain ⟨hP, hD⟩ := va_join (wr := zw_9 q k zs_X9) (w1 := zw_10 q2 k2 zs_X10) hP hD [48] [0, 1, 2, 3, 4, 5, 6, 7, 8, 9, 10, 11, 12, 13, 14, 15, 16, 17, 18, 19, 20, 21, 22, 23, 24, 25, 26, 27, 28, 29, 30, 31, 32, 33, 34, 35, 36, 37, 38, 39, 40, 41, 42, 43, 44, 45, 46, 47] rfl rfl (by decide) (by decide) hk1 hFc hP1 hD1
  have hK : va_K D vwCl (lwt9 k ++ lwt10 k2) s := hK.app hK1
  generalize H1 = H at hP hS ⊢
  have hP : va_P D vwCl (zw_9 q k zs_X9 ++ zw_10 q2 k2 zs_X10) H := hP
  have hD : va_D (lwA s) (zw_9 q k zs_X9 ++ zw_10 q2 k2 zs_X10) := hD
  refine W.widen (k := 69) (n := 2482) (by omega) (by omega) ?_
  refine lv_astore_n (lv' := [(2, .ref (q2 0)), (1, .ref (q 0)), (0, .ref b)]) hx hb dL_law_15 rfl hl (by decide) rfl (fun ls hl => ?_)
  refine lv_iconst (v := 0) hx hb dL_law_16 (by decide) ?_
  refine lv_istore_n (lv' := [(3, .int 0), (2, .ref (q2 0)), (1, .ref (q 0)), (0, .ref b)]) hx hb dL_law_17 rfl hl (by decide) rfl (fun ls hl => ?_)
  exact lw_loop (F := 2000) hL hr hlocks hfx hK hE hX hbl (Nat.le_refl 2000) 70 0 (by omega) (by omega) zs_X9 zs_X10 R9_init.1 R9_init.2 H _ hP hD hS ls (lv_sub hl [3, 2, 1, 0] rfl)
