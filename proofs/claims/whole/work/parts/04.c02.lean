set_option maxHeartbeats 4000000 in
set_option maxRecDepth 100000 in
theorem c_J13_bitCount_95d88 (l : Launch) (F : Nat) (v0 : Int64) (x0 : Int32) (h : f_J13_bitCount_95d88 F v0 = some x0) : Met l yJ13_bitCount_95d88 wsJ13_bitCount_95d88 ({ frames := 0, cells := 0, slots := 0, locals := 0 }) (va_Pc [.long v0] (fun _ => True)) (va_Qi (fun (r : Int32) (u : Unit) => r = x0) (fun _ _ => True) (fun _ => False)) 0 0 (fun _ => False) := by
  refine mt_of (cc := cJ13_bitCount_95d88) (maxL := 2) (ret := (some .int)) (by decide) rfl ?_
  intro p e s m args below meth c s₁ B0 hml hv R Q hR hQ
  obtain ⟨hargs, -⟩ := hv
  have hx := B0.exec
  have hb := B0.bytes
  have hr := B0.returns
  have hts := atoms_spec (ws := wsJ13_bitCount_95d88) B0.pre
  have hown : s.vm.findClass RJ13 = some m.cls := findClass_of_methodNamed B0.named
  have hlocks := B0.notSynchronized
  have hS : va_S (fun _ => False) s.heap s.heap [] := va_S.rf
  have hl := lv_entry ([.long v0]) (n := 2) (Nat.le_of_ble_eq_true rfl)
  rw [hargs, lg_entry_eq]
  rw [← hargs]
  generalize (lg_sl ([.long v0]) ++ List.replicate (2 - (lg_sl ([.long v0])).length) Slot.unset).toArray = ls at hl ⊢
  have hl : lv_has ls 2 [(0, .long v0)] := hl
  unfold f_J13_bitCount_95d88 at h
  refine lv_lload_n hx hb dJ13_bitCount_95d88_0 rfl (lv_at hl 0 rfl) ?_
  refine lv_lload_n hx hb dJ13_bitCount_95d88_1 rfl (lv_at hl 0 rfl) ?_
  refine lv_iconst (v := 1) hx hb dJ13_bitCount_95d88_2 (by decide) ?_
  refine lv_lushr hx hb dJ13_bitCount_95d88_3 rfl ?_
  refine lv_ldc2 (v := 6148914691236517205) hx hb hown (hts (.constantLong RJ13 314 6148914691236517205) (by decide +kernel)) dJ13_bitCount_95d88_4 ?_
  refine lv_land hx hb dJ13_bitCount_95d88_7 ?_
  refine lv_lsub hx hb dJ13_bitCount_95d88_8 ?_
  refine lv_topl (fun w_1 ew_1 => ?_)
  have h := nmJ_at ew_1 h
  refine lv_lstore_n (lv' := [(0, .long w_1)]) hx hb dJ13_bitCount_95d88_9 rfl hl (by decide) rfl (fun ls hl => ?_)
  refine lv_lload_n hx hb dJ13_bitCount_95d88_10 rfl (lv_at hl 0 rfl) ?_
  refine lv_ldc2 (v := 3689348814741910323) hx hb hown (hts (.constantLong RJ13 316 3689348814741910323) (by decide +kernel)) dJ13_bitCount_95d88_11 ?_
  refine lv_land hx hb dJ13_bitCount_95d88_14 ?_
  refine lv_lload_n hx hb dJ13_bitCount_95d88_15 rfl (lv_at hl 0 rfl) ?_
  refine lv_iconst (v := 2) hx hb dJ13_bitCount_95d88_16 (by decide) ?_
  refine lv_lushr hx hb dJ13_bitCount_95d88_17 rfl ?_
  refine lv_ldc2 (v := 3689348814741910323) hx hb hown (hts (.constantLong RJ13 316 3689348814741910323) (by decide +kernel)) dJ13_bitCount_95d88_18 ?_
  refine lv_land hx hb dJ13_bitCount_95d88_21 ?_
  refine lv_ladd hx hb dJ13_bitCount_95d88_22 ?_
  refine lv_topl (fun w_2 ew_2 => ?_)
  have h := nmJ_at ew_2 h
  refine lv_lstore_n (lv' := [(0, .long w_2)]) hx hb dJ13_bitCount_95d88_23 rfl hl (by decide) rfl (fun ls hl => ?_)
  refine lv_lload_n hx hb dJ13_bitCount_95d88_24 rfl (lv_at hl 0 rfl) ?_
  refine lv_lload_n hx hb dJ13_bitCount_95d88_25 rfl (lv_at hl 0 rfl) ?_
  refine lv_iconst (v := 4) hx hb dJ13_bitCount_95d88_26 (by decide) ?_
  refine lv_lushr hx hb dJ13_bitCount_95d88_27 rfl ?_
  refine lv_ladd hx hb dJ13_bitCount_95d88_28 ?_
  refine lv_ldc2 (v := 1085102592571150095) hx hb hown (hts (.constantLong RJ13 318 1085102592571150095) (by decide +kernel)) dJ13_bitCount_95d88_29 ?_
  refine lv_land hx hb dJ13_bitCount_95d88_32 ?_
  refine lv_topl (fun w_3 ew_3 => ?_)
  have h := nmJ_at ew_3 h
  refine lv_lstore_n (lv' := [(0, .long w_3)]) hx hb dJ13_bitCount_95d88_33 rfl hl (by decide) rfl (fun ls hl => ?_)
  refine lv_lload_n hx hb dJ13_bitCount_95d88_34 rfl (lv_at hl 0 rfl) ?_
  refine lv_lload_n hx hb dJ13_bitCount_95d88_35 rfl (lv_at hl 0 rfl) ?_
  refine lv_bipush (v := 8) hx hb dJ13_bitCount_95d88_36 (by decide) ?_
  refine lv_lushr hx hb dJ13_bitCount_95d88_38 rfl ?_
  refine lv_ladd hx hb dJ13_bitCount_95d88_39 ?_
  refine lv_topl (fun w_4 ew_4 => ?_)
  have h := nmJ_at ew_4 h
  refine lv_lstore_n (lv' := [(0, .long w_4)]) hx hb dJ13_bitCount_95d88_40 rfl hl (by decide) rfl (fun ls hl => ?_)
  refine lv_lload_n hx hb dJ13_bitCount_95d88_41 rfl (lv_at hl 0 rfl) ?_
  refine lv_lload_n hx hb dJ13_bitCount_95d88_42 rfl (lv_at hl 0 rfl) ?_
  refine lv_bipush (v := 16) hx hb dJ13_bitCount_95d88_43 (by decide) ?_
  refine lv_lushr hx hb dJ13_bitCount_95d88_45 rfl ?_
  refine lv_ladd hx hb dJ13_bitCount_95d88_46 ?_
  refine lv_topl (fun w_5 ew_5 => ?_)
  have h := nmJ_at ew_5 h
  refine lv_lstore_n (lv' := [(0, .long w_5)]) hx hb dJ13_bitCount_95d88_47 rfl hl (by decide) rfl (fun ls hl => ?_)
  refine lv_lload_n hx hb dJ13_bitCount_95d88_48 rfl (lv_at hl 0 rfl) ?_
  refine lv_lload_n hx hb dJ13_bitCount_95d88_49 rfl (lv_at hl 0 rfl) ?_
  refine lv_bipush (v := 32) hx hb dJ13_bitCount_95d88_50 (by decide) ?_
  refine lv_lushr hx hb dJ13_bitCount_95d88_52 rfl ?_
  refine lv_ladd hx hb dJ13_bitCount_95d88_53 ?_
  refine lv_topl (fun w_6 ew_6 => ?_)
  have h := nmJ_at ew_6 h
  refine lv_lstore_n (lv' := [(0, .long w_6)]) hx hb dJ13_bitCount_95d88_54 rfl hl (by decide) rfl (fun ls hl => ?_)
  refine lv_lload_n hx hb dJ13_bitCount_95d88_55 rfl (lv_at hl 0 rfl) ?_
  refine lv_l2i hx hb dJ13_bitCount_95d88_56 rfl ?_
  refine lv_bipush (v := 127) hx hb dJ13_bitCount_95d88_57 (by decide) ?_
  refine lv_iand hx hb dJ13_bitCount_95d88_59 ?_
  have hx0 := Option.some.inj h
  rw [hQ]
  exact W.iret (v := w_6.toInt32 &&& 127) hx hb hr (fun t ht hW => ⟨⟨(w_6.toInt32 &&& 127), (), rfl, hx0, trivial⟩, hS.F ht⟩) hS.2.2 dJ13_bitCount_95d88_60
theorem in_X5_howMany_X5 : ∀ w ∈ wsX50, w ∈ wsX5_howMany := by decide +kernel
set_option maxHeartbeats 4000000 in
set_option maxRecDepth 100000 in
theorem c_X5_howMany (l : Launch) (D : va_G) (cI cJ : ClassId) (q : Nat → Nat) (hq : CUQ q) (F : Nat) (I : Nat → Int32) (J : Nat → Int64) (a : Nat → Nat → Int32) (b : Nat → Nat → Int64) (x0 : Int32) (h : f_X5_howMany F I J a b = some x0) : Met l yX5_howMany wsX5_howMany ({ frames := 1, cells := 0, slots := 0, locals := 21 }) (CUPc D cI cJ q I J a b [.ref (q 1)]) (va_Qi (fun (r : Int32) (u : Unit) => r = x0) (fun (u : Unit) t => va_P D vwCl (CUW cI cJ q I J a b) t.heap) (CUA q)) 0 0 (CUA q) := by
  refine mt_of (cc := cX5_howMany) (maxL := 1) (ret := (some .int)) (by decide) rfl ?_
  intro p e s m args below meth c s₁ B0 hml hv R Q hR hQ
  obtain ⟨hargs, hP, hK, hN⟩ := hv
  have hx := B0.exec
  have hb := B0.bytes
  have hr := B0.returns
  have hts := atoms_spec (ws := wsX5_howMany) B0.pre
  have hown : s.vm.findClass RX5 = some m.cls := findClass_of_methodNamed B0.named
  have hlocks := B0.notSynchronized
  have hS : va_S (CUA q) s.heap s.heap [] := va_S.rf
  have hl := lv_entry ([.ref (q 1)]) (n := 1) (Nat.le_of_ble_eq_true rfl)
  rw [hargs, lg_entry_eq]
  rw [← hargs]
  generalize (lg_sl ([.ref (q 1)]) ++ List.replicate (1 - (lg_sl ([.ref (q 1)])).length) Slot.unset).toArray = ls at hl ⊢
  have hl : lv_has ls 1 [(0, .ref (q 1))] := hl
  unfold f_X5_howMany at h
  refine lv_aload_n hx hb dX5_howMany_0 rfl (lv_at hl 0 rfl) ?_
  refine va_get (D := D) (ci := 5) (v := .long (J 0)) (C := RX5) (T := TX5) (N := 9) hx hb hts in_X5_howMany_X5 hown hK hP 1 rfl rfl 2 (by decide) (hts (.fieldLink RX5 28 "LearnedReasons$Things" "standing" "J") (by decide +kernel)) (fun _ h9 => h9) rfl dX5_howMany_1 ?_
  obtain ⟨x_1, hx_1, h⟩ := ob_some h
  refine va_calli (va_runS (As := [.long (J 0)]) (rest := []) ⟨hx, hb, hml, hown, hts⟩ (c_J13_bitCount_95d88 l F (J 0) x_1 hx_1) (va_cwS 1 hts gX5_howMany_J13_bitCount_95d88 rfl rfl rfl (by decide +kernel) (by rw [hR]; exact ⟨Nat.le_of_ble_eq_true rfl, Nat.le_of_ble_eq_true rfl⟩)) ⟨fun _ _ _ _ h => h, fun U hU hW => ⟨rfl, trivial⟩⟩ rfl rfl hl.1 rfl (lv_room (Nat.le_of_ble_eq_true rfl)) dX5_howMany_4 ⟨Nat.zero_le _, Nat.zero_le _⟩) hS (fun _ _ h => h.elim) (fun _ h => h.elim) (fun r u t H1 locs ht hvm hw hB hz1 hk1 hS => ?_)
  obtain rfl := hw.symm
  have hP := hP.kept (fun k x hx => hk1 x.1 (hP k x hx).lt (fun h => h))
  clear hB hz1 hk1 ht hvm
  generalize H1 = H at hP hS ⊢
  have hx0 := Option.some.inj h
  rw [hQ]
  exact W.iret (v := x_1) hx hb hr (fun t ht hW => ⟨⟨x_1, (), rfl, hx0, by show va_P _ _ _ t.heap; rw [ht]; exact hP⟩, hS.F ht⟩) hS.2.2 dX5_howMany_7
theorem in_X6_drop_X6 : ∀ w ∈ wsX60, w ∈ wsX6_drop := by decide +kernel
set_option maxHeartbeats 4000000 in
set_option maxRecDepth 100000 in
theorem c_X6_drop (l : Launch) (D : va_G) (cI cJ : ClassId) (q : Nat → Nat) (hq : CUQ q) (F : Nat) (I : Nat → Int32) (J : Nat → Int64) (a : Nat → Nat → Int32) (b : Nat → Nat → Int64) (v1 : Int32) (x0 : Int32 × Int32 × Int32 × Int32 × Int32 × Int64) (h : f_X6_drop F I J a b v1 = some x0) : Met l yX6_drop wsX6_drop ({ frames := 2, cells := 0, slots := 0, locals := 41 }) (CUPc D cI cJ q I J a b [.ref (q 0), .int v1]) (va_Qi (fun (r : Int32) (u : Int32 × Int32 × Int32 × Int32 × Int64) => r = x0.1 ∧ u = x0.2) (fun (u : Int32 × Int32 × Int32 × Int32 × Int64) t => va_P D vwCl (CUW cI cJ q (fu (fu (fu (fu I 6 u.1) 11 u.2.1) 17 u.2.2.1) 18 u.2.2.2.1) (fu J 0 u.2.2.2.2) a b) t.heap) (CUA q)) 0 0 (CUA q) := by
  refine mt_of (cc := cX6_drop) (maxL := 2) (ret := (some .int)) (by decide) rfl ?_
  intro p e s m args below meth c s₁ B0 hml hv R Q hR hQ
  obtain ⟨hargs, hP, hK, hN⟩ := hv
  have hx := B0.exec
  have hb := B0.bytes
  have hr := B0.returns
  have hts := atoms_spec (ws := wsX6_drop) B0.pre
  have hown : s.vm.findClass RX6 = some m.cls := findClass_of_methodNamed B0.named
  have hlocks := B0.notSynchronized
  have hS : va_S (CUA q) s.heap s.heap [] := va_S.rf
  have hl := lv_entry ([.ref (q 0), .int v1]) (n := 2) (Nat.le_of_ble_eq_true rfl)
  rw [hargs, lg_entry_eq]
  rw [← hargs]
  generalize (lg_sl ([.ref (q 0), .int v1]) ++ List.replicate (2 - (lg_sl ([.ref (q 0), .int v1])).length) Slot.unset).toArray = ls at hl ⊢
  have hl : lv_has ls 2 [(0, .ref (q 0)), (1, .int v1)] := hl
  unfold f_X6_drop at h
  refine lv_aload_n hx hb dX6_drop_0 rfl (lv_at hl 0 rfl) ?_
  refine va_get (D := D) (ci := 6) (v := .ref (q 1)) (C := RX6) (T := TX6) (N := 9) hx hb hts in_X6_drop_X6 hown hK hP 0 rfl rfl 0 (by decide) (hts (.fieldLink RX6 10 "LearnedReasons" "things" "LLearnedReasons$Things;") (by decide +kernel)) (fun _ h9 => h9) rfl dX6_drop_1 ?_
  refine lv_iload_n hx hb dX6_drop_4 rfl (lv_at hl 1 rfl) ?_
  obtain ⟨x_1, hx_1, h⟩ := ob_some h
  refine va_calli (va_runV (As := [.int v1]) (rest := []) ⟨hx, hb, hml, hown, hts⟩ (c_X5_stands l D cI cJ q hq F I J a b v1 x_1 hx_1) (cwV 1 hts gX6_drop_X5_stands rfl rfl rfl (by decide +kernel) (by rw [hR]; exact ⟨Nat.le_of_ble_eq_true rfl, Nat.le_of_ble_eq_true rfl⟩)) ⟨CUPc_blind, va_recv hK hP (ci := 5) (q0 := 1) rfl rfl, fun U hU hW => ⟨rfl, by rw [hU]; exact hP, va_K.moved hW.alike hK, va_Nw.warmM hW hN⟩⟩ rfl rfl hl.1 rfl (lv_room (Nat.le_of_ble_eq_true rfl)) dX6_drop_5 ⟨Nat.zero_le _, Nat.zero_le _⟩) hS (fun _ _ h => h) (fun _ h => h) (fun r u t H1 locs ht hvm hw hB hz1 hk1 hS => ?_)
  obtain rfl := hw.symm
  rw [ht] at hB
  have hP : va_P D vwCl (CUW cI cJ q I J a b) H1 := hB
  clear hB hz1 hk1 ht hvm
  generalize H1 = H at hP hS ⊢
  refine lv_if_ne (tgt := 13) hx hb dX6_drop_8 (by decide) (fun c_2 => ?_) (fun c_2 => ?_)
  · have h := if_f c_2 h
    refine lv_aload_n hx hb dX6_drop_13 rfl (lv_at hl 0 rfl) ?_
    obtain ⟨x_3, hx_3, h⟩ := ob_some h
    refine va_callv (va_runV (As := []) (rest := []) ⟨hx, hb, hml, hown, hts⟩ (c_X6_outdate l D cI cJ q hq F I J a b x_3 hx_3) (cwV 0 hts gX6_drop_X6_outdate rfl rfl rfl (by decide +kernel) (by rw [hR]; exact ⟨Nat.le_of_ble_eq_true rfl, Nat.le_of_ble_eq_true rfl⟩)) ⟨CUPc_blind, va_recv hK hP (ci := 6) (q0 := 0) rfl rfl, fun U hU hW => ⟨rfl, by rw [hU]; exact hP, va_K.moved hW.alike hK, va_Nw.warmM hW hN⟩⟩ rfl rfl hl.1 rfl (lv_room (Nat.le_of_ble_eq_true rfl)) dX6_drop_14 ⟨Nat.zero_le _, Nat.zero_le _⟩) hS (fun _ _ h => h) (fun _ h => h) (fun u t H1 locs ht hvm hw hB hz1 hk1 hS => ?_)
    obtain rfl := hw.symm
    rw [ht] at hB
    have hP : va_P D vwCl (CUW cI cJ q (fu (fu (fu (fu I 6 x_3.1) 11 x_3.2.1) 17 x_3.2.2.1) 18 x_3.2.2.2) J a b) H1 := hB
    clear hB hz1 hk1 ht hvm
    generalize H1 = H at hP hS ⊢
    refine lv_aload_n hx hb dX6_drop_17 rfl (lv_at hl 0 rfl) ?_
    refine va_get (D := D) (ci := 6) (v := .ref (q 1)) (C := RX6) (T := TX6) (N := 9) hx hb hts in_X6_drop_X6 hown hK hP 0 rfl rfl 0 (by decide) (hts (.fieldLink RX6 10 "LearnedReasons" "things" "LLearnedReasons$Things;") (by decide +kernel)) (fun _ h9 => h9) rfl dX6_drop_18 ?_
    refine lv_iload_n hx hb dX6_drop_21 rfl (lv_at hl 1 rfl) ?_
    obtain ⟨x_4, hx_4, h⟩ := ob_some h
    refine va_callv (va_runV (As := [.int v1]) (rest := []) ⟨hx, hb, hml, hown, hts⟩ (c_X5_remove l D cI cJ q hq F (fu (fu (fu (fu I 6 x_3.1) 11 x_3.2.1) 17 x_3.2.2.1) 18 x_3.2.2.2) J a b v1 x_4 hx_4) (cwV 1 hts gX6_drop_X5_remove rfl rfl rfl (by decide +kernel) (by rw [hR]; exact ⟨Nat.le_of_ble_eq_true rfl, Nat.le_of_ble_eq_true rfl⟩)) ⟨CUPc_blind, va_recv hK hP (ci := 5) (q0 := 1) rfl rfl, fun U hU hW => ⟨rfl, by rw [hU]; exact hP, va_K.moved hW.alike hK, va_Nw.warmM hW hN⟩⟩ rfl rfl hl.1 rfl (lv_room (Nat.le_of_ble_eq_true rfl)) dX6_drop_22 ⟨Nat.zero_le _, Nat.zero_le _⟩) hS (fun _ _ h => h) (fun _ h => h) (fun u t H1 locs ht hvm hw hB hz1 hk1 hS => ?_)
    obtain rfl := hw.symm
    rw [ht] at hB
    have hP : va_P D vwCl (CUW cI cJ q (fu (fu (fu (fu I 6 x_3.1) 11 x_3.2.1) 17 x_3.2.2.1) 18 x_3.2.2.2) (fu J 0 x_4) a b) H1 := hB
    clear hB hz1 hk1 ht hvm
    generalize H1 = H at hP hS ⊢
    refine lv_aload_n hx hb dX6_drop_25 rfl (lv_at hl 0 rfl) ?_
    refine va_get (D := D) (ci := 6) (v := .ref (q 1)) (C := RX6) (T := TX6) (N := 9) hx hb hts in_X6_drop_X6 hown hK hP 0 rfl rfl 0 (by decide) (hts (.fieldLink RX6 10 "LearnedReasons" "things" "LLearnedReasons$Things;") (by decide +kernel)) (fun _ h9 => h9) rfl dX6_drop_26 ?_
    obtain ⟨x_5, hx_5, h⟩ := ob_some h
    refine va_calli (va_runV (As := []) (rest := []) ⟨hx, hb, hml, hown, hts⟩ (c_X5_howMany l D cI cJ q hq F (fu (fu (fu (fu I 6 x_3.1) 11 x_3.2.1) 17 x_3.2.2.1) 18 x_3.2.2.2) (fu J 0 x_4) a b x_5 hx_5) (cwV 0 hts gX6_drop_X5_howMany rfl rfl rfl (by decide +kernel) (by rw [hR]; exact ⟨Nat.le_of_ble_eq_true rfl, Nat.le_of_ble_eq_true rfl⟩)) ⟨CUPc_blind, va_recv hK hP (ci := 5) (q0 := 1) rfl rfl, fun U hU hW => ⟨rfl, by rw [hU]; exact hP, va_K.moved hW.alike hK, va_Nw.warmM hW hN⟩⟩ rfl rfl hl.1 rfl (lv_room (Nat.le_of_ble_eq_true rfl)) dX6_drop_29 ⟨Nat.zero_le _, Nat.zero_le _⟩) hS (fun _ _ h => h) (fun _ h => h) (fun r u t H1 locs ht hvm hw hB hz1 hk1 hS => ?_)
    obtain rfl := hw.symm
    rw [ht] at hB
    have hP : va_P D vwCl (CUW cI cJ q (fu (fu (fu (fu I 6 x_3.1) 11 x_3.2.1) 17 x_3.2.2.1) 18 x_3.2.2.2) (fu J 0 x_4) a b) H1 := hB
    clear hB hz1 hk1 ht hvm
    generalize H1 = H at hP hS ⊢
    have hx0 := Option.some.inj h
    rw [hQ]
    exact W.iret (v := x_5) hx hb hr (fun t ht hW => ⟨⟨x_5, (x_3.1, x_3.2.1, x_3.2.2.1, x_3.2.2.2, x_4), rfl, ⟨congrArg (fun z => z.1) hx0, congrArg (fun z => z.2) hx0⟩, by show va_P _ _ _ t.heap; rw [ht]; exact hP⟩, hS.F ht⟩) hS.2.2 dX6_drop_32
  · have h := if_t c_2 h
    refine lv_iconst (v := (-1)) hx hb dX6_drop_11 (by decide) ?_
    have hx0 := Option.some.inj h
    rw [hQ]
    exact W.iret (v := (-1)) hx hb hr (fun t ht hW => ⟨⟨(-1), ((I 6), (I 11), (I 17), (I 18), (J 0)), rfl, ⟨congrArg (fun z => z.1) hx0, congrArg (fun z => z.2) hx0⟩, by show va_P _ _ _ t.heap; rw [ht]; exact hP⟩, hS.F ht⟩) hS.2.2 dX6_drop_12
theorem in_X3_setCost_X3 : ∀ w ∈ wsX30, w ∈ wsX3_setCost := by decide +kernel
set_option maxHeartbeats 4000000 in
set_option maxRecDepth 100000 in
theorem c_X3_setCost (l : Launch) (D : va_G) (cI cJ : ClassId) (q : Nat → Nat) (hq : CUQ q) (F : Nat) (I : Nat → Int32) (J : Nat → Int64) (a : Nat → Nat → Int32) (b : Nat → Nat → Int64) (v1 : Int32) (v2 : Int32) (x0 : Int32 × (Nat → Int32)) (h : f_X3_setCost F I J a b v1 v2 = some x0) : Met l yX3_setCost wsX3_setCost ({ frames := 0, cells := 0, slots := 0, locals := 0 }) (CUPc D cI cJ q I J a b [.ref (q 6), .int v1, .int v2]) (va_Qv (fun (u : Int32 × (Nat → Int32)) => u = x0) (fun (u : Int32 × (Nat → Int32)) t => va_P D vwCl (CUW cI cJ q (fu I 17 u.1) J (fu a 8 u.2) b) t.heap) (CUA q)) 0 0 (CUA q) := by
  refine mt_of (cc := cX3_setCost) (maxL := 3) (ret := none) (by decide) rfl ?_
  intro p e s m args below meth c s₁ B0 hml hv R Q hR hQ
  obtain ⟨hargs, hP, hK, hN⟩ := hv
  have hx := B0.exec
  have hb := B0.bytes
  have hr := B0.returns
  have hts := atoms_spec (ws := wsX3_setCost) B0.pre
  have hown : s.vm.findClass RX3 = some m.cls := findClass_of_methodNamed B0.named
  have hlocks := B0.notSynchronized
  have hS : va_S (CUA q) s.heap s.heap [] := va_S.rf
  have hl := lv_entry ([.ref (q 6), .int v1, .int v2]) (n := 3) (Nat.le_of_ble_eq_true rfl)
  rw [hargs, lg_entry_eq]
  rw [← hargs]
  generalize (lg_sl ([.ref (q 6), .int v1, .int v2]) ++ List.replicate (3 - (lg_sl ([.ref (q 6), .int v1, .int v2])).length) Slot.unset).toArray = ls at hl ⊢
  have hl : lv_has ls 3 [(0, .ref (q 6)), (1, .int v1), (2, .int v2)] := hl
  unfold f_X3_setCost at h
  refine lv_aload_n hx hb dX3_setCost_0 rfl (lv_at hl 0 rfl) ?_
  refine va_get (D := D) (ci := 3) (v := .ref (q 16)) (C := RX3) (T := TX3) (N := 13) hx hb hts in_X3_setCost_X3 hown hK hP 6 rfl rfl 2 (by decide) (hts (.fieldLink RX3 15 "LearnedReasons$Models" "costs" "[I") (by decide +kernel)) (fun _ h9 => h9) rfl dX3_setCost_1 ?_
  refine lv_iload_n hx hb dX3_setCost_4 rfl (lv_at hl 1 rfl) ?_
  refine lv_iload_n hx hb dX3_setCost_5 rfl (lv_at hl 2 rfl) ?_
  obtain ⟨g_1, h⟩ := gd_some h
  refine va_iast hx hb hK hP (CUW_D hq) hS 16 0 rfl rfl g_1 dX3_setCost_6 (fun H locs hP _ hS => ?_)
  have hP : va_P D vwCl (CUW cI cJ q I J (fu a 8 (upd (a 8) v1.toNatClampNeg v2)) b) H := hP
  refine lv_aload_n hx hb dX3_setCost_7 rfl (lv_at hl 0 rfl) ?_
  refine lv_iconst (v := 0) hx hb dX3_setCost_8 (by decide) ?_
  refine va_put (D := D) (ci := 3) (v := .int 0) (ty := .boolean) (C := RX3) (T := TX3) (N := 13) hx hb hts in_X3_setCost_X3 tyX3 tyX3_ok nmX3 hown hK hP (CUW_D hq) hS 6 rfl rfl 5 (by decide) (hts (.fieldLink RX3 29 "LearnedReasons$Models" "isCounted" "Z") (by decide +kernel)) (fun _ h9 => h9) rfl (by decide +kernel) rfl rfl (Nat.le_of_ble_eq_true rfl) dX3_setCost_9 (fun H locs hP _ hS => ?_)
  have hP : va_P D vwCl (CUW cI cJ q (fu I 17 0) J (fu a 8 (upd (a 8) v1.toNatClampNeg v2)) b) H := hP
  have hx0 := Option.some.inj h
  rw [hQ]
  exact W.vret hx hb hr (fun t ht hW => ⟨⟨(0, (upd (a 8) v1.toNatClampNeg v2)), rfl, hx0, by show va_P _ _ _ t.heap; rw [ht]; exact hP⟩, hS.F ht⟩) hS.2.2 dX3_setCost_12
theorem in_X6_cost_X6 : ∀ w ∈ wsX60, w ∈ wsX6_cost := by decide +kernel
set_option maxHeartbeats 4000000 in
set_option maxRecDepth 100000 in
theorem c_X6_cost (l : Launch) (D : va_G) (cI cJ : ClassId) (q : Nat → Nat) (hq : CUQ q) (F : Nat) (I : Nat → Int32) (J : Nat → Int64) (a : Nat → Nat → Int32) (b : Nat → Nat → Int64) (v1 : Int32) (v2 : Int32) (x0 : Int32 × Int32 × (Nat → Int32)) (h : f_X6_cost F I J a b v1 v2 = some x0) : Met l yX6_cost wsX6_cost ({ frames := 1, cells := 0, slots := 0, locals := 22 }) (CUPc D cI cJ q I J a b [.ref (q 0), .int v1, .int v2]) (va_Qi (fun (r : Int32) (u : Int32 × (Nat → Int32)) => r = x0.1 ∧ u = x0.2) (fun (u : Int32 × (Nat → Int32)) t => va_P D vwCl (CUW cI cJ q (fu I 17 u.1) J (fu a 8 u.2) b) t.heap) (CUA q)) 0 0 (CUA q) := by
  refine mt_of (cc := cX6_cost) (maxL := 3) (ret := (some .int)) (by decide) rfl ?_
  intro p e s m args below meth c s₁ B0 hml hv R Q hR hQ
  obtain ⟨hargs, hP, hK, hN⟩ := hv
  have hx := B0.exec
  have hb := B0.bytes
  have hr := B0.returns
  have hts := atoms_spec (ws := wsX6_cost) B0.pre
  have hown : s.vm.findClass RX6 = some m.cls := findClass_of_methodNamed B0.named
  have hlocks := B0.notSynchronized
  have hS : va_S (CUA q) s.heap s.heap [] := va_S.rf
  have hl := lv_entry ([.ref (q 0), .int v1, .int v2]) (n := 3) (Nat.le_of_ble_eq_true rfl)
  rw [hargs, lg_entry_eq]
  rw [← hargs]
  generalize (lg_sl ([.ref (q 0), .int v1, .int v2]) ++ List.replicate (3 - (lg_sl ([.ref (q 0), .int v1, .int v2])).length) Slot.unset).toArray = ls at hl ⊢
  have hl : lv_has ls 3 [(0, .ref (q 0)), (1, .int v1), (2, .int v2)] := hl
  unfold f_X6_cost at h
  refine lv_aload_n hx hb dX6_cost_0 rfl (lv_at hl 0 rfl) ?_
  refine va_get (D := D) (ci := 6) (v := .ref (q 1)) (C := RX6) (T := TX6) (N := 9) hx hb hts in_X6_cost_X6 hown hK hP 0 rfl rfl 0 (by decide) (hts (.fieldLink RX6 10 "LearnedReasons" "things" "LLearnedReasons$Things;") (by decide +kernel)) (fun _ h9 => h9) rfl dX6_cost_1 ?_
  refine lv_iload_n hx hb dX6_cost_4 rfl (lv_at hl 1 rfl) ?_
  obtain ⟨x_1, hx_1, h⟩ := ob_some h
  refine va_calli (va_runV (As := [.int v1]) (rest := []) ⟨hx, hb, hml, hown, hts⟩ (c_X5_isName l D cI cJ q hq F I J a b v1 x_1 hx_1) (cwV 1 hts gX6_cost_X5_isName rfl rfl rfl (by decide +kernel) (by rw [hR]; exact ⟨Nat.le_of_ble_eq_true rfl, Nat.le_of_ble_eq_true rfl⟩)) ⟨CUPc_blind, va_recv hK hP (ci := 5) (q0 := 1) rfl rfl, fun U hU hW => ⟨rfl, by rw [hU]; exact hP, va_K.moved hW.alike hK, va_Nw.warmM hW hN⟩⟩ rfl rfl hl.1 rfl (lv_room (Nat.le_of_ble_eq_true rfl)) dX6_cost_5 ⟨Nat.zero_le _, Nat.zero_le _⟩) hS (fun _ _ h => h) (fun _ h => h) (fun r u t H1 locs ht hvm hw hB hz1 hk1 hS => ?_)
  obtain rfl := hw.symm
  rw [ht] at hB
  have hP : va_P D vwCl (CUW cI cJ q I J a b) H1 := hB
  clear hB hz1 hk1 ht hvm
  generalize H1 = H at hP hS ⊢
  refine lv_if_ne (tgt := 13) hx hb dX6_cost_8 (by decide) (fun c_2 => ?_) (fun c_2 => ?_)
  · have h := if_f c_2 h
    refine lv_iload_n hx hb dX6_cost_13 rfl (lv_at hl 2 rfl) ?_
    refine lv_bipush (v := 50) hx hb dX6_cost_14 (by decide) ?_
    obtain ⟨x_3, hx_3, h⟩ := ob_some h
    refine va_calli (va_runS (As := [.int v2, .int 50]) (rest := []) ⟨hx, hb, hml, hown, hts⟩ (c_X6_isOutside l F v2 50 x_3 hx_3) (va_cwS 2 hts gX6_cost_X6_isOutside rfl rfl rfl (by decide +kernel) (by rw [hR]; exact ⟨Nat.le_of_ble_eq_true rfl, Nat.le_of_ble_eq_true rfl⟩)) ⟨fun _ _ _ _ h => h, fun U hU hW => ⟨rfl, trivial⟩⟩ rfl rfl hl.1 rfl (lv_room (Nat.le_of_ble_eq_true rfl)) dX6_cost_16 ⟨Nat.zero_le _, Nat.zero_le _⟩) hS (fun _ _ h => h.elim) (fun _ h => h.elim) (fun r u t H1 locs ht hvm hw hB hz1 hk1 hS => ?_)
    obtain rfl := hw.symm
    have hP := hP.kept (fun k x hx => hk1 x.1 (hP k x hx).lt (fun h => h))
    clear hB hz1 hk1 ht hvm
    generalize H1 = H at hP hS ⊢
    refine lv_if_eq (tgt := 25) hx hb dX6_cost_19 (by decide) (fun c_4 => ?_) (fun c_4 => ?_)
    · have h := if_t c_4 h
      refine lv_aload_n hx hb dX6_cost_25 rfl (lv_at hl 0 rfl) ?_
      refine va_get (D := D) (ci := 6) (v := .ref (q 6)) (C := RX6) (T := TX6) (N := 9) hx hb hts in_X6_cost_X6 hown hK hP 0 rfl rfl 4 (by decide) (hts (.fieldLink RX6 49 "LearnedReasons" "models" "LLearnedReasons$Models;") (by decide +kernel)) (fun _ h9 => h9) rfl dX6_cost_26 ?_
      refine lv_iload_n hx hb dX6_cost_29 rfl (lv_at hl 1 rfl) ?_
      refine lv_iload_n hx hb dX6_cost_30 rfl (lv_at hl 2 rfl) ?_
      obtain ⟨x_5, hx_5, h⟩ := ob_some h
      refine va_callv (va_runV (As := [.int v1, .int v2]) (rest := []) ⟨hx, hb, hml, hown, hts⟩ (c_X3_setCost l D cI cJ q hq F I J a b v1 v2 x_5 hx_5) (cwV 2 hts gX6_cost_X3_setCost rfl rfl rfl (by decide +kernel) (by rw [hR]; exact ⟨Nat.le_of_ble_eq_true rfl, Nat.le_of_ble_eq_true rfl⟩)) ⟨CUPc_blind, va_recv hK hP (ci := 3) (q0 := 6) rfl rfl, fun U hU hW => ⟨rfl, by rw [hU]; exact hP, va_K.moved hW.alike hK, va_Nw.warmM hW hN⟩⟩ rfl rfl hl.1 rfl (lv_room (Nat.le_of_ble_eq_true rfl)) dX6_cost_31 ⟨Nat.zero_le _, Nat.zero_le _⟩) hS (fun _ _ h => h) (fun _ h => h) (fun u t H1 locs ht hvm hw hB hz1 hk1 hS => ?_)
      obtain rfl := hw.symm
      rw [ht] at hB
      have hP : va_P D vwCl (CUW cI cJ q (fu I 17 x_5.1) J (fu a 8 x_5.2) b) H1 := hB
      clear hB hz1 hk1 ht hvm
      generalize H1 = H at hP hS ⊢
      refine lv_iconst (v := 1) hx hb dX6_cost_34 (by decide) ?_
      have hx0 := Option.some.inj h
      rw [hQ]
      exact W.iret (v := 1) hx hb hr (fun t ht hW => ⟨⟨1, (x_5.1, x_5.2), rfl, ⟨congrArg (fun z => z.1) hx0, congrArg (fun z => z.2) hx0⟩, by show va_P _ _ _ t.heap; rw [ht]; exact hP⟩, hS.F ht⟩) hS.2.2 dX6_cost_35
    · have h := if_f c_4 h
      refine lv_bipush (v := (-2)) hx hb dX6_cost_22 (by decide) ?_
      have hx0 := Option.some.inj h
      rw [hQ]
      exact W.iret (v := (-2)) hx hb hr (fun t ht hW => ⟨⟨(-2), ((I 17), (a 8)), rfl, ⟨congrArg (fun z => z.1) hx0, congrArg (fun z => z.2) hx0⟩, by show va_P _ _ _ t.heap; rw [ht]; exact hP⟩, hS.F ht⟩) hS.2.2 dX6_cost_24
  · have h := if_t c_2 h
    refine lv_iconst (v := (-1)) hx hb dX6_cost_11 (by decide) ?_
    have hx0 := Option.some.inj h
    rw [hQ]
    exact W.iret (v := (-1)) hx hb hr (fun t ht hW => ⟨⟨(-1), ((I 17), (a 8)), rfl, ⟨congrArg (fun z => z.1) hx0, congrArg (fun z => z.2) hx0⟩, by show va_P _ _ _ t.heap; rw [ht]; exact hP⟩, hS.F ht⟩) hS.2.2 dX6_cost_12
theorem in_X5_removeAll_X5 : ∀ w ∈ wsX50, w ∈ wsX5_removeAll := by decide +kernel
set_option maxHeartbeats 4000000 in
set_option maxRecDepth 100000 in
theorem c_X5_removeAll (l : Launch) (D : va_G) (cI cJ : ClassId) (q : Nat → Nat) (hq : CUQ q) (F : Nat) (I : Nat → Int32) (J : Nat → Int64) (a : Nat → Nat → Int32) (b : Nat → Nat → Int64) (x0 : Int32 × Int32 × Int64 × Int64 × Int64) (h : f_X5_removeAll F I J a b = some x0) : Met l yX5_removeAll wsX5_removeAll ({ frames := 0, cells := 0, slots := 0, locals := 0 }) (CUPc D cI cJ q I J a b [.ref (q 1)]) (va_Qv (fun (u : Int32 × Int32 × Int64 × Int64 × Int64) => u = x0) (fun (u : Int32 × Int32 × Int64 × Int64 × Int64) t => va_P D vwCl (CUW cI cJ q (fu (fu I 4 u.1) 5 u.2.1) (fu (fu (fu J 0 u.2.2.1) 1 u.2.2.2.1) 2 u.2.2.2.2) a b) t.heap) (CUA q)) 0 0 (CUA q) := by
  refine mt_of (cc := cX5_removeAll) (maxL := 1) (ret := none) (by decide) rfl ?_
  intro p e s m args below meth c s₁ B0 hml hv R Q hR hQ
  obtain ⟨hargs, hP, hK, hN⟩ := hv
  have hx := B0.exec
  have hb := B0.bytes
  have hr := B0.returns
  have hts := atoms_spec (ws := wsX5_removeAll) B0.pre
  have hown : s.vm.findClass RX5 = some m.cls := findClass_of_methodNamed B0.named
  have hlocks := B0.notSynchronized
  have hS : va_S (CUA q) s.heap s.heap [] := va_S.rf
  have hl := lv_entry ([.ref (q 1)]) (n := 1) (Nat.le_of_ble_eq_true rfl)
  rw [hargs, lg_entry_eq]
  rw [← hargs]
  generalize (lg_sl ([.ref (q 1)]) ++ List.replicate (1 - (lg_sl ([.ref (q 1)])).length) Slot.unset).toArray = ls at hl ⊢
  have hl : lv_has ls 1 [(0, .ref (q 1))] := hl
  unfold f_X5_removeAll at h
  refine lv_aload_n hx hb dX5_removeAll_0 rfl (lv_at hl 0 rfl) ?_
  refine lv_iconst (v := 0) hx hb dX5_removeAll_1 (by decide) ?_
  refine va_put (D := D) (ci := 5) (v := .int 0) (ty := .int) (C := RX5) (T := TX5) (N := 9) hx hb hts in_X5_removeAll_X5 tyX5 tyX5_ok nmX5 hown hK hP (CUW_D hq) hS 1 rfl rfl 0 (by decide) (hts (.fieldLink RX5 24 "LearnedReasons$Things" "names" "I") (by decide +kernel)) (fun _ h9 => h9) rfl (by decide +kernel) rfl rfl (Nat.le_of_ble_eq_true rfl) dX5_removeAll_2 (fun H locs hP _ hS => ?_)
  have hP : va_P D vwCl (CUW cI cJ q (fu I 4 0) J a b) H := hP
  refine lv_aload_n hx hb dX5_removeAll_5 rfl (lv_at hl 0 rfl) ?_
  refine lv_iconst (v := 0) hx hb dX5_removeAll_6 (by decide) ?_
  refine va_put (D := D) (ci := 5) (v := .int 0) (ty := .int) (C := RX5) (T := TX5) (N := 9) hx hb hts in_X5_removeAll_X5 tyX5 tyX5_ok nmX5 hown hK hP (CUW_D hq) hS 1 rfl rfl 1 (by decide) (hts (.fieldLink RX5 35 "LearnedReasons$Things" "numbersGiven" "I") (by decide +kernel)) (fun _ h9 => h9) rfl (by decide +kernel) rfl rfl (Nat.le_of_ble_eq_true rfl) dX5_removeAll_7 (fun H locs hP _ hS => ?_)
  have hP : va_P D vwCl (CUW cI cJ q (fu (fu I 4 0) 5 0) J a b) H := hP
  refine lv_aload_n hx hb dX5_removeAll_10 rfl (lv_at hl 0 rfl) ?_
  refine lv_lconst (v := 0) hx hb dX5_removeAll_11 (by decide) ?_
  refine va_put (D := D) (ci := 5) (v := .long 0) (ty := .long) (C := RX5) (T := TX5) (N := 9) hx hb hts in_X5_removeAll_X5 tyX5 tyX5_ok nmX5 hown hK hP (CUW_D hq) hS 1 rfl rfl 2 (by decide) (hts (.fieldLink RX5 28 "LearnedReasons$Things" "standing" "J") (by decide +kernel)) (fun _ h9 => h9) rfl (by decide +kernel) rfl rfl (Nat.le_of_ble_eq_true rfl) dX5_removeAll_12 (fun H locs hP _ hS => ?_)
  have hP : va_P D vwCl (CUW cI cJ q (fu (fu I 4 0) 5 0) (fu J 0 0) a b) H := hP
  refine lv_aload_n hx hb dX5_removeAll_15 rfl (lv_at hl 0 rfl) ?_
  refine lv_lconst (v := 0) hx hb dX5_removeAll_16 (by decide) ?_
  refine va_put (D := D) (ci := 5) (v := .long 0) (ty := .long) (C := RX5) (T := TX5) (N := 9) hx hb hts in_X5_removeAll_X5 tyX5 tyX5_ok nmX5 hown hK hP (CUW_D hq) hS 1 rfl rfl 3 (by decide) (hts (.fieldLink RX5 42 "LearnedReasons$Things" "rows" "J") (by decide +kernel)) (fun _ h9 => h9) rfl (by decide +kernel) rfl rfl (Nat.le_of_ble_eq_true rfl) dX5_removeAll_17 (fun H locs hP _ hS => ?_)
  have hP : va_P D vwCl (CUW cI cJ q (fu (fu I 4 0) 5 0) (fu (fu J 0 0) 1 0) a b) H := hP
  refine lv_aload_n hx hb dX5_removeAll_20 rfl (lv_at hl 0 rfl) ?_
  refine lv_lconst (v := 0) hx hb dX5_removeAll_21 (by decide) ?_
  refine va_put (D := D) (ci := 5) (v := .long 0) (ty := .long) (C := RX5) (T := TX5) (N := 9) hx hb hts in_X5_removeAll_X5 tyX5 tyX5_ok nmX5 hown hK hP (CUW_D hq) hS 1 rfl rfl 4 (by decide) (hts (.fieldLink RX5 32 "LearnedReasons$Things" "unread" "J") (by decide +kernel)) (fun _ h9 => h9) rfl (by decide +kernel) rfl rfl (Nat.le_of_ble_eq_true rfl) dX5_removeAll_22 (fun H locs hP _ hS => ?_)
  have hP : va_P D vwCl (CUW cI cJ q (fu (fu I 4 0) 5 0) (fu (fu (fu J 0 0) 1 0) 2 0) a b) H := hP
  have hx0 := Option.some.inj h
  rw [hQ]
  exact W.vret hx hb hr (fun t ht hW => ⟨⟨(0, 0, 0, 0, 0), rfl, hx0, by show va_P _ _ _ t.heap; rw [ht]; exact hP⟩, hS.F ht⟩) hS.2.2 dX5_removeAll_25
set_option maxHeartbeats 4000000 in
set_option maxRecDepth 100000 in
theorem c_J7_fill_53178_c16 (l : Launch) (D : va_G) (cI cJ : ClassId) (q : Nat → Nat) (hq : CUQ q) (F : Nat) (I : Nat → Int32) (J : Nat → Int64) (a : Nat → Nat → Int32) (b : Nat → Nat → Int64) (v1 : Int32) (x0 : (Nat → Int32)) (h : f_J7_fill_53178_c16 F I J a b v1 = some x0) : Met l yJ7_fill_53178 wsJ7_fill_53178 ({ frames := 0, cells := 0, slots := 0, locals := 0 }) (CUPc D cI cJ q I J a b [.ref (q 16), .int v1]) (va_Qv (fun (u : (Nat → Int32)) => u = x0) (fun (u : (Nat → Int32)) t => va_P D vwCl (CUW cI cJ q I J (fu a 8 u) b) t.heap) (CUA q)) 0 0 (CUA q) := by
  refine mt_of (cc := cJ7_fill_53178) (maxL := 4) (ret := none) (by decide) rfl ?_
  intro p e s m args below meth c s₁ B0 hml hv R Q hR hQ
  obtain ⟨hargs, hP, hK, hN⟩ := hv
  have hx := B0.exec
  have hb := B0.bytes
  have hr := B0.returns
  have hts := atoms_spec (ws := wsJ7_fill_53178) B0.pre
  have hown : s.vm.findClass RJ7 = some m.cls := findClass_of_methodNamed B0.named
  have hlocks := B0.notSynchronized
  have hS : va_S (CUA q) s.heap s.heap [] := va_S.rf
  have hl := lv_entry ([.ref (q 16), .int v1]) (n := 4) (Nat.le_of_ble_eq_true rfl)
  rw [hargs, lg_entry_eq]
  rw [← hargs]
  generalize (lg_sl ([.ref (q 16), .int v1]) ++ List.replicate (4 - (lg_sl ([.ref (q 16), .int v1])).length) Slot.unset).toArray = ls at hl ⊢
  have hl : lv_has ls 4 [(0, .ref (q 16)), (1, .int v1)] := hl
  unfold f_J7_fill_53178_c16 at h
  have C5 : ∀ (n5 : Nat) (v1 : Int32) (v2 : Int32) (v3 : Int32) (a8 : Nat → Int32), k_J7_fill_53178_c16_5 F I J a b n5 v1 v2 v3 a8 = some x0 → ∀ (H : Heap) (locs : List Loc), va_P D vwCl (CUW cI cJ q I J (fu a 8 a8) b) H → va_S (CUA q) s.heap H locs → ∀ ls : Array Slot, lv_has ls 4 [(0, .ref (q 16)), (1, .int v1), (2, .int v2), (3, .int v3)] → W p l e R s m args below meth c H locs 0 0 Q (F0 m 5 ls []) := by
    intro n5
    induction n5 with
    | zero => intro v1 v2 v3 a8 h; rw [k_J7_fill_53178_c16_5] at h; cases h
    | succ n5 ih5 =>
      intro v1 v2 v3 a8 h H locs hP hS ls hl
      rw [k_J7_fill_53178_c16_5] at h
      refine lv_iload_n hx hb dJ7_fill_53178_5 rfl (lv_at hl 2 rfl) ?_
      refine lv_iload_n hx hb dJ7_fill_53178_6 rfl (lv_at hl 3 rfl) ?_
      refine lv_icmp_ge (tgt := 20) hx hb dJ7_fill_53178_7 (by decide) (fun c_1 => ?_) (fun c_1 => ?_)
      · have h := if_t c_1 h
        have hx0 := Option.some.inj h
        rw [hQ]
        exact W.vret hx hb hr (fun t ht hW => ⟨⟨a8, rfl, hx0, by show va_P _ _ _ t.heap; rw [ht]; exact hP⟩, hS.F ht⟩) hS.2.2 dJ7_fill_53178_20
      · have h := if_f c_1 h
        refine lv_aload_n hx hb dJ7_fill_53178_10 rfl (lv_at hl 0 rfl) ?_
        refine lv_iload_n hx hb dJ7_fill_53178_11 rfl (lv_at hl 2 rfl) ?_
        refine lv_iload_n hx hb dJ7_fill_53178_12 rfl (lv_at hl 1 rfl) ?_
        obtain ⟨g_2, h⟩ := gd_some h
        refine va_iast hx hb hK hP (CUW_D hq) hS 16 0 rfl rfl g_2 dJ7_fill_53178_13 (fun H locs hP _ hS => ?_)
        have hP : va_P D vwCl (CUW cI cJ q I J (fu a 8 (upd a8 v2.toNatClampNeg v1)) b) H := hP
        refine lv_iinc (v := v2 + 1) (lv' := [(2, .int (v2 + 1)), (0, .ref (q 16)), (1, .int v1), (3, .int v3)]) hx hb dJ7_fill_53178_14 hl (k := 2) rfl rfl (by decide) rfl (fun ls hl => ?_)
        refine lv_goto (tgt := 5) hx hb dJ7_fill_53178_17 (by decide) ?_
        exact ih5 v1 (v2 + 1) v3 (upd a8 v2.toNatClampNeg v1) h _ _ hP hS ls (lv_sub hl [1, 2, 0, 3] rfl)
  refine lv_iconst (v := 0) hx hb dJ7_fill_53178_0 (by decide) ?_
  refine lv_istore_n (lv' := [(2, .int 0), (0, .ref (q 16)), (1, .int v1)]) hx hb dJ7_fill_53178_1 rfl hl (by decide) rfl (fun ls hl => ?_)
  refine lv_aload_n hx hb dJ7_fill_53178_2 rfl (lv_at hl 1 rfl) ?_
  refine va_alen (v := 14) hx hb hK hP 16 0 rfl rfl rfl dJ7_fill_53178_3 ?_
  refine lv_istore_n (lv' := [(3, .int 14), (2, .int 0), (0, .ref (q 16)), (1, .int v1)]) hx hb dJ7_fill_53178_4 rfl hl (by decide) rfl (fun ls hl => ?_)
  exact C5 F v1 0 14 (a 8) h _ _ hP hS ls (lv_sub hl [2, 3, 1, 0] rfl)
theorem in_X3_removeCosts_X3 : ∀ w ∈ wsX30, w ∈ wsX3_removeCosts := by decide +kernel
set_option maxHeartbeats 4000000 in
set_option maxRecDepth 100000 in
theorem c_X3_removeCosts (l : Launch) (D : va_G) (cI cJ : ClassId) (q : Nat → Nat) (hq : CUQ q) (F : Nat) (I : Nat → Int32) (J : Nat → Int64) (a : Nat → Nat → Int32) (b : Nat → Nat → Int64) (x0 : (Nat → Int32)) (h : f_X3_removeCosts F I J a b = some x0) : Met l yX3_removeCosts wsX3_removeCosts ({ frames := 1, cells := 0, slots := 0, locals := 23 }) (CUPc D cI cJ q I J a b [.ref (q 6)]) (va_Qv (fun (u : (Nat → Int32)) => u = x0) (fun (u : (Nat → Int32)) t => va_P D vwCl (CUW cI cJ q I J (fu a 8 u) b) t.heap) (CUA q)) 0 0 (CUA q) := by
  refine mt_of (cc := cX3_removeCosts) (maxL := 1) (ret := none) (by decide) rfl ?_
  intro p e s m args below meth c s₁ B0 hml hv R Q hR hQ
  obtain ⟨hargs, hP, hK, hN⟩ := hv
  have hx := B0.exec
  have hb := B0.bytes
  have hr := B0.returns
  have hts := atoms_spec (ws := wsX3_removeCosts) B0.pre
  have hown : s.vm.findClass RX3 = some m.cls := findClass_of_methodNamed B0.named
  have hlocks := B0.notSynchronized
  have hS : va_S (CUA q) s.heap s.heap [] := va_S.rf
  have hl := lv_entry ([.ref (q 6)]) (n := 1) (Nat.le_of_ble_eq_true rfl)
  rw [hargs, lg_entry_eq]
  rw [← hargs]
  generalize (lg_sl ([.ref (q 6)]) ++ List.replicate (1 - (lg_sl ([.ref (q 6)])).length) Slot.unset).toArray = ls at hl ⊢
  have hl : lv_has ls 1 [(0, .ref (q 6))] := hl
  unfold f_X3_removeCosts at h
  refine lv_aload_n hx hb dX3_removeCosts_0 rfl (lv_at hl 0 rfl) ?_
  refine va_get (D := D) (ci := 3) (v := .ref (q 16)) (C := RX3) (T := TX3) (N := 13) hx hb hts in_X3_removeCosts_X3 hown hK hP 6 rfl rfl 2 (by decide) (hts (.fieldLink RX3 15 "LearnedReasons$Models" "costs" "[I") (by decide +kernel)) (fun _ h9 => h9) rfl dX3_removeCosts_1 ?_
  refine lv_iconst (v := 0) hx hb dX3_removeCosts_4 (by decide) ?_
  obtain ⟨x_1, hx_1, h⟩ := ob_some h
  refine va_callv (va_runS (As := [.ref (q 16), .int 0]) (rest := []) ⟨hx, hb, hml, hown, hts⟩ (c_J7_fill_53178_c16 l D cI cJ q hq F I J a b 0 x_1 hx_1) (va_cwS 2 hts gX3_removeCosts_J7_fill_53178 rfl rfl rfl (by decide +kernel) (by rw [hR]; exact ⟨Nat.le_of_ble_eq_true rfl, Nat.le_of_ble_eq_true rfl⟩)) ⟨CUPc_blind, fun U hU hW => ⟨rfl, by rw [hU]; exact hP, va_K.moved hW.alike hK, va_Nw.warmM hW hN⟩⟩ rfl rfl hl.1 rfl (lv_room (Nat.le_of_ble_eq_true rfl)) dX3_removeCosts_5 ⟨Nat.zero_le _, Nat.zero_le _⟩) hS (fun _ _ h => h) (fun _ h => h) (fun u t H1 locs ht hvm hw hB hz1 hk1 hS => ?_)
  obtain rfl := hw.symm
  rw [ht] at hB
  have hP : va_P D vwCl (CUW cI cJ q I J (fu a 8 x_1) b) H1 := hB
  clear hB hz1 hk1 ht hvm
  generalize H1 = H at hP hS ⊢
  have hx0 := Option.some.inj h
  rw [hQ]
  exact W.vret hx hb hr (fun t ht hW => ⟨⟨x_1, rfl, hx0, by show va_P _ _ _ t.heap; rw [ht]; exact hP⟩, hS.F ht⟩) hS.2.2 dX3_removeCosts_8
theorem in_X6_assumeNone_X6 : ∀ w ∈ wsX60, w ∈ wsX6_assumeNone := by decide +kernel
set_option maxHeartbeats 4000000 in
set_option maxRecDepth 100000 in
theorem c_X6_assumeNone (l : Launch) (D : va_G) (cI cJ : ClassId) (q : Nat → Nat) (hq : CUQ q) (F : Nat) (I : Nat → Int32) (J : Nat → Int64) (a : Nat → Nat → Int32) (b : Nat → Nat → Int64) (x0 : Int32 × Int32) (h : f_X6_assumeNone F I J a b = some x0) : Met l yX6_assumeNone wsX6_assumeNone ({ frames := 0, cells := 0, slots := 0, locals := 0 }) (CUPc D cI cJ q I J a b [.ref (q 0)]) (va_Qv (fun (u : Int32 × Int32) => u = x0) (fun (u : Int32 × Int32) t => va_P D vwCl (CUW cI cJ q (fu (fu I 2 u.1) 3 u.2) J a b) t.heap) (CUA q)) 0 0 (CUA q) := by
  refine mt_of (cc := cX6_assumeNone) (maxL := 1) (ret := none) (by decide) rfl ?_
  intro p e s m args below meth c s₁ B0 hml hv R Q hR hQ
  obtain ⟨hargs, hP, hK, hN⟩ := hv
  have hx := B0.exec
  have hb := B0.bytes
  have hr := B0.returns
  have hts := atoms_spec (ws := wsX6_assumeNone) B0.pre
  have hown : s.vm.findClass RX6 = some m.cls := findClass_of_methodNamed B0.named
  have hlocks := B0.notSynchronized
  have hS : va_S (CUA q) s.heap s.heap [] := va_S.rf
  have hl := lv_entry ([.ref (q 0)]) (n := 1) (Nat.le_of_ble_eq_true rfl)
  rw [hargs, lg_entry_eq]
  rw [← hargs]
  generalize (lg_sl ([.ref (q 0)]) ++ List.replicate (1 - (lg_sl ([.ref (q 0)])).length) Slot.unset).toArray = ls at hl ⊢
  have hl : lv_has ls 1 [(0, .ref (q 0))] := hl
  unfold f_X6_assumeNone at h
  refine lv_aload_n hx hb dX6_assumeNone_0 rfl (lv_at hl 0 rfl) ?_
  refine lv_iconst (v := 0) hx hb dX6_assumeNone_1 (by decide) ?_
  refine va_put (D := D) (ci := 6) (v := .int 0) (ty := .int) (C := RX6) (T := TX6) (N := 9) hx hb hts in_X6_assumeNone_X6 tyX6 tyX6_ok nmX6 hown hK hP (CUW_D hq) hS 0 rfl rfl 7 (by decide) (hts (.fieldLink RX6 135 "LearnedReasons" "assumedTrue" "I") (by decide +kernel)) (fun _ h9 => h9) rfl (by decide +kernel) rfl rfl (Nat.le_of_ble_eq_true rfl) dX6_assumeNone_2 (fun H locs hP _ hS => ?_)
  have hP : va_P D vwCl (CUW cI cJ q (fu I 2 0) J a b) H := hP
  refine lv_aload_n hx hb dX6_assumeNone_5 rfl (lv_at hl 0 rfl) ?_
  refine lv_iconst (v := 0) hx hb dX6_assumeNone_6 (by decide) ?_
  refine va_put (D := D) (ci := 6) (v := .int 0) (ty := .int) (C := RX6) (T := TX6) (N := 9) hx hb hts in_X6_assumeNone_X6 tyX6 tyX6_ok nmX6 hown hK hP (CUW_D hq) hS 0 rfl rfl 8 (by decide) (hts (.fieldLink RX6 138 "LearnedReasons" "assumedFalse" "I") (by decide +kernel)) (fun _ h9 => h9) rfl (by decide +kernel) rfl rfl (Nat.le_of_ble_eq_true rfl) dX6_assumeNone_7 (fun H locs hP _ hS => ?_)
  have hP : va_P D vwCl (CUW cI cJ q (fu (fu I 2 0) 3 0) J a b) H := hP
  have hx0 := Option.some.inj h
  rw [hQ]
  exact W.vret hx hb hr (fun t ht hW => ⟨⟨(0, 0), rfl, hx0, by show va_P _ _ _ t.heap; rw [ht]; exact hP⟩, hS.F ht⟩) hS.2.2 dX6_assumeNone_10
theorem in_X6_clear_X6 : ∀ w ∈ wsX60, w ∈ wsX6_clear := by decide +kernel
set_option maxHeartbeats 4000000 in
set_option maxRecDepth 100000 in
theorem c_X6_clear (l : Launch) (D : va_G) (cI cJ : ClassId) (q : Nat → Nat) (hq : CUQ q) (F : Nat) (I : Nat → Int32) (J : Nat → Int64) (a : Nat → Nat → Int32) (b : Nat → Nat → Int64) (x0 : Int32 × Int32 × Int32 × Int32 × Int32 × Int32 × Int32 × Int32 × Int32 × Int32 × Int32 × Int64 × Int64 × Int64 × (Nat → Int32)) (h : f_X6_clear F I J a b = some x0) : Met l yX6_clear wsX6_clear ({ frames := 2, cells := 0, slots := 0, locals := 43 }) (CUPc D cI cJ q I J a b [.ref (q 0)]) (va_Qi (fun (r : Int32) (u : Int32 × Int32 × Int32 × Int32 × Int32 × Int32 × Int32 × Int32 × Int32 × Int32 × Int64 × Int64 × Int64 × (Nat → Int32)) => r = x0.1 ∧ u = x0.2) (fun (u : Int32 × Int32 × Int32 × Int32 × Int32 × Int32 × Int32 × Int32 × Int32 × Int32 × Int64 × Int64 × Int64 × (Nat → Int32)) t => va_P D vwCl (CUW cI cJ q (fu (fu (fu (fu (fu (fu (fu (fu (fu (fu I 0 u.1) 1 u.2.1) 2 u.2.2.1) 3 u.2.2.2.1) 4 u.2.2.2.2.1) 5 u.2.2.2.2.2.1) 6 u.2.2.2.2.2.2.1) 11 u.2.2.2.2.2.2.2.1) 17 u.2.2.2.2.2.2.2.2.1) 18 u.2.2.2.2.2.2.2.2.2.1) (fu (fu (fu J 0 u.2.2.2.2.2.2.2.2.2.2.1) 1 u.2.2.2.2.2.2.2.2.2.2.2.1) 2 u.2.2.2.2.2.2.2.2.2.2.2.2.1) (fu a 8 u.2.2.2.2.2.2.2.2.2.2.2.2.2) b) t.heap) (CUA q)) 0 0 (CUA q) := by
  refine mt_of (cc := cX6_clear) (maxL := 2) (ret := (some .int)) (by decide) rfl ?_
  intro p e s m args below meth c s₁ B0 hml hv R Q hR hQ
  obtain ⟨hargs, hP, hK, hN⟩ := hv
  have hx := B0.exec
  have hb := B0.bytes
  have hr := B0.returns
  have hts := atoms_spec (ws := wsX6_clear) B0.pre
  have hown : s.vm.findClass RX6 = some m.cls := findClass_of_methodNamed B0.named
  have hlocks := B0.notSynchronized
  have hS : va_S (CUA q) s.heap s.heap [] := va_S.rf
  have hl := lv_entry ([.ref (q 0)]) (n := 2) (Nat.le_of_ble_eq_true rfl)
  rw [hargs, lg_entry_eq]
  rw [← hargs]
  generalize (lg_sl ([.ref (q 0)]) ++ List.replicate (2 - (lg_sl ([.ref (q 0)])).length) Slot.unset).toArray = ls at hl ⊢
  have hl : lv_has ls 2 [(0, .ref (q 0))] := hl
  unfold f_X6_clear at h
  refine lv_aload_n hx hb dX6_clear_0 rfl (lv_at hl 0 rfl) ?_
  refine va_get (D := D) (ci := 6) (v := .ref (q 1)) (C := RX6) (T := TX6) (N := 9) hx hb hts in_X6_clear_X6 hown hK hP 0 rfl rfl 0 (by decide) (hts (.fieldLink RX6 10 "LearnedReasons" "things" "LLearnedReasons$Things;") (by decide +kernel)) (fun _ h9 => h9) rfl dX6_clear_1 ?_
  obtain ⟨x_1, hx_1, h⟩ := ob_some h
  refine va_calli (va_runV (As := []) (rest := []) ⟨hx, hb, hml, hown, hts⟩ (c_X5_names l D cI cJ q hq F I J a b x_1 hx_1) (cwV 0 hts gX6_clear_X5_names rfl rfl rfl (by decide +kernel) (by rw [hR]; exact ⟨Nat.le_of_ble_eq_true rfl, Nat.le_of_ble_eq_true rfl⟩)) ⟨CUPc_blind, va_recv hK hP (ci := 5) (q0 := 1) rfl rfl, fun U hU hW => ⟨rfl, by rw [hU]; exact hP, va_K.moved hW.alike hK, va_Nw.warmM hW hN⟩⟩ rfl rfl hl.1 rfl (lv_room (Nat.le_of_ble_eq_true rfl)) dX6_clear_4 ⟨Nat.zero_le _, Nat.zero_le _⟩) hS (fun _ _ h => h) (fun _ h => h) (fun r u t H1 locs ht hvm hw hB hz1 hk1 hS => ?_)
  obtain rfl := hw.symm
  rw [ht] at hB
  have hP : va_P D vwCl (CUW cI cJ q I J a b) H1 := hB
  clear hB hz1 hk1 ht hvm
  generalize H1 = H at hP hS ⊢
  refine lv_istore_n (lv' := [(1, .int x_1), (0, .ref (q 0))]) hx hb dX6_clear_7 rfl hl (by decide) rfl (fun ls hl => ?_)
  refine lv_aload_n hx hb dX6_clear_8 rfl (lv_at hl 1 rfl) ?_
  refine va_get (D := D) (ci := 6) (v := .ref (q 1)) (C := RX6) (T := TX6) (N := 9) hx hb hts in_X6_clear_X6 hown hK hP 0 rfl rfl 0 (by decide) (hts (.fieldLink RX6 10 "LearnedReasons" "things" "LLearnedReasons$Things;") (by decide +kernel)) (fun _ h9 => h9) rfl dX6_clear_9 ?_
  obtain ⟨x_2, hx_2, h⟩ := ob_some h
  refine va_callv (va_runV (As := []) (rest := []) ⟨hx, hb, hml, hown, hts⟩ (c_X5_removeAll l D cI cJ q hq F I J a b x_2 hx_2) (cwV 0 hts gX6_clear_X5_removeAll rfl rfl rfl (by decide +kernel) (by rw [hR]; exact ⟨Nat.le_of_ble_eq_true rfl, Nat.le_of_ble_eq_true rfl⟩)) ⟨CUPc_blind, va_recv hK hP (ci := 5) (q0 := 1) rfl rfl, fun U hU hW => ⟨rfl, by rw [hU]; exact hP, va_K.moved hW.alike hK, va_Nw.warmM hW hN⟩⟩ rfl rfl hl.1 rfl (lv_room (Nat.le_of_ble_eq_true rfl)) dX6_clear_12 ⟨Nat.zero_le _, Nat.zero_le _⟩) hS (fun _ _ h => h) (fun _ h => h) (fun u t H1 locs ht hvm hw hB hz1 hk1 hS => ?_)
  obtain rfl := hw.symm
  rw [ht] at hB
  have hP : va_P D vwCl (CUW cI cJ q (fu (fu I 4 x_2.1) 5 x_2.2.1) (fu (fu (fu J 0 x_2.2.2.1) 1 x_2.2.2.2.1) 2 x_2.2.2.2.2) a b) H1 := hB
  clear hB hz1 hk1 ht hvm
  generalize H1 = H at hP hS ⊢
  refine lv_aload_n hx hb dX6_clear_15 rfl (lv_at hl 1 rfl) ?_
  refine va_get (D := D) (ci := 6) (v := .ref (q 6)) (C := RX6) (T := TX6) (N := 9) hx hb hts in_X6_clear_X6 hown hK hP 0 rfl rfl 4 (by decide) (hts (.fieldLink RX6 49 "LearnedReasons" "models" "LLearnedReasons$Models;") (by decide +kernel)) (fun _ h9 => h9) rfl dX6_clear_16 ?_
  obtain ⟨x_3, hx_3, h⟩ := ob_some h
  refine va_callv (va_runV (As := []) (rest := []) ⟨hx, hb, hml, hown, hts⟩ (c_X3_removeCosts l D cI cJ q hq F (fu (fu I 4 x_2.1) 5 x_2.2.1) (fu (fu (fu J 0 x_2.2.2.1) 1 x_2.2.2.2.1) 2 x_2.2.2.2.2) a b x_3 hx_3) (cwV 0 hts gX6_clear_X3_removeCosts rfl rfl rfl (by decide +kernel) (by rw [hR]; exact ⟨Nat.le_of_ble_eq_true rfl, Nat.le_of_ble_eq_true rfl⟩)) ⟨CUPc_blind, va_recv hK hP (ci := 3) (q0 := 6) rfl rfl, fun U hU hW => ⟨rfl, by rw [hU]; exact hP, va_K.moved hW.alike hK, va_Nw.warmM hW hN⟩⟩ rfl rfl hl.1 rfl (lv_room (Nat.le_of_ble_eq_true rfl)) dX6_clear_19 ⟨Nat.zero_le _, Nat.zero_le _⟩) hS (fun _ _ h => h) (fun _ h => h) (fun u t H1 locs ht hvm hw hB hz1 hk1 hS => ?_)
  obtain rfl := hw.symm
  rw [ht] at hB
  have hP : va_P D vwCl (CUW cI cJ q (fu (fu I 4 x_2.1) 5 x_2.2.1) (fu (fu (fu J 0 x_2.2.2.1) 1 x_2.2.2.2.1) 2 x_2.2.2.2.2) (fu a 8 x_3) b) H1 := hB
  clear hB hz1 hk1 ht hvm
  generalize H1 = H at hP hS ⊢
  refine lv_aload_n hx hb dX6_clear_22 rfl (lv_at hl 1 rfl) ?_
  obtain ⟨x_4, hx_4, h⟩ := ob_some h
  refine va_callv (va_runV (As := []) (rest := []) ⟨hx, hb, hml, hown, hts⟩ (c_X6_emptyHand l D cI cJ q hq F (fu (fu I 4 x_2.1) 5 x_2.2.1) (fu (fu (fu J 0 x_2.2.2.1) 1 x_2.2.2.2.1) 2 x_2.2.2.2.2) (fu a 8 x_3) b x_4 hx_4) (cwV 0 hts gX6_clear_X6_emptyHand rfl rfl rfl (by decide +kernel) (by rw [hR]; exact ⟨Nat.le_of_ble_eq_true rfl, Nat.le_of_ble_eq_true rfl⟩)) ⟨CUPc_blind, va_recv hK hP (ci := 6) (q0 := 0) rfl rfl, fun U hU hW => ⟨rfl, by rw [hU]; exact hP, va_K.moved hW.alike hK, va_Nw.warmM hW hN⟩⟩ rfl rfl hl.1 rfl (lv_room (Nat.le_of_ble_eq_true rfl)) dX6_clear_23 ⟨Nat.zero_le _, Nat.zero_le _⟩) hS (fun _ _ h => h) (fun _ h => h) (fun u t H1 locs ht hvm hw hB hz1 hk1 hS => ?_)
  obtain rfl := hw.symm
  rw [ht] at hB
  have hP : va_P D vwCl (CUW cI cJ q (fu (fu (fu (fu I 0 x_4.1) 1 x_4.2) 4 x_2.1) 5 x_2.2.1) (fu (fu (fu J 0 x_2.2.2.1) 1 x_2.2.2.2.1) 2 x_2.2.2.2.2) (fu a 8 x_3) b) H1 := hB
  clear hB hz1 hk1 ht hvm
  generalize H1 = H at hP hS ⊢
  refine lv_aload_n hx hb dX6_clear_26 rfl (lv_at hl 1 rfl) ?_
  obtain ⟨x_5, hx_5, h⟩ := ob_some h
  refine va_callv (va_runV (As := []) (rest := []) ⟨hx, hb, hml, hown, hts⟩ (c_X6_assumeNone l D cI cJ q hq F (fu (fu (fu (fu I 0 x_4.1) 1 x_4.2) 4 x_2.1) 5 x_2.2.1) (fu (fu (fu J 0 x_2.2.2.1) 1 x_2.2.2.2.1) 2 x_2.2.2.2.2) (fu a 8 x_3) b x_5 hx_5) (cwV 0 hts gX6_clear_X6_assumeNone rfl rfl rfl (by decide +kernel) (by rw [hR]; exact ⟨Nat.le_of_ble_eq_true rfl, Nat.le_of_ble_eq_true rfl⟩)) ⟨CUPc_blind, va_recv hK hP (ci := 6) (q0 := 0) rfl rfl, fun U hU hW => ⟨rfl, by rw [hU]; exact hP, va_K.moved hW.alike hK, va_Nw.warmM hW hN⟩⟩ rfl rfl hl.1 rfl (lv_room (Nat.le_of_ble_eq_true rfl)) dX6_clear_27 ⟨Nat.zero_le _, Nat.zero_le _⟩) hS (fun _ _ h => h) (fun _ h => h) (fun u t H1 locs ht hvm hw hB hz1 hk1 hS => ?_)
  obtain rfl := hw.symm
  rw [ht] at hB
  have hP : va_P D vwCl (CUW cI cJ q (fu (fu (fu (fu (fu (fu I 0 x_4.1) 1 x_4.2) 2 x_5.1) 3 x_5.2) 4 x_2.1) 5 x_2.2.1) (fu (fu (fu J 0 x_2.2.2.1) 1 x_2.2.2.2.1) 2 x_2.2.2.2.2) (fu a 8 x_3) b) H1 := hB
  clear hB hz1 hk1 ht hvm
  generalize H1 = H at hP hS ⊢
  refine lv_aload_n hx hb dX6_clear_30 rfl (lv_at hl 1 rfl) ?_
  obtain ⟨x_6, hx_6, h⟩ := ob_some h
  refine va_callv (va_runV (As := []) (rest := []) ⟨hx, hb, hml, hown, hts⟩ (c_X6_outdate l D cI cJ q hq F (fu (fu (fu (fu (fu (fu I 0 x_4.1) 1 x_4.2) 2 x_5.1) 3 x_5.2) 4 x_2.1) 5 x_2.2.1) (fu (fu (fu J 0 x_2.2.2.1) 1 x_2.2.2.2.1) 2 x_2.2.2.2.2) (fu a 8 x_3) b x_6 hx_6) (cwV 0 hts gX6_clear_X6_outdate rfl rfl rfl (by decide +kernel) (by rw [hR]; exact ⟨Nat.le_of_ble_eq_true rfl, Nat.le_of_ble_eq_true rfl⟩)) ⟨CUPc_blind, va_recv hK hP (ci := 6) (q0 := 0) rfl rfl, fun U hU hW => ⟨rfl, by rw [hU]; exact hP, va_K.moved hW.alike hK, va_Nw.warmM hW hN⟩⟩ rfl rfl hl.1 rfl (lv_room (Nat.le_of_ble_eq_true rfl)) dX6_clear_31 ⟨Nat.zero_le _, Nat.zero_le _⟩) hS (fun _ _ h => h) (fun _ h => h) (fun u t H1 locs ht hvm hw hB hz1 hk1 hS => ?_)
  obtain rfl := hw.symm
  rw [ht] at hB
  have hP : va_P D vwCl (CUW cI cJ q (fu (fu (fu (fu (fu (fu (fu (fu (fu (fu I 0 x_4.1) 1 x_4.2) 2 x_5.1) 3 x_5.2) 4 x_2.1) 5 x_2.2.1) 6 x_6.1) 11 x_6.2.1) 17 x_6.2.2.1) 18 x_6.2.2.2) (fu (fu (fu J 0 x_2.2.2.1) 1 x_2.2.2.2.1) 2 x_2.2.2.2.2) (fu a 8 x_3) b) H1 := hB
  clear hB hz1 hk1 ht hvm
  generalize H1 = H at hP hS ⊢
  refine lv_iload_n hx hb dX6_clear_34 rfl (lv_at hl 0 rfl) ?_
  have hx0 := Option.some.inj h
  rw [hQ]
  exact W.iret (v := x_1) hx hb hr (fun t ht hW => ⟨⟨x_1, (x_4.1, x_4.2, x_5.1, x_5.2, x_2.1, x_2.2.1, x_6.1, x_6.2.1, x_6.2.2.1, x_6.2.2.2, x_2.2.2.1, x_2.2.2.2.1, x_2.2.2.2.2, x_3), rfl, ⟨congrArg (fun z => z.1) hx0, congrArg (fun z => z.2) hx0⟩, by show va_P _ _ _ t.heap; rw [ht]; exact hP⟩, hS.F ht⟩) hS.2.2 dX6_clear_35
theorem in_X6_assume_X6 : ∀ w ∈ wsX60, w ∈ wsX6_assume := by decide +kernel
set_option maxHeartbeats 4000000 in
set_option maxRecDepth 100000 in
theorem c_X6_assume (l : Launch) (D : va_G) (cI cJ : ClassId) (q : Nat → Nat) (hq : CUQ q) (F : Nat) (I : Nat → Int32) (J : Nat → Int64) (a : Nat → Nat → Int32) (b : Nat → Nat → Int64) (v1 : Int32) (x0 : Int32 × Int32 × Int32) (h : f_X6_assume F I J a b v1 = some x0) : Met l yX6_assume wsX6_assume ({ frames := 2, cells := 0, slots := 0, locals := 42 }) (CUPc D cI cJ q I J a b [.ref (q 0), .int v1]) (va_Qi (fun (r : Int32) (u : Int32 × Int32) => r = x0.1 ∧ u = x0.2) (fun (u : Int32 × Int32) t => va_P D vwCl (CUW cI cJ q (fu (fu I 2 u.1) 3 u.2) J a b) t.heap) (CUA q)) 0 0 (CUA q) := by
  refine mt_of (cc := cX6_assume) (maxL := 2) (ret := (some .int)) (by decide) rfl ?_
  intro p e s m args below meth c s₁ B0 hml hv R Q hR hQ
  obtain ⟨hargs, hP, hK, hN⟩ := hv
  have hx := B0.exec
  have hb := B0.bytes
  have hr := B0.returns
  have hts := atoms_spec (ws := wsX6_assume) B0.pre
  have hown : s.vm.findClass RX6 = some m.cls := findClass_of_methodNamed B0.named
  have hlocks := B0.notSynchronized
  have hS : va_S (CUA q) s.heap s.heap [] := va_S.rf
  have hl := lv_entry ([.ref (q 0), .int v1]) (n := 2) (Nat.le_of_ble_eq_true rfl)
  rw [hargs, lg_entry_eq]
  rw [← hargs]
  generalize (lg_sl ([.ref (q 0), .int v1]) ++ List.replicate (2 - (lg_sl ([.ref (q 0), .int v1])).length) Slot.unset).toArray = ls at hl ⊢
  have hl : lv_has ls 2 [(0, .ref (q 0)), (1, .int v1)] := hl
  unfold f_X6_assume at h
  refine lv_aload_n hx hb dX6_assume_0 rfl (lv_at hl 0 rfl) ?_
  refine lv_iload_n hx hb dX6_assume_1 rfl (lv_at hl 1 rfl) ?_
  obtain ⟨x_1, hx_1, h⟩ := ob_some h
  refine va_calli (va_runV (As := [.int v1]) (rest := []) ⟨hx, hb, hml, hown, hts⟩ (c_X6_isLiteral l D cI cJ q hq F I J a b v1 x_1 hx_1) (cwV 1 hts gX6_assume_X6_isLiteral rfl rfl rfl (by decide +kernel) (by rw [hR]; exact ⟨Nat.le_of_ble_eq_true rfl, Nat.le_of_ble_eq_true rfl⟩)) ⟨CUPc_blind, va_recv hK hP (ci := 6) (q0 := 0) rfl rfl, fun U hU hW => ⟨rfl, by rw [hU]; exact hP, va_K.moved hW.alike hK, va_Nw.warmM hW hN⟩⟩ rfl rfl hl.1 rfl (lv_room (Nat.le_of_ble_eq_true rfl)) dX6_assume_2 ⟨Nat.zero_le _, Nat.zero_le _⟩) hS (fun _ _ h => h) (fun _ h => h) (fun r u t H1 locs ht hvm hw hB hz1 hk1 hS => ?_)
  obtain rfl := hw.symm
  rw [ht] at hB
  have hP : va_P D vwCl (CUW cI cJ q I J a b) H1 := hB
  clear hB hz1 hk1 ht hvm
  generalize H1 = H at hP hS ⊢
  refine lv_if_ne (tgt := 10) hx hb dX6_assume_5 (by decide) (fun c_2 => ?_) (fun c_2 => ?_)
  · have h := if_f c_2 h
    refine lv_aload_n hx hb dX6_assume_10 rfl (lv_at hl 0 rfl) ?_
    refine lv_dup hx hb dX6_assume_11 rfl ?_
    refine va_get (D := D) (ci := 6) (v := .int (I 2)) (C := RX6) (T := TX6) (N := 9) hx hb hts in_X6_assume_X6 hown hK hP 0 rfl rfl 7 (by decide) (hts (.fieldLink RX6 135 "LearnedReasons" "assumedTrue" "I") (by decide +kernel)) (fun _ h9 => h9) rfl dX6_assume_12 ?_
    refine lv_iload_n hx hb dX6_assume_15 rfl (lv_at hl 1 rfl) ?_
    obtain ⟨x_3, hx_3, h⟩ := ob_some h
    refine va_calli (va_runS (As := [.int v1]) (rest := [.int (I 2), .ref (q 0)]) ⟨hx, hb, hml, hown, hts⟩ (c_X6_nameWantedTrue l F v1 x_3 hx_3) (va_cwS 1 hts gX6_assume_X6_nameWantedTrue rfl rfl rfl (by decide +kernel) (by rw [hR]; exact ⟨Nat.le_of_ble_eq_true rfl, Nat.le_of_ble_eq_true rfl⟩)) ⟨fun _ _ _ _ h => h, fun U hU hW => ⟨rfl, trivial⟩⟩ rfl rfl hl.1 rfl (lv_room (Nat.le_of_ble_eq_true rfl)) dX6_assume_16 ⟨Nat.zero_le _, Nat.zero_le _⟩) hS (fun _ _ h => h.elim) (fun _ h => h.elim) (fun r u t H1 locs ht hvm hw hB hz1 hk1 hS => ?_)
    obtain rfl := hw.symm
    have hP := hP.kept (fun k x hx => hk1 x.1 (hP k x hx).lt (fun h => h))
    clear hB hz1 hk1 ht hvm
    generalize H1 = H at hP hS ⊢
    refine lv_ior hx hb dX6_assume_19 ?_
    refine lv_topi (fun v_4 ev_4 => ?_)
    have h := nmI_at ev_4 h
    refine va_put (D := D) (ci := 6) (v := .int v_4) (ty := .int) (C := RX6) (T := TX6) (N := 9) hx hb hts in_X6_assume_X6 tyX6 tyX6_ok nmX6 hown hK hP (CUW_D hq) hS 0 rfl rfl 7 (by decide) (hts (.fieldLink RX6 135 "LearnedReasons" "assumedTrue" "I") (by decide +kernel)) (fun _ h9 => h9) rfl (by decide +kernel) rfl rfl (Nat.le_of_ble_eq_true rfl) dX6_assume_20 (fun H locs hP _ hS => ?_)
    have hP : va_P D vwCl (CUW cI cJ q (fu I 2 v_4) J a b) H := hP
    refine lv_aload_n hx hb dX6_assume_23 rfl (lv_at hl 0 rfl) ?_
    refine lv_dup hx hb dX6_assume_24 rfl ?_
    refine va_get (D := D) (ci := 6) (v := .int (I 3)) (C := RX6) (T := TX6) (N := 9) hx hb hts in_X6_assume_X6 hown hK hP 0 rfl rfl 8 (by decide) (hts (.fieldLink RX6 138 "LearnedReasons" "assumedFalse" "I") (by decide +kernel)) (fun _ h9 => h9) rfl dX6_assume_25 ?_
    refine lv_iload_n hx hb dX6_assume_28 rfl (lv_at hl 1 rfl) ?_
    obtain ⟨x_5, hx_5, h⟩ := ob_some h
    refine va_calli (va_runS (As := [.int v1]) (rest := [.int (I 3), .ref (q 0)]) ⟨hx, hb, hml, hown, hts⟩ (c_X6_nameWantedFalse l F v1 x_5 hx_5) (va_cwS 1 hts gX6_assume_X6_nameWantedFalse rfl rfl rfl (by decide +kernel) (by rw [hR]; exact ⟨Nat.le_of_ble_eq_true rfl, Nat.le_of_ble_eq_true rfl⟩)) ⟨fun _ _ _ _ h => h, fun U hU hW => ⟨rfl, trivial⟩⟩ rfl rfl hl.1 rfl (lv_room (Nat.le_of_ble_eq_true rfl)) dX6_assume_29 ⟨Nat.zero_le _, Nat.zero_le _⟩) hS (fun _ _ h => h.elim) (fun _ h => h.elim) (fun r u t H1 locs ht hvm hw hB hz1 hk1 hS => ?_)
    obtain rfl := hw.symm
    have hP := hP.kept (fun k x hx => hk1 x.1 (hP k x hx).lt (fun h => h))
    clear hB hz1 hk1 ht hvm
    generalize H1 = H at hP hS ⊢
    refine lv_ior hx hb dX6_assume_32 ?_
    refine lv_topi (fun v_6 ev_6 => ?_)
    have h := nmI_at ev_6 h
    refine va_put (D := D) (ci := 6) (v := .int v_6) (ty := .int) (C := RX6) (T := TX6) (N := 9) hx hb hts in_X6_assume_X6 tyX6 tyX6_ok nmX6 hown hK hP (CUW_D hq) hS 0 rfl rfl 8 (by decide) (hts (.fieldLink RX6 138 "LearnedReasons" "assumedFalse" "I") (by decide +kernel)) (fun _ h9 => h9) rfl (by decide +kernel) rfl rfl (Nat.le_of_ble_eq_true rfl) dX6_assume_33 (fun H locs hP _ hS => ?_)
    have hP : va_P D vwCl (CUW cI cJ q (fu (fu I 2 v_4) 3 v_6) J a b) H := hP
    refine lv_aload_n hx hb dX6_assume_36 rfl (lv_at hl 0 rfl) ?_
    refine va_get (D := D) (ci := 6) (v := .int v_4) (C := RX6) (T := TX6) (N := 9) hx hb hts in_X6_assume_X6 hown hK hP 0 rfl rfl 7 (by decide) (hts (.fieldLink RX6 135 "LearnedReasons" "assumedTrue" "I") (by decide +kernel)) (fun _ h9 => h9) rfl dX6_assume_37 ?_
    refine lv_aload_n hx hb dX6_assume_40 rfl (lv_at hl 0 rfl) ?_
    refine va_get (D := D) (ci := 6) (v := .int v_6) (C := RX6) (T := TX6) (N := 9) hx hb hts in_X6_assume_X6 hown hK hP 0 rfl rfl 8 (by decide) (hts (.fieldLink RX6 138 "LearnedReasons" "assumedFalse" "I") (by decide +kernel)) (fun _ h9 => h9) rfl dX6_assume_41 ?_
    obtain ⟨x_7, hx_7, h⟩ := ob_some h
    refine va_calli (va_runS (As := [.int v_4, .int v_6]) (rest := []) ⟨hx, hb, hml, hown, hts⟩ (c_X6_literalsIn l F v_4 v_6 x_7 hx_7) (va_cwS 2 hts gX6_assume_X6_literalsIn rfl rfl rfl (by decide +kernel) (by rw [hR]; exact ⟨Nat.le_of_ble_eq_true rfl, Nat.le_of_ble_eq_true rfl⟩)) ⟨fun _ _ _ _ h => h, fun U hU hW => ⟨rfl, trivial⟩⟩ rfl rfl hl.1 rfl (lv_room (Nat.le_of_ble_eq_true rfl)) dX6_assume_44 ⟨Nat.zero_le _, Nat.zero_le _⟩) hS (fun _ _ h => h.elim) (fun _ h => h.elim) (fun r u t H1 locs ht hvm hw hB hz1 hk1 hS => ?_)
    obtain rfl := hw.symm
    have hP := hP.kept (fun k x hx => hk1 x.1 (hP k x hx).lt (fun h => h))
    clear hB hz1 hk1 ht hvm
    generalize H1 = H at hP hS ⊢
    have hx0 := Option.some.inj h
    rw [hQ]
    exact W.iret (v := x_7) hx hb hr (fun t ht hW => ⟨⟨x_7, (v_4, v_6), rfl, ⟨congrArg (fun z => z.1) hx0, congrArg (fun z => z.2) hx0⟩, by show va_P _ _ _ t.heap; rw [ht]; exact hP⟩, hS.F ht⟩) hS.2.2 dX6_assume_47
  · have h := if_t c_2 h
    refine lv_iconst (v := (-1)) hx hb dX6_assume_8 (by decide) ?_
    have hx0 := Option.some.inj h
    rw [hQ]
    exact W.iret (v := (-1)) hx hb hr (fun t ht hW => ⟨⟨(-1), ((I 2), (I 3)), rfl, ⟨congrArg (fun z => z.1) hx0, congrArg (fun z => z.2) hx0⟩, by show va_P _ _ _ t.heap; rw [ht]; exact hP⟩, hS.F ht⟩) hS.2.2 dX6_assume_9
theorem in_X6_forget_X6 : ∀ w ∈ wsX60, w ∈ wsX6_forget := by decide +kernel
set_option maxHeartbeats 4000000 in
set_option maxRecDepth 100000 in
theorem c_X6_forget (l : Launch) (D : va_G) (cI cJ : ClassId) (q : Nat → Nat) (hq : CUQ q) (F : Nat) (I : Nat → Int32) (J : Nat → Int64) (a : Nat → Nat → Int32) (b : Nat → Nat → Int64) (x0 : Int32 × Int32 × Int32) (h : f_X6_forget F I J a b = some x0) : Met l yX6_forget wsX6_forget ({ frames := 2, cells := 0, slots := 0, locals := 41 }) (CUPc D cI cJ q I J a b [.ref (q 0)]) (va_Qi (fun (r : Int32) (u : Int32 × Int32) => r = x0.1 ∧ u = x0.2) (fun (u : Int32 × Int32) t => va_P D vwCl (CUW cI cJ q (fu (fu I 2 u.1) 3 u.2) J a b) t.heap) (CUA q)) 0 0 (CUA q) := by
  refine mt_of (cc := cX6_forget) (maxL := 2) (ret := (some .int)) (by decide) rfl ?_
  intro p e s m args below meth c s₁ B0 hml hv R Q hR hQ
  obtain ⟨hargs, hP, hK, hN⟩ := hv
  have hx := B0.exec
  have hb := B0.bytes
  have hr := B0.returns
  have hts := atoms_spec (ws := wsX6_forget) B0.pre
  have hown : s.vm.findClass RX6 = some m.cls := findClass_of_methodNamed B0.named
  have hlocks := B0.notSynchronized
  have hS : va_S (CUA q) s.heap s.heap [] := va_S.rf
  have hl := lv_entry ([.ref (q 0)]) (n := 2) (Nat.le_of_ble_eq_true rfl)
  rw [hargs, lg_entry_eq]
  rw [← hargs]
  generalize (lg_sl ([.ref (q 0)]) ++ List.replicate (2 - (lg_sl ([.ref (q 0)])).length) Slot.unset).toArray = ls at hl ⊢
  have hl : lv_has ls 2 [(0, .ref (q 0))] := hl
  unfold f_X6_forget at h
  refine lv_aload_n hx hb dX6_forget_0 rfl (lv_at hl 0 rfl) ?_
  refine va_get (D := D) (ci := 6) (v := .int (I 2)) (C := RX6) (T := TX6) (N := 9) hx hb hts in_X6_forget_X6 hown hK hP 0 rfl rfl 7 (by decide) (hts (.fieldLink RX6 135 "LearnedReasons" "assumedTrue" "I") (by decide +kernel)) (fun _ h9 => h9) rfl dX6_forget_1 ?_
  refine lv_aload_n hx hb dX6_forget_4 rfl (lv_at hl 0 rfl) ?_
  refine va_get (D := D) (ci := 6) (v := .int (I 3)) (C := RX6) (T := TX6) (N := 9) hx hb hts in_X6_forget_X6 hown hK hP 0 rfl rfl 8 (by decide) (hts (.fieldLink RX6 138 "LearnedReasons" "assumedFalse" "I") (by decide +kernel)) (fun _ h9 => h9) rfl dX6_forget_5 ?_
  obtain ⟨x_1, hx_1, h⟩ := ob_some h
  refine va_calli (va_runS (As := [.int (I 2), .int (I 3)]) (rest := []) ⟨hx, hb, hml, hown, hts⟩ (c_X6_literalsIn l F (I 2) (I 3) x_1 hx_1) (va_cwS 2 hts gX6_forget_X6_literalsIn rfl rfl rfl (by decide +kernel) (by rw [hR]; exact ⟨Nat.le_of_ble_eq_true rfl, Nat.le_of_ble_eq_true rfl⟩)) ⟨fun _ _ _ _ h => h, fun U hU hW => ⟨rfl, trivial⟩⟩ rfl rfl hl.1 rfl (lv_room (Nat.le_of_ble_eq_true rfl)) dX6_forget_8 ⟨Nat.zero_le _, Nat.zero_le _⟩) hS (fun _ _ h => h.elim) (fun _ h => h.elim) (fun r u t H1 locs ht hvm hw hB hz1 hk1 hS => ?_)
  obtain rfl := hw.symm
  have hP := hP.kept (fun k x hx => hk1 x.1 (hP k x hx).lt (fun h => h))
  clear hB hz1 hk1 ht hvm
  generalize H1 = H at hP hS ⊢
  refine lv_istore_n (lv' := [(1, .int x_1), (0, .ref (q 0))]) hx hb dX6_forget_11 rfl hl (by decide) rfl (fun ls hl => ?_)
  refine lv_aload_n hx hb dX6_forget_12 rfl (lv_at hl 1 rfl) ?_
  obtain ⟨x_2, hx_2, h⟩ := ob_some h
  refine va_callv (va_runV (As := []) (rest := []) ⟨hx, hb, hml, hown, hts⟩ (c_X6_assumeNone l D cI cJ q hq F I J a b x_2 hx_2) (cwV 0 hts gX6_forget_X6_assumeNone rfl rfl rfl (by decide +kernel) (by rw [hR]; exact ⟨Nat.le_of_ble_eq_true rfl, Nat.le_of_ble_eq_true rfl⟩)) ⟨CUPc_blind, va_recv hK hP (ci := 6) (q0 := 0) rfl rfl, fun U hU hW => ⟨rfl, by rw [hU]; exact hP, va_K.moved hW.alike hK, va_Nw.warmM hW hN⟩⟩ rfl rfl hl.1 rfl (lv_room (Nat.le_of_ble_eq_true rfl)) dX6_forget_13 ⟨Nat.zero_le _, Nat.zero_le _⟩) hS (fun _ _ h => h) (fun _ h => h) (fun u t H1 locs ht hvm hw hB hz1 hk1 hS => ?_)
  obtain rfl := hw.symm
  rw [ht] at hB
  have hP : va_P D vwCl (CUW cI cJ q (fu (fu I 2 x_2.1) 3 x_2.2) J a b) H1 := hB
  clear hB hz1 hk1 ht hvm
  generalize H1 = H at hP hS ⊢
  refine lv_iload_n hx hb dX6_forget_16 rfl (lv_at hl 0 rfl) ?_
  have hx0 := Option.some.inj h
  rw [hQ]
  exact W.iret (v := x_1) hx hb hr (fun t ht hW => ⟨⟨x_1, (x_2.1, x_2.2), rfl, ⟨congrArg (fun z => z.1) hx0, congrArg (fun z => z.2) hx0⟩, by show va_P _ _ _ t.heap; rw [ht]; exact hP⟩, hS.F ht⟩) hS.2.2 dX6_forget_17
