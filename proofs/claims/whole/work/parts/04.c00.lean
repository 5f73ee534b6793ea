theorem in_X5_names_X5 : ∀ w ∈ wsX50, w ∈ wsX5_names := by decide +kernel
set_option maxHeartbeats 4000000 in
set_option maxRecDepth 100000 in
theorem c_X5_names (l : Launch) (D : va_G) (cI cJ : ClassId) (q : Nat → Nat) (hq : CUQ q) (F : Nat) (I : Nat → Int32) (J : Nat → Int64) (a : Nat → Nat → Int32) (b : Nat → Nat → Int64) (x0 : Int32) (h : f_X5_names F I J a b = some x0) : Met l yX5_names wsX5_names ({ frames := 0, cells := 0, slots := 0, locals := 0 }) (CUPc D cI cJ q I J a b [.ref (q 1)]) (va_Qi (fun (r : Int32) (u : Unit) => r = x0) (fun (u : Unit) t => va_P D vwCl (CUW cI cJ q I J a b) t.heap) (CUA q)) 0 0 (CUA q) := by
  refine mt_of (cc := cX5_names) (maxL := 1) (ret := (some .int)) (by decide) rfl ?_
  intro p e s m args below meth c s₁ B0 hml hv R Q hR hQ
  obtain ⟨hargs, hP, hK, hN⟩ := hv
  have hx := B0.exec
  have hb := B0.bytes
  have hr := B0.returns
  have hts := atoms_spec (ws := wsX5_names) B0.pre
  have hown : s.vm.findClass RX5 = some m.cls := findClass_of_methodNamed B0.named
  have hlocks := B0.notSynchronized
  have hS : va_S (CUA q) s.heap s.heap [] := va_S.rf
  have hl := lv_entry ([.ref (q 1)]) (n := 1) (Nat.le_of_ble_eq_true rfl)
  rw [hargs, lg_entry_eq]
  rw [← hargs]
  generalize (lg_sl ([.ref (q 1)]) ++ List.replicate (1 - (lg_sl ([.ref (q 1)])).length) Slot.unset).toArray = ls at hl ⊢
  have hl : lv_has ls 1 [(0, .ref (q 1))] := hl
  unfold f_X5_names at h
  refine lv_aload_n hx hb dX5_names_0 rfl (lv_at hl 0 rfl) ?_
  refine va_get (D := D) (ci := 5) (v := .int (I 4)) (C := RX5) (T := TX5) (N := 9) hx hb hts in_X5_names_X5 hown hK hP 1 rfl rfl 0 (by decide) (hts (.fieldLink RX5 24 "LearnedReasons$Things" "names" "I") (by decide +kernel)) (fun _ h9 => h9) rfl dX5_names_1 ?_
  have hx0 := Option.some.inj h
  rw [hQ]
  exact W.iret (v := I 4) hx hb hr (fun t ht hW => ⟨⟨(I 4), (), rfl, hx0, by show va_P _ _ _ t.heap; rw [ht]; exact hP⟩, hS.F ht⟩) hS.2.2 dX5_names_4
theorem in_X2_removeAll_X2 : ∀ w ∈ wsX20, w ∈ wsX2_removeAll := by decide +kernel
set_option maxHeartbeats 4000000 in
set_option maxRecDepth 100000 in
theorem c_X2_removeAll (l : Launch) (D : va_G) (cI cJ : ClassId) (q : Nat → Nat) (hq : CUQ q) (F : Nat) (I : Nat → Int32) (J : Nat → Int64) (a : Nat → Nat → Int32) (b : Nat → Nat → Int64) (x0 : Int32) (h : f_X2_removeAll F I J a b = some x0) : Met l yX2_removeAll wsX2_removeAll ({ frames := 0, cells := 0, slots := 0, locals := 0 }) (CUPc D cI cJ q I J a b [.ref (q 2)]) (va_Qv (fun (u : Int32) => u = x0) (fun (u : Int32) t => va_P D vwCl (CUW cI cJ q (fu I 6 u) J a b) t.heap) (CUA q)) 0 0 (CUA q) := by
  refine mt_of (cc := cX2_removeAll) (maxL := 1) (ret := none) (by decide) rfl ?_
  intro p e s m args below meth c s₁ B0 hml hv R Q hR hQ
  obtain ⟨hargs, hP, hK, hN⟩ := hv
  have hx := B0.exec
  have hb := B0.bytes
  have hr := B0.returns
  have hts := atoms_spec (ws := wsX2_removeAll) B0.pre
  have hown : s.vm.findClass RX2 = some m.cls := findClass_of_methodNamed B0.named
  have hlocks := B0.notSynchronized
  have hS : va_S (CUA q) s.heap s.heap [] := va_S.rf
  have hl := lv_entry ([.ref (q 2)]) (n := 1) (Nat.le_of_ble_eq_true rfl)
  rw [hargs, lg_entry_eq]
  rw [← hargs]
  generalize (lg_sl ([.ref (q 2)]) ++ List.replicate (1 - (lg_sl ([.ref (q 2)])).length) Slot.unset).toArray = ls at hl ⊢
  have hl : lv_has ls 1 [(0, .ref (q 2))] := hl
  unfold f_X2_removeAll at h
  refine lv_aload_n hx hb dX2_removeAll_0 rfl (lv_at hl 0 rfl) ?_
  refine lv_iconst (v := 0) hx hb dX2_removeAll_1 (by decide) ?_
  refine va_put (D := D) (ci := 2) (v := .int 0) (ty := .int) (C := RX2) (T := TX2) (N := 3) hx hb hts in_X2_removeAll_X2 tyX2 tyX2_ok nmX2 hown hK hP (CUW_D hq) hS 2 rfl rfl 0 (by decide) (hts (.fieldLink RX2 18 "LearnedReasons$Lemmas" "size" "I") (by decide +kernel)) (fun _ h9 => h9) rfl (by decide +kernel) rfl rfl (Nat.le_of_ble_eq_true rfl) dX2_removeAll_2 (fun H locs hP _ hS => ?_)
  have hP : va_P D vwCl (CUW cI cJ q (fu I 6 0) J a b) H := hP
  have hx0 := Option.some.inj h
  rw [hQ]
  exact W.vret hx hb hr (fun t ht hW => ⟨⟨0, rfl, hx0, by show va_P _ _ _ t.heap; rw [ht]; exact hP⟩, hS.F ht⟩) hS.2.2 dX2_removeAll_5
theorem in_X4_outdate_X4 : ∀ w ∈ wsX40, w ∈ wsX4_outdate := by decide +kernel
set_option maxHeartbeats 4000000 in
set_option maxRecDepth 100000 in
theorem c_X4_outdate (l : Launch) (D : va_G) (cI cJ : ClassId) (q : Nat → Nat) (hq : CUQ q) (F : Nat) (I : Nat → Int32) (J : Nat → Int64) (a : Nat → Nat → Int32) (b : Nat → Nat → Int64) (x0 : Int32) (h : f_X4_outdate F I J a b = some x0) : Met l yX4_outdate wsX4_outdate ({ frames := 0, cells := 0, slots := 0, locals := 0 }) (CUPc D cI cJ q I J a b [.ref (q 5)]) (va_Qv (fun (u : Int32) => u = x0) (fun (u : Int32) t => va_P D vwCl (CUW cI cJ q (fu I 11 u) J a b) t.heap) (CUA q)) 0 0 (CUA q) := by
  refine mt_of (cc := cX4_outdate) (maxL := 1) (ret := none) (by decide) rfl ?_
  intro p e s m args below meth c s₁ B0 hml hv R Q hR hQ
  obtain ⟨hargs, hP, hK, hN⟩ := hv
  have hx := B0.exec
  have hb := B0.bytes
  have hr := B0.returns
  have hts := atoms_spec (ws := wsX4_outdate) B0.pre
  have hown : s.vm.findClass RX4 = some m.cls := findClass_of_methodNamed B0.named
  have hlocks := B0.notSynchronized
  have hS : va_S (CUA q) s.heap s.heap [] := va_S.rf
  have hl := lv_entry ([.ref (q 5)]) (n := 1) (Nat.le_of_ble_eq_true rfl)
  rw [hargs, lg_entry_eq]
  rw [← hargs]
  generalize (lg_sl ([.ref (q 5)]) ++ List.replicate (1 - (lg_sl ([.ref (q 5)])).length) Slot.unset).toArray = ls at hl ⊢
  have hl : lv_has ls 1 [(0, .ref (q 5))] := hl
  unfold f_X4_outdate at h
  refine lv_aload_n hx hb dX4_outdate_0 rfl (lv_at hl 0 rfl) ?_
  refine lv_iconst (v := 0) hx hb dX4_outdate_1 (by decide) ?_
  refine va_put (D := D) (ci := 4) (v := .int 0) (ty := .boolean) (C := RX4) (T := TX4) (N := 9) hx hb hts in_X4_outdate_X4 tyX4 tyX4_ok nmX4 hown hK hP (CUW_D hq) hS 5 rfl rfl 3 (by decide) (hts (.fieldLink RX4 23 "LearnedReasons$Search" "isDone" "Z") (by decide +kernel)) (fun _ h9 => h9) rfl (by decide +kernel) rfl rfl (Nat.le_of_ble_eq_true rfl) dX4_outdate_2 (fun H locs hP _ hS => ?_)
  have hP : va_P D vwCl (CUW cI cJ q (fu I 11 0) J a b) H := hP
  have hx0 := Option.some.inj h
  rw [hQ]
  exact W.vret hx hb hr (fun t ht hW => ⟨⟨0, rfl, hx0, by show va_P _ _ _ t.heap; rw [ht]; exact hP⟩, hS.F ht⟩) hS.2.2 dX4_outdate_5
theorem in_X3_outdate_X3 : ∀ w ∈ wsX30, w ∈ wsX3_outdate := by decide +kernel
set_option maxHeartbeats 4000000 in
set_option maxRecDepth 100000 in
theorem c_X3_outdate (l : Launch) (D : va_G) (cI cJ : ClassId) (q : Nat → Nat) (hq : CUQ q) (F : Nat) (I : Nat → Int32) (J : Nat → Int64) (a : Nat → Nat → Int32) (b : Nat → Nat → Int64) (x0 : Int32 × Int32) (h : f_X3_outdate F I J a b = some x0) : Met l yX3_outdate wsX3_outdate ({ frames := 0, cells := 0, slots := 0, locals := 0 }) (CUPc D cI cJ q I J a b [.ref (q 6)]) (va_Qv (fun (u : Int32 × Int32) => u = x0) (fun (u : Int32 × Int32) t => va_P D vwCl (CUW cI cJ q (fu (fu I 17 u.1) 18 u.2) J a b) t.heap) (CUA q)) 0 0 (CUA q) := by
  refine mt_of (cc := cX3_outdate) (maxL := 1) (ret := none) (by decide) rfl ?_
  intro p e s m args below meth c s₁ B0 hml hv R Q hR hQ
  obtain ⟨hargs, hP, hK, hN⟩ := hv
  have hx := B0.exec
  have hb := B0.bytes
  have hr := B0.returns
  have hts := atoms_spec (ws := wsX3_outdate) B0.pre
  have hown : s.vm.findClass RX3 = some m.cls := findClass_of_methodNamed B0.named
  have hlocks := B0.notSynchronized
  have hS : va_S (CUA q) s.heap s.heap [] := va_S.rf
  have hl := lv_entry ([.ref (q 6)]) (n := 1) (Nat.le_of_ble_eq_true rfl)
  rw [hargs, lg_entry_eq]
  rw [← hargs]
  generalize (lg_sl ([.ref (q 6)]) ++ List.replicate (1 - (lg_sl ([.ref (q 6)])).length) Slot.unset).toArray = ls at hl ⊢
  have hl : lv_has ls 1 [(0, .ref (q 6))] := hl
  unfold f_X3_outdate at h
  refine lv_aload_n hx hb dX3_outdate_0 rfl (lv_at hl 0 rfl) ?_
  refine lv_iconst (v := 0) hx hb dX3_outdate_1 (by decide) ?_
  refine va_put (D := D) (ci := 3) (v := .int 0) (ty := .boolean) (C := RX3) (T := TX3) (N := 13) hx hb hts in_X3_outdate_X3 tyX3 tyX3_ok nmX3 hown hK hP (CUW_D hq) hS 6 rfl rfl 5 (by decide) (hts (.fieldLink RX3 29 "LearnedReasons$Models" "isCounted" "Z") (by decide +kernel)) (fun _ h9 => h9) rfl (by decide +kernel) rfl rfl (Nat.le_of_ble_eq_true rfl) dX3_outdate_2 (fun H locs hP _ hS => ?_)
  have hP : va_P D vwCl (CUW cI cJ q (fu I 17 0) J a b) H := hP
  refine lv_aload_n hx hb dX3_outdate_5 rfl (lv_at hl 0 rfl) ?_
  refine lv_iconst (v := 0) hx hb dX3_outdate_6 (by decide) ?_
  refine va_put (D := D) (ci := 3) (v := .int 0) (ty := .boolean) (C := RX3) (T := TX3) (N := 13) hx hb hts in_X3_outdate_X3 tyX3 tyX3_ok nmX3 hown hK hP (CUW_D hq) hS 6 rfl rfl 6 (by decide) (hts (.fieldLink RX3 33 "LearnedReasons$Models" "isCored" "Z") (by decide +kernel)) (fun _ h9 => h9) rfl (by decide +kernel) rfl rfl (Nat.le_of_ble_eq_true rfl) dX3_outdate_7 (fun H locs hP _ hS => ?_)
  have hP : va_P D vwCl (CUW cI cJ q (fu (fu I 17 0) 18 0) J a b) H := hP
  have hx0 := Option.some.inj h
  rw [hQ]
  exact W.vret hx hb hr (fun t ht hW => ⟨⟨(0, 0), rfl, hx0, by show va_P _ _ _ t.heap; rw [ht]; exact hP⟩, hS.F ht⟩) hS.2.2 dX3_outdate_10
theorem in_X6_outdate_X6 : ∀ w ∈ wsX60, w ∈ wsX6_outdate := by decide +kernel
set_option maxHeartbeats 4000000 in
set_option maxRecDepth 100000 in
theorem c_X6_outdate (l : Launch) (D : va_G) (cI cJ : ClassId) (q : Nat → Nat) (hq : CUQ q) (F : Nat) (I : Nat → Int32) (J : Nat → Int64) (a : Nat → Nat → Int32) (b : Nat → Nat → Int64) (x0 : Int32 × Int32 × Int32 × Int32) (h : f_X6_outdate F I J a b = some x0) : Met l yX6_outdate wsX6_outdate ({ frames := 1, cells := 0, slots := 0, locals := 20 }) (CUPc D cI cJ q I J a b [.ref (q 0)]) (va_Qv (fun (u : Int32 × Int32 × Int32 × Int32) => u = x0) (fun (u : Int32 × Int32 × Int32 × Int32) t => va_P D vwCl (CUW cI cJ q (fu (fu (fu (fu I 6 u.1) 11 u.2.1) 17 u.2.2.1) 18 u.2.2.2) J a b) t.heap) (CUA q)) 0 0 (CUA q) := by
  refine mt_of (cc := cX6_outdate) (maxL := 1) (ret := none) (by decide) rfl ?_
  intro p e s m args below meth c s₁ B0 hml hv R Q hR hQ
  obtain ⟨hargs, hP, hK, hN⟩ := hv
  have hx := B0.exec
  have hb := B0.bytes
  have hr := B0.returns
  have hts := atoms_spec (ws := wsX6_outdate) B0.pre
  have hown : s.vm.findClass RX6 = some m.cls := findClass_of_methodNamed B0.named
  have hlocks := B0.notSynchronized
  have hS : va_S (CUA q) s.heap s.heap [] := va_S.rf
  have hl := lv_entry ([.ref (q 0)]) (n := 1) (Nat.le_of_ble_eq_true rfl)
  rw [hargs, lg_entry_eq]
  rw [← hargs]
  generalize (lg_sl ([.ref (q 0)]) ++ List.replicate (1 - (lg_sl ([.ref (q 0)])).length) Slot.unset).toArray = ls at hl ⊢
  have hl : lv_has ls 1 [(0, .ref (q 0))] := hl
  unfold f_X6_outdate at h
  refine lv_aload_n hx hb dX6_outdate_0 rfl (lv_at hl 0 rfl) ?_
  refine va_get (D := D) (ci := 6) (v := .ref (q 2)) (C := RX6) (T := TX6) (N := 9) hx hb hts in_X6_outdate_X6 hown hK hP 0 rfl rfl 1 (by decide) (hts (.fieldLink RX6 19 "LearnedReasons" "heldLemmas" "LLearnedReasons$Lemmas;") (by decide +kernel)) (fun _ h9 => h9) rfl dX6_outdate_1 ?_
  obtain ⟨x_1, hx_1, h⟩ := ob_some h
  refine va_callv (va_runV (As := []) (rest := []) ⟨hx, hb, hml, hown, hts⟩ (c_X2_removeAll l D cI cJ q hq F I J a b x_1 hx_1) (cwV 0 hts gX6_outdate_X2_removeAll rfl rfl rfl (by decide +kernel) (by rw [hR]; exact ⟨Nat.le_of_ble_eq_true rfl, Nat.le_of_ble_eq_true rfl⟩)) ⟨CUPc_blind, va_recv hK hP (ci := 2) (q0 := 2) rfl rfl, fun U hU hW => ⟨rfl, by rw [hU]; exact hP, va_K.moved hW.alike hK, va_Nw.warmM hW hN⟩⟩ rfl rfl hl.1 rfl (lv_room (Nat.le_of_ble_eq_true rfl)) dX6_outdate_4 ⟨Nat.zero_le _, Nat.zero_le _⟩) hS (fun _ _ h => h) (fun _ h => h) (fun u t H1 locs ht hvm hw hB hz1 hk1 hS => ?_)
  obtain rfl := hw.symm
  rw [ht] at hB
  have hP : va_P D vwCl (CUW cI cJ q (fu I 6 x_1) J a b) H1 := hB
  clear hB hz1 hk1 ht hvm
  generalize H1 = H at hP hS ⊢
  refine lv_aload_n hx hb dX6_outdate_7 rfl (lv_at hl 0 rfl) ?_
  refine va_get (D := D) (ci := 6) (v := .ref (q 5)) (C := RX6) (T := TX6) (N := 9) hx hb hts in_X6_outdate_X6 hown hK hP 0 rfl rfl 3 (by decide) (hts (.fieldLink RX6 40 "LearnedReasons" "theSearch" "LLearnedReasons$Search;") (by decide +kernel)) (fun _ h9 => h9) rfl dX6_outdate_8 ?_
  obtain ⟨x_2, hx_2, h⟩ := ob_some h
  refine va_callv (va_runV (As := []) (rest := []) ⟨hx, hb, hml, hown, hts⟩ (c_X4_outdate l D cI cJ q hq F (fu I 6 x_1) J a b x_2 hx_2) (cwV 0 hts gX6_outdate_X4_outdate rfl rfl rfl (by decide +kernel) (by rw [hR]; exact ⟨Nat.le_of_ble_eq_true rfl, Nat.le_of_ble_eq_true rfl⟩)) ⟨CUPc_blind, va_recv hK hP (ci := 4) (q0 := 5) rfl rfl, fun U hU hW => ⟨rfl, by rw [hU]; exact hP, va_K.moved hW.alike hK, va_Nw.warmM hW hN⟩⟩ rfl rfl hl.1 rfl (lv_room (Nat.le_of_ble_eq_true rfl)) dX6_outdate_11 ⟨Nat.zero_le _, Nat.zero_le _⟩) hS (fun _ _ h => h) (fun _ h => h) (fun u t H1 locs ht hvm hw hB hz1 hk1 hS => ?_)
  obtain rfl := hw.symm
  rw [ht] at hB
  have hP : va_P D vwCl (CUW cI cJ q (fu (fu I 6 x_1) 11 x_2) J a b) H1 := hB
  clear hB hz1 hk1 ht hvm
  generalize H1 = H at hP hS ⊢
  refine lv_aload_n hx hb dX6_outdate_14 rfl (lv_at hl 0 rfl) ?_
  refine va_get (D := D) (ci := 6) (v := .ref (q 6)) (C := RX6) (T := TX6) (N := 9) hx hb hts in_X6_outdate_X6 hown hK hP 0 rfl rfl 4 (by decide) (hts (.fieldLink RX6 49 "LearnedReasons" "models" "LLearnedReasons$Models;") (by decide +kernel)) (fun _ h9 => h9) rfl dX6_outdate_15 ?_
  obtain ⟨x_3, hx_3, h⟩ := ob_some h
  refine va_callv (va_runV (As := []) (rest := []) ⟨hx, hb, hml, hown, hts⟩ (c_X3_outdate l D cI cJ q hq F (fu (fu I 6 x_1) 11 x_2) J a b x_3 hx_3) (cwV 0 hts gX6_outdate_X3_outdate rfl rfl rfl (by decide +kernel) (by rw [hR]; exact ⟨Nat.le_of_ble_eq_true rfl, Nat.le_of_ble_eq_true rfl⟩)) ⟨CUPc_blind, va_recv hK hP (ci := 3) (q0 := 6) rfl rfl, fun U hU hW => ⟨rfl, by rw [hU]; exact hP, va_K.moved hW.alike hK, va_Nw.warmM hW hN⟩⟩ rfl rfl hl.1 rfl (lv_room (Nat.le_of_ble_eq_true rfl)) dX6_outdate_18 ⟨Nat.zero_le _, Nat.zero_le _⟩) hS (fun _ _ h => h) (fun _ h => h) (fun u t H1 locs ht hvm hw hB hz1 hk1 hS => ?_)
  obtain rfl := hw.symm
  rw [ht] at hB
  have hP : va_P D vwCl (CUW cI cJ q (fu (fu (fu (fu I 6 x_1) 11 x_2) 17 x_3.1) 18 x_3.2) J a b) H1 := hB
  clear hB hz1 hk1 ht hvm
  generalize H1 = H at hP hS ⊢
  have hx0 := Option.some.inj h
  rw [hQ]
  exact W.vret hx hb hr (fun t ht hW => ⟨⟨(x_1, x_2, x_3.1, x_3.2), rfl, hx0, by show va_P _ _ _ t.heap; rw [ht]; exact hP⟩, hS.F ht⟩) hS.2.2 dX6_outdate_21
theorem in_X5_addName_X5 : ∀ w ∈ wsX50, w ∈ wsX5_addName := by decide +kernel
set_option maxHeartbeats 4000000 in
set_option maxRecDepth 100000 in
theorem c_X5_addName (l : Launch) (D : va_G) (cI cJ : ClassId) (q : Nat → Nat) (hq : CUQ q) (F : Nat) (I : Nat → Int32) (J : Nat → Int64) (a : Nat → Nat → Int32) (b : Nat → Nat → Int64) (x0 : Int32 × Int32 × Int64) (h : f_X5_addName F I J a b = some x0) : Met l yX5_addName wsX5_addName ({ frames := 0, cells := 0, slots := 0, locals := 0 }) (CUPc D cI cJ q I J a b [.ref (q 1)]) (va_Qi (fun (r : Int32) (u : Int32 × Int64) => r = x0.1 ∧ u = x0.2) (fun (u : Int32 × Int64) t => va_P D vwCl (CUW cI cJ q (fu I 4 u.1) (fu J 2 u.2) a b) t.heap) (CUA q)) 0 0 (CUA q) := by
  refine mt_of (cc := cX5_addName) (maxL := 2) (ret := (some .int)) (by decide) rfl ?_
  intro p e s m args below meth c s₁ B0 hml hv R Q hR hQ
  obtain ⟨hargs, hP, hK, hN⟩ := hv
  have hx := B0.exec
  have hb := B0.bytes
  have hr := B0.returns
  have hts := atoms_spec (ws := wsX5_addName) B0.pre
  have hown : s.vm.findClass RX5 = some m.cls := findClass_of_methodNamed B0.named
  have hlocks := B0.notSynchronized
  have hS : va_S (CUA q) s.heap s.heap [] := va_S.rf
  have hl := lv_entry ([.ref (q 1)]) (n := 2) (Nat.le_of_ble_eq_true rfl)
  rw [hargs, lg_entry_eq]
  rw [← hargs]
  generalize (lg_sl ([.ref (q 1)]) ++ List.replicate (2 - (lg_sl ([.ref (q 1)])).length) Slot.unset).toArray = ls at hl ⊢
  have hl : lv_has ls 2 [(0, .ref (q 1))] := hl
  unfold f_X5_addName at h
  refine lv_aload_n hx hb dX5_addName_0 rfl (lv_at hl 0 rfl) ?_
  refine va_get (D := D) (ci := 5) (v := .int (I 4)) (C := RX5) (T := TX5) (N := 9) hx hb hts in_X5_addName_X5 hown hK hP 1 rfl rfl 0 (by decide) (hts (.fieldLink RX5 24 "LearnedReasons$Things" "names" "I") (by decide +kernel)) (fun _ h9 => h9) rfl dX5_addName_1 ?_
  refine lv_istore_n (lv' := [(1, .int (I 4)), (0, .ref (q 1))]) hx hb dX5_addName_4 rfl hl (by decide) rfl (fun ls hl => ?_)
  refine lv_aload_n hx hb dX5_addName_5 rfl (lv_at hl 1 rfl) ?_
  refine lv_dup hx hb dX5_addName_6 rfl ?_
  refine va_get (D := D) (ci := 5) (v := .int (I 4)) (C := RX5) (T := TX5) (N := 9) hx hb hts in_X5_addName_X5 hown hK hP 1 rfl rfl 0 (by decide) (hts (.fieldLink RX5 24 "LearnedReasons$Things" "names" "I") (by decide +kernel)) (fun _ h9 => h9) rfl dX5_addName_7 ?_
  refine lv_iconst (v := 1) hx hb dX5_addName_10 (by decide) ?_
  refine lv_iadd hx hb dX5_addName_11 ?_
  refine lv_topi (fun v_1 ev_1 => ?_)
  have h := nmI_at ev_1 h
  refine va_put (D := D) (ci := 5) (v := .int v_1) (ty := .int) (C := RX5) (T := TX5) (N := 9) hx hb hts in_X5_addName_X5 tyX5 tyX5_ok nmX5 hown hK hP (CUW_D hq) hS 1 rfl rfl 0 (by decide) (hts (.fieldLink RX5 24 "LearnedReasons$Things" "names" "I") (by decide +kernel)) (fun _ h9 => h9) rfl (by decide +kernel) rfl rfl (Nat.le_of_ble_eq_true rfl) dX5_addName_12 (fun H locs hP _ hS => ?_)
  have hP : va_P D vwCl (CUW cI cJ q (fu I 4 v_1) J a b) H := hP
  refine lv_aload_n hx hb dX5_addName_15 rfl (lv_at hl 1 rfl) ?_
  refine lv_aload_n hx hb dX5_addName_16 rfl (lv_at hl 1 rfl) ?_
  refine va_get (D := D) (ci := 5) (v := .long (J 0)) (C := RX5) (T := TX5) (N := 9) hx hb hts in_X5_addName_X5 hown hK hP 1 rfl rfl 2 (by decide) (hts (.fieldLink RX5 28 "LearnedReasons$Things" "standing" "J") (by decide +kernel)) (fun _ h9 => h9) rfl dX5_addName_17 ?_
  refine va_put (D := D) (ci := 5) (v := .long (J 0)) (ty := .long) (C := RX5) (T := TX5) (N := 9) hx hb hts in_X5_addName_X5 tyX5 tyX5_ok nmX5 hown hK hP (CUW_D hq) hS 1 rfl rfl 4 (by decide) (hts (.fieldLink RX5 32 "LearnedReasons$Things" "unread" "J") (by decide +kernel)) (fun _ h9 => h9) rfl (by decide +kernel) rfl rfl (Nat.le_of_ble_eq_true rfl) dX5_addName_20 (fun H locs hP _ hS => ?_)
  have hP : va_P D vwCl (CUW cI cJ q (fu I 4 v_1) (fu J 2 (J 0)) a b) H := hP
  refine lv_iload_n hx hb dX5_addName_23 rfl (lv_at hl 0 rfl) ?_
  have hx0 := Option.some.inj h
  rw [hQ]
  exact W.iret (v := I 4) hx hb hr (fun t ht hW => ⟨⟨(I 4), (v_1, (J 0)), rfl, ⟨congrArg (fun z => z.1) hx0, congrArg (fun z => z.2) hx0⟩, by show va_P _ _ _ t.heap; rw [ht]; exact hP⟩, hS.F ht⟩) hS.2.2 dX5_addName_24
theorem in_X6_name_X6 : ∀ w ∈ wsX60, w ∈ wsX6_name := by decide +kernel
set_option maxHeartbeats 4000000 in
set_option maxRecDepth 100000 in
theorem c_X6_name (l : Launch) (D : va_G) (cI cJ : ClassId) (q : Nat → Nat) (hq : CUQ q) (F : Nat) (I : Nat → Int32) (J : Nat → Int64) (a : Nat → Nat → Int32) (b : Nat → Nat → Int64) (x0 : Int32 × Int32 × Int32 × Int32 × Int32 × Int32 × Int64) (h : f_X6_name F I J a b = some x0) : Met l yX6_name wsX6_name ({ frames := 2, cells := 0, slots := 0, locals := 40 }) (CUPc D cI cJ q I J a b [.ref (q 0)]) (va_Qi (fun (r : Int32) (u : Int32 × Int32 × Int32 × Int32 × Int32 × Int64) => r = x0.1 ∧ u = x0.2) (fun (u : Int32 × Int32 × Int32 × Int32 × Int32 × Int64) t => va_P D vwCl (CUW cI cJ q (fu (fu (fu (fu (fu I 4 u.1) 6 u.2.1) 11 u.2.2.1) 17 u.2.2.2.1) 18 u.2.2.2.2.1) (fu J 2 u.2.2.2.2.2) a b) t.heap) (CUA q)) 0 0 (CUA q) := by
  refine mt_of (cc := cX6_name) (maxL := 1) (ret := (some .int)) (by decide) rfl ?_
  intro p e s m args below meth c s₁ B0 hml hv R Q hR hQ
  obtain ⟨hargs, hP, hK, hN⟩ := hv
  have hx := B0.exec
  have hb := B0.bytes
  have hr := B0.returns
  have hts := atoms_spec (ws := wsX6_name) B0.pre
  have hown : s.vm.findClass RX6 = some m.cls := findClass_of_methodNamed B0.named
  have hlocks := B0.notSynchronized
  have hS : va_S (CUA q) s.heap s.heap [] := va_S.rf
  have hl := lv_entry ([.ref (q 0)]) (n := 1) (Nat.le_of_ble_eq_true rfl)
  rw [hargs, lg_entry_eq]
  rw [← hargs]
  generalize (lg_sl ([.ref (q 0)]) ++ List.replicate (1 - (lg_sl ([.ref (q 0)])).length) Slot.unset).toArray = ls at hl ⊢
  have hl : lv_has ls 1 [(0, .ref (q 0))] := hl
  unfold f_X6_name at h
  refine lv_aload_n hx hb dX6_name_0 rfl (lv_at hl 0 rfl) ?_
  refine va_get (D := D) (ci := 6) (v := .ref (q 1)) (C := RX6) (T := TX6) (N := 9) hx hb hts in_X6_name_X6 hown hK hP 0 rfl rfl 0 (by decide) (hts (.fieldLink RX6 10 "LearnedReasons" "things" "LLearnedReasons$Things;") (by decide +kernel)) (fun _ h9 => h9) rfl dX6_name_1 ?_
  obtain ⟨x_1, hx_1, h⟩ := ob_some h
  refine va_calli (va_runV (As := []) (rest := []) ⟨hx, hb, hml, hown, hts⟩ (c_X5_names l D cI cJ q hq F I J a b x_1 hx_1) (cwV 0 hts gX6_name_X5_names rfl rfl rfl (by decide +kernel) (by rw [hR]; exact ⟨Nat.le_of_ble_eq_true rfl, Nat.le_of_ble_eq_true rfl⟩)) ⟨CUPc_blind, va_recv hK hP (ci := 5) (q0 := 1) rfl rfl, fun U hU hW => ⟨rfl, by rw [hU]; exact hP, va_K.moved hW.alike hK, va_Nw.warmM hW hN⟩⟩ rfl rfl hl.1 rfl (lv_room (Nat.le_of_ble_eq_true rfl)) dX6_name_4 ⟨Nat.zero_le _, Nat.zero_le _⟩) hS (fun _ _ h => h) (fun _ h => h) (fun r u t H1 locs ht hvm hw hB hz1 hk1 hS => ?_)
  obtain rfl := hw.symm
  rw [ht] at hB
  have hP : va_P D vwCl (CUW cI cJ q I J a b) H1 := hB
  clear hB hz1 hk1 ht hvm
  generalize H1 = H at hP hS ⊢
  refine lv_bipush (v := 14) hx hb dX6_name_7 (by decide) ?_
  refine lv_icmp_lt (tgt := 15) hx hb dX6_name_9 (by decide) (fun c_2 => ?_) (fun c_2 => ?_)
  · have h := if_t c_2 h
    refine lv_aload_n hx hb dX6_name_15 rfl (lv_at hl 0 rfl) ?_
    obtain ⟨x_3, hx_3, h⟩ := ob_some h
    refine va_callv (va_runV (As := []) (rest := []) ⟨hx, hb, hml, hown, hts⟩ (c_X6_outdate l D cI cJ q hq F I J a b x_3 hx_3) (cwV 0 hts gX6_name_X6_outdate rfl rfl rfl (by decide +kernel) (by rw [hR]; exact ⟨Nat.le_of_ble_eq_true rfl, Nat.le_of_ble_eq_true rfl⟩)) ⟨CUPc_blind, va_recv hK hP (ci := 6) (q0 := 0) rfl rfl, fun U hU hW => ⟨rfl, by rw [hU]; exact hP, va_K.moved hW.alike hK, va_Nw.warmM hW hN⟩⟩ rfl rfl hl.1 rfl (lv_room (Nat.le_of_ble_eq_true rfl)) dX6_name_16 ⟨Nat.zero_le _, Nat.zero_le _⟩) hS (fun _ _ h => h) (fun _ h => h) (fun u t H1 locs ht hvm hw hB hz1 hk1 hS => ?_)
    obtain rfl := hw.symm
    rw [ht] at hB
    have hP : va_P D vwCl (CUW cI cJ q (fu (fu (fu (fu I 6 x_3.1) 11 x_3.2.1) 17 x_3.2.2.1) 18 x_3.2.2.2) J a b) H1 := hB
    clear hB hz1 hk1 ht hvm
    generalize H1 = H at hP hS ⊢
    refine lv_aload_n hx hb dX6_name_19 rfl (lv_at hl 0 rfl) ?_
    refine va_get (D := D) (ci := 6) (v := .ref (q 1)) (C := RX6) (T := TX6) (N := 9) hx hb hts in_X6_name_X6 hown hK hP 0 rfl rfl 0 (by decide) (hts (.fieldLink RX6 10 "LearnedReasons" "things" "LLearnedReasons$Things;") (by decide +kernel)) (fun _ h9 => h9) rfl dX6_name_20 ?_
    obtain ⟨x_4, hx_4, h⟩ := ob_some h
    refine va_calli (va_runV (As := []) (rest := []) ⟨hx, hb, hml, hown, hts⟩ (c_X5_addName l D cI cJ q hq F (fu (fu (fu (fu I 6 x_3.1) 11 x_3.2.1) 17 x_3.2.2.1) 18 x_3.2.2.2) J a b x_4 hx_4) (cwV 0 hts gX6_name_X5_addName rfl rfl rfl (by decide +kernel) (by rw [hR]; exact ⟨Nat.le_of_ble_eq_true rfl, Nat.le_of_ble_eq_true rfl⟩)) ⟨CUPc_blind, va_recv hK hP (ci := 5) (q0 := 1) rfl rfl, fun U hU hW => ⟨rfl, by rw [hU]; exact hP, va_K.moved hW.alike hK, va_Nw.warmM hW hN⟩⟩ rfl rfl hl.1 rfl (lv_room (Nat.le_of_ble_eq_true rfl)) dX6_name_23 ⟨Nat.zero_le _, Nat.zero_le _⟩) hS (fun _ _ h => h) (fun _ h => h) (fun r u t H1 locs ht hvm hw hB hz1 hk1 hS => ?_)
    obtain ⟨rfl, rfl⟩ := hw
    rw [ht] at hB
    have hP : va_P D vwCl (CUW cI cJ q (fu (fu (fu (fu (fu I 4 x_4.2.1) 6 x_3.1) 11 x_3.2.1) 17 x_3.2.2.1) 18 x_3.2.2.2) (fu J 2 x_4.2.2) a b) H1 := hB
    clear hB hz1 hk1 ht hvm
    generalize H1 = H at hP hS ⊢
    have hx0 := Option.some.inj h
    rw [hQ]
    exact W.iret (v := x_4.1) hx hb hr (fun t ht hW => ⟨⟨x_4.1, (x_4.2.1, x_3.1, x_3.2.1, x_3.2.2.1, x_3.2.2.2, x_4.2.2), rfl, ⟨congrArg (fun z => z.1) hx0, congrArg (fun z => z.2) hx0⟩, by show va_P _ _ _ t.heap; rw [ht]; exact hP⟩, hS.F ht⟩) hS.2.2 dX6_name_26
  · have h := if_f c_2 h
    refine lv_bipush (v := (-4)) hx hb dX6_name_12 (by decide) ?_
    have hx0 := Option.some.inj h
    rw [hQ]
    exact W.iret (v := (-4)) hx hb hr (fun t ht hW => ⟨⟨(-4), ((I 4), (I 6), (I 11), (I 17), (I 18), (J 2)), rfl, ⟨congrArg (fun z => z.1) hx0, congrArg (fun z => z.2) hx0⟩, by show va_P _ _ _ t.heap; rw [ht]; exact hP⟩, hS.F ht⟩) hS.2.2 dX6_name_14
theorem in_X5_isName_X5 : ∀ w ∈ wsX50, w ∈ wsX5_isName := by decide +kernel
set_option maxHeartbeats 4000000 in
set_option maxRecDepth 100000 in
theorem c_X5_isName (l : Launch) (D : va_G) (cI cJ : ClassId) (q : Nat → Nat) (hq : CUQ q) (F : Nat) (I : Nat → Int32) (J : Nat → Int64) (a : Nat → Nat → Int32) (b : Nat → Nat → Int64) (v1 : Int32) (x0 : Int32) (h : f_X5_isName F I J a b v1 = some x0) : Met l yX5_isName wsX5_isName ({ frames := 0, cells := 0, slots := 0, locals := 0 }) (CUPc D cI cJ q I J a b [.ref (q 1), .int v1]) (va_Qi (fun (r : Int32) (u : Unit) => r = x0) (fun (u : Unit) t => va_P D vwCl (CUW cI cJ q I J a b) t.heap) (CUA q)) 0 0 (CUA q) := by
  refine mt_of (cc := cX5_isName) (maxL := 2) (ret := (some .boolean)) (by decide) rfl ?_
  intro p e s m args below meth c s₁ B0 hml hv R Q hR hQ
  obtain ⟨hargs, hP, hK, hN⟩ := hv
  have hx := B0.exec
  have hb := B0.bytes
  have hr := B0.returns
  have hts := atoms_spec (ws := wsX5_isName) B0.pre
  have hown : s.vm.findClass RX5 = some m.cls := findClass_of_methodNamed B0.named
  have hlocks := B0.notSynchronized
  have hS : va_S (CUA q) s.heap s.heap [] := va_S.rf
  have hl := lv_entry ([.ref (q 1), .int v1]) (n := 2) (Nat.le_of_ble_eq_true rfl)
  rw [hargs, lg_entry_eq]
  rw [← hargs]
  generalize (lg_sl ([.ref (q 1), .int v1]) ++ List.replicate (2 - (lg_sl ([.ref (q 1), .int v1])).length) Slot.unset).toArray = ls at hl ⊢
  have hl : lv_has ls 2 [(0, .ref (q 1)), (1, .int v1)] := hl
  unfold f_X5_isName at h
  refine lv_iload_n hx hb dX5_isName_0 rfl (lv_at hl 1 rfl) ?_
  refine lv_if_lt (tgt := 16) hx hb dX5_isName_1 (by decide) (fun c_1 => ?_) (fun c_1 => ?_)
  · have h := if_t c_1 h
    refine lv_iconst (v := 0) hx hb dX5_isName_16 (by decide) ?_
    have hx0 := Option.some.inj h
    rw [hQ]
    exact W.zret (v := 0) hx hb hr (rfl) (fun t ht hW => ⟨⟨0, (), rfl, hx0, by show va_P _ _ _ t.heap; rw [ht]; exact hP⟩, hS.F ht⟩) hS.2.2 dX5_isName_17
  · have h := if_f c_1 h
    refine lv_iload_n hx hb dX5_isName_4 rfl (lv_at hl 1 rfl) ?_
    refine lv_aload_n hx hb dX5_isName_5 rfl (lv_at hl 0 rfl) ?_
    refine va_get (D := D) (ci := 5) (v := .int (I 4)) (C := RX5) (T := TX5) (N := 9) hx hb hts in_X5_isName_X5 hown hK hP 1 rfl rfl 0 (by decide) (hts (.fieldLink RX5 24 "LearnedReasons$Things" "names" "I") (by decide +kernel)) (fun _ h9 => h9) rfl dX5_isName_6 ?_
    refine lv_icmp_ge (tgt := 16) hx hb dX5_isName_9 (by decide) (fun c_2 => ?_) (fun c_2 => ?_)
    · have h := if_t c_2 h
      refine lv_iconst (v := 0) hx hb dX5_isName_16 (by decide) ?_
      have hx0 := Option.some.inj h
      rw [hQ]
      exact W.zret (v := 0) hx hb hr (rfl) (fun t ht hW => ⟨⟨0, (), rfl, hx0, by show va_P _ _ _ t.heap; rw [ht]; exact hP⟩, hS.F ht⟩) hS.2.2 dX5_isName_17
    · have h := if_f c_2 h
      refine lv_iconst (v := 1) hx hb dX5_isName_12 (by decide) ?_
      refine lv_goto (tgt := 17) hx hb dX5_isName_13 (by decide) ?_
      have hx0 := Option.some.inj h
      rw [hQ]
      exact W.zret (v := 1) hx hb hr (rfl) (fun t ht hW => ⟨⟨1, (), rfl, hx0, by show va_P _ _ _ t.heap; rw [ht]; exact hP⟩, hS.F ht⟩) hS.2.2 dX5_isName_17
theorem in_X6_isLiteral_X6 : ∀ w ∈ wsX60, w ∈ wsX6_isLiteral := by decide +kernel
set_option maxHeartbeats 4000000 in
set_option maxRecDepth 100000 in
theorem c_X6_isLiteral (l : Launch) (D : va_G) (cI cJ : ClassId) (q : Nat → Nat) (hq : CUQ q) (F : Nat) (I : Nat → Int32) (J : Nat → Int64) (a : Nat → Nat → Int32) (b : Nat → Nat → Int64) (v1 : Int32) (x0 : Int32) (h : f_X6_isLiteral F I J a b v1 = some x0) : Met l yX6_isLiteral wsX6_isLiteral ({ frames := 1, cells := 0, slots := 0, locals := 21 }) (CUPc D cI cJ q I J a b [.ref (q 0), .int v1]) (va_Qi (fun (r : Int32) (u : Unit) => r = x0) (fun (u : Unit) t => va_P D vwCl (CUW cI cJ q I J a b) t.heap) (CUA q)) 0 0 (CUA q) := by
  refine mt_of (cc := cX6_isLiteral) (maxL := 2) (ret := (some .boolean)) (by decide) rfl ?_
  intro p e s m args below meth c s₁ B0 hml hv R Q hR hQ
  obtain ⟨hargs, hP, hK, hN⟩ := hv
  have hx := B0.exec
  have hb := B0.bytes
  have hr := B0.returns
  have hts := atoms_spec (ws := wsX6_isLiteral) B0.pre
  have hown : s.vm.findClass RX6 = some m.cls := findClass_of_methodNamed B0.named
  have hlocks := B0.notSynchronized
  have hS : va_S (CUA q) s.heap s.heap [] := va_S.rf
  have hl := lv_entry ([.ref (q 0), .int v1]) (n := 2) (Nat.le_of_ble_eq_true rfl)
  rw [hargs, lg_entry_eq]
  rw [← hargs]
  generalize (lg_sl ([.ref (q 0), .int v1]) ++ List.replicate (2 - (lg_sl ([.ref (q 0), .int v1])).length) Slot.unset).toArray = ls at hl ⊢
  have hl : lv_has ls 2 [(0, .ref (q 0)), (1, .int v1)] := hl
  unfold f_X6_isLiteral at h
  refine lv_iload_n hx hb dX6_isLiteral_0 rfl (lv_at hl 1 rfl) ?_
  refine lv_if_lt (tgt := 21) hx hb dX6_isLiteral_1 (by decide) (fun c_1 => ?_) (fun c_1 => ?_)
  · have h := if_t c_1 h
    refine lv_iconst (v := 0) hx hb dX6_isLiteral_21 (by decide) ?_
    have hx0 := Option.some.inj h
    rw [hQ]
    exact W.zret (v := 0) hx hb hr (rfl) (fun t ht hW => ⟨⟨0, (), rfl, hx0, by show va_P _ _ _ t.heap; rw [ht]; exact hP⟩, hS.F ht⟩) hS.2.2 dX6_isLiteral_22
  · have h := if_f c_1 h
    refine lv_aload_n hx hb dX6_isLiteral_4 rfl (lv_at hl 0 rfl) ?_
    refine va_get (D := D) (ci := 6) (v := .ref (q 1)) (C := RX6) (T := TX6) (N := 9) hx hb hts in_X6_isLiteral_X6 hown hK hP 0 rfl rfl 0 (by decide) (hts (.fieldLink RX6 10 "LearnedReasons" "things" "LLearnedReasons$Things;") (by decide +kernel)) (fun _ h9 => h9) rfl dX6_isLiteral_5 ?_
    refine lv_iload_n hx hb dX6_isLiteral_8 rfl (lv_at hl 1 rfl) ?_
    refine lv_iconst (v := 1) hx hb dX6_isLiteral_9 (by decide) ?_
    refine lv_ishr hx hb dX6_isLiteral_10 ?_
    obtain ⟨x_2, hx_2, h⟩ := ob_some h
    refine va_calli (va_runV (As := [.int (v1 >>> ((1 : Int32) &&& 31))]) (rest := []) ⟨hx, hb, hml, hown, hts⟩ (c_X5_isName l D cI cJ q hq F I J a b (v1 >>> ((1 : Int32) &&& 31)) x_2 hx_2) (cwV 1 hts gX6_isLiteral_X5_isName rfl rfl rfl (by decide +kernel) (by rw [hR]; exact ⟨Nat.le_of_ble_eq_true rfl, Nat.le_of_ble_eq_true rfl⟩)) ⟨CUPc_blind, va_recv hK hP (ci := 5) (q0 := 1) rfl rfl, fun U hU hW => ⟨rfl, by rw [hU]; exact hP, va_K.moved hW.alike hK, va_Nw.warmM hW hN⟩⟩ rfl rfl hl.1 rfl (lv_room (Nat.le_of_ble_eq_true rfl)) dX6_isLiteral_11 ⟨Nat.zero_le _, Nat.zero_le _⟩) hS (fun _ _ h => h) (fun _ h => h) (fun r u t H1 locs ht hvm hw hB hz1 hk1 hS => ?_)
    obtain rfl := hw.symm
    rw [ht] at hB
    have hP : va_P D vwCl (CUW cI cJ q I J a b) H1 := hB
    clear hB hz1 hk1 ht hvm
    generalize H1 = H at hP hS ⊢
    refine lv_if_eq (tgt := 21) hx hb dX6_isLiteral_14 (by decide) (fun c_3 => ?_) (fun c_3 => ?_)
    · have h := if_t c_3 h
      refine lv_iconst (v := 0) hx hb dX6_isLiteral_21 (by decide) ?_
      have hx0 := Option.some.inj h
      rw [hQ]
      exact W.zret (v := 0) hx hb hr (rfl) (fun t ht hW => ⟨⟨0, (), rfl, hx0, by show va_P _ _ _ t.heap; rw [ht]; exact hP⟩, hS.F ht⟩) hS.2.2 dX6_isLiteral_22
    · have h := if_f c_3 h
      refine lv_iconst (v := 1) hx hb dX6_isLiteral_17 (by decide) ?_
      refine lv_goto (tgt := 22) hx hb dX6_isLiteral_18 (by decide) ?_
      have hx0 := Option.some.inj h
      rw [hQ]
      exact W.zret (v := 1) hx hb hr (rfl) (fun t ht hW => ⟨⟨1, (), rfl, hx0, by show va_P _ _ _ t.heap; rw [ht]; exact hP⟩, hS.F ht⟩) hS.2.2 dX6_isLiteral_22
set_option maxHeartbeats 4000000 in
set_option maxRecDepth 100000 in
theorem c_X6_nameWantedTrue (l : Launch) (F : Nat) (v0 : Int32) (x0 : Int32) (h : f_X6_nameWantedTrue F v0 = some x0) : Met l yX6_nameWantedTrue wsX6_nameWantedTrue ({ frames := 0, cells := 0, slots := 0, locals := 0 }) (va_Pc [.int v0] (fun _ => True)) (va_Qi (fun (r : Int32) (u : Unit) => r = x0) (fun _ _ => True) (fun _ => False)) 0 0 (fun _ => False) := by
  refine mt_of (cc := cX6_nameWantedTrue) (maxL := 1) (ret := (some .int)) (by decide) rfl ?_
  intro p e s m args below meth c s₁ B0 hml hv R Q hR hQ
  obtain ⟨hargs, -⟩ := hv
  have hx := B0.exec
  have hb := B0.bytes
  have hr := B0.returns
  have hts := atoms_spec (ws := wsX6_nameWantedTrue) B0.pre
  have hown : s.vm.findClass RX6 = some m.cls := findClass_of_methodNamed B0.named
  have hlocks := B0.notSynchronized
  have hS : va_S (fun _ => False) s.heap s.heap [] := va_S.rf
  have hl := lv_entry ([.int v0]) (n := 1) (Nat.le_of_ble_eq_true rfl)
  rw [hargs, lg_entry_eq]
  rw [← hargs]
  generalize (lg_sl ([.int v0]) ++ List.replicate (1 - (lg_sl ([.int v0])).length) Slot.unset).toArray = ls at hl ⊢
  have hl : lv_has ls 1 [(0, .int v0)] := hl
  unfold f_X6_nameWantedTrue at h
  refine lv_iload_n hx hb dX6_nameWantedTrue_0 rfl (lv_at hl 0 rfl) ?_
  refine lv_iconst (v := 1) hx hb dX6_nameWantedTrue_1 (by decide) ?_
  refine lv_iand hx hb dX6_nameWantedTrue_2 ?_
  refine lv_if_ne (tgt := 14) hx hb dX6_nameWantedTrue_3 (by decide) (fun c_1 => ?_) (fun c_1 => ?_)
  · have h := if_f c_1 h
    refine lv_iconst (v := 0) hx hb dX6_nameWantedTrue_14 (by decide) ?_
    have hx0 := Option.some.inj h
    rw [hQ]
    exact W.iret (v := 0) hx hb hr (fun t ht hW => ⟨⟨0, (), rfl, hx0, trivial⟩, hS.F ht⟩) hS.2.2 dX6_nameWantedTrue_15
  · have h := if_t c_1 h
    refine lv_iconst (v := 1) hx hb dX6_nameWantedTrue_6 (by decide) ?_
    refine lv_iload_n hx hb dX6_nameWantedTrue_7 rfl (lv_at hl 0 rfl) ?_
    refine lv_iconst (v := 1) hx hb dX6_nameWantedTrue_8 (by decide) ?_
    refine lv_ishr hx hb dX6_nameWantedTrue_9 ?_
    refine lv_ishl hx hb dX6_nameWantedTrue_10 ?_
    refine lv_goto (tgt := 15) hx hb dX6_nameWantedTrue_11 (by decide) ?_
    have hx0 := Option.some.inj h
    rw [hQ]
    exact W.iret (v := (1 : Int32) <<< ((v0 >>> ((1 : Int32) &&& 31)) &&& 31)) hx hb hr (fun t ht hW => ⟨⟨((1 : Int32) <<< ((v0 >>> ((1 : Int32) &&& 31)) &&& 31)), (), rfl, hx0, trivial⟩, hS.F ht⟩) hS.2.2 dX6_nameWantedTrue_15
set_option maxHeartbeats 4000000 in
set_option maxRecDepth 100000 in
theorem c_X6_nameWantedFalse (l : Launch) (F : Nat) (v0 : Int32) (x0 : Int32) (h : f_X6_nameWantedFalse F v0 = some x0) : Met l yX6_nameWantedFalse wsX6_nameWantedFalse ({ frames := 0, cells := 0, slots := 0, locals := 0 }) (va_Pc [.int v0] (fun _ => True)) (va_Qi (fun (r : Int32) (u : Unit) => r = x0) (fun _ _ => True) (fun _ => False)) 0 0 (fun _ => False) := by
  refine mt_of (cc := cX6_nameWantedFalse) (maxL := 1) (ret := (some .int)) (by decide) rfl ?_
  intro p e s m args below meth c s₁ B0 hml hv R Q hR hQ
  obtain ⟨hargs, -⟩ := hv
  have hx := B0.exec
  have hb := B0.bytes
  have hr := B0.returns
  have hts := atoms_spec (ws := wsX6_nameWantedFalse) B0.pre
  have hown : s.vm.findClass RX6 = some m.cls := findClass_of_methodNamed B0.named
  have hlocks := B0.notSynchronized
  have hS : va_S (fun _ => False) s.heap s.heap [] := va_S.rf
  have hl := lv_entry ([.int v0]) (n := 1) (Nat.le_of_ble_eq_true rfl)
  rw [hargs, lg_entry_eq]
  rw [← hargs]
  generalize (lg_sl ([.int v0]) ++ List.replicate (1 - (lg_sl ([.int v0])).length) Slot.unset).toArray = ls at hl ⊢
  have hl : lv_has ls 1 [(0, .int v0)] := hl
  unfold f_X6_nameWantedFalse at h
  refine lv_iload_n hx hb dX6_nameWantedFalse_0 rfl (lv_at hl 0 rfl) ?_
  refine lv_iconst (v := 1) hx hb dX6_nameWantedFalse_1 (by decide) ?_
  refine lv_iand hx hb dX6_nameWantedFalse_2 ?_
  refine lv_iconst (v := 1) hx hb dX6_nameWantedFalse_3 (by decide) ?_
  refine lv_icmp_ne (tgt := 15) hx hb dX6_nameWantedFalse_4 (by decide) (fun c_1 => ?_) (fun c_1 => ?_)
  · have h := if_f c_1 h
    refine lv_iconst (v := 0) hx hb dX6_nameWantedFalse_15 (by decide) ?_
    have hx0 := Option.some.inj h
    rw [hQ]
    exact W.iret (v := 0) hx hb hr (fun t ht hW => ⟨⟨0, (), rfl, hx0, trivial⟩, hS.F ht⟩) hS.2.2 dX6_nameWantedFalse_16
  · have h := if_t c_1 h
    refine lv_iconst (v := 1) hx hb dX6_nameWantedFalse_7 (by decide) ?_
    refine lv_iload_n hx hb dX6_nameWantedFalse_8 rfl (lv_at hl 0 rfl) ?_
    refine lv_iconst (v := 1) hx hb dX6_nameWantedFalse_9 (by decide) ?_
    refine lv_ishr hx hb dX6_nameWantedFalse_10 ?_
    refine lv_ishl hx hb dX6_nameWantedFalse_11 ?_
    refine lv_goto (tgt := 16) hx hb dX6_nameWantedFalse_12 (by decide) ?_
    have hx0 := Option.some.inj h
    rw [hQ]
    exact W.iret (v := (1 : Int32) <<< ((v0 >>> ((1 : Int32) &&& 31)) &&& 31)) hx hb hr (fun t ht hW => ⟨⟨((1 : Int32) <<< ((v0 >>> ((1 : Int32) &&& 31)) &&& 31)), (), rfl, hx0, trivial⟩, hS.F ht⟩) hS.2.2 dX6_nameWantedFalse_16
set_option maxHeartbeats 4000000 in
set_option maxRecDepth 100000 in
theorem c_J6_bitCount_0f7a4 (l : Launch) (F : Nat) (v0 : Int32) (x0 : Int32) (h : f_J6_bitCount_0f7a4 F v0 = some x0) : Met l yJ6_bitCount_0f7a4 wsJ6_bitCount_0f7a4 ({ frames := 0, cells := 0, slots := 0, locals := 0 }) (va_Pc [.int v0] (fun _ => True)) (va_Qi (fun (r : Int32) (u : Unit) => r = x0) (fun _ _ => True) (fun _ => False)) 0 0 (fun _ => False) := by
  refine mt_of (cc := cJ6_bitCount_0f7a4) (maxL := 1) (ret := (some .int)) (by decide) rfl ?_
  intro p e s m args below meth c s₁ B0 hml hv R Q hR hQ
  obtain ⟨hargs, -⟩ := hv
  have hx := B0.exec
  have hb := B0.bytes
  have hr := B0.returns
  have hts := atoms_spec (ws := wsJ6_bitCount_0f7a4) B0.pre
  have hown : s.vm.findClass RJ6 = some m.cls := findClass_of_methodNamed B0.named
  have hlocks := B0.notSynchronized
  have hS : va_S (fun _ => False) s.heap s.heap [] := va_S.rf
  have hl := lv_entry ([.int v0]) (n := 1) (Nat.le_of_ble_eq_true rfl)
  rw [hargs, lg_entry_eq]
  rw [← hargs]
  generalize (lg_sl ([.int v0]) ++ List.replicate (1 - (lg_sl ([.int v0])).length) Slot.unset).toArray = ls at hl ⊢
  have hl : lv_has ls 1 [(0, .int v0)] := hl
  unfold f_J6_bitCount_0f7a4 at h
  refine lv_iload_n hx hb dJ6_bitCount_0f7a4_0 rfl (lv_at hl 0 rfl) ?_
  refine lv_iload_n hx hb dJ6_bitCount_0f7a4_1 rfl (lv_at hl 0 rfl) ?_
  refine lv_iconst (v := 1) hx hb dJ6_bitCount_0f7a4_2 (by decide) ?_
  refine lv_iushr hx hb dJ6_bitCount_0f7a4_3 rfl ?_
  refine lv_ldcw (v := 1431655765) hx hb hown (hts (.constant RJ6 265 1431655765) (by decide +kernel)) dJ6_bitCount_0f7a4_4 ?_
  refine lv_iand hx hb dJ6_bitCount_0f7a4_7 ?_
  refine lv_isub hx hb dJ6_bitCount_0f7a4_8 ?_
  refine lv_topi (fun v_1 ev_1 => ?_)
  have h := nmI_at ev_1 h
  refine lv_istore_n (lv' := [(0, .int v_1)]) hx hb dJ6_bitCount_0f7a4_9 rfl hl (by decide) rfl (fun ls hl => ?_)
  refine lv_iload_n hx hb dJ6_bitCount_0f7a4_10 rfl (lv_at hl 0 rfl) ?_
  refine lv_ldcw (v := 858993459) hx hb hown (hts (.constant RJ6 266 858993459) (by decide +kernel)) dJ6_bitCount_0f7a4_11 ?_
  refine lv_iand hx hb dJ6_bitCount_0f7a4_14 ?_
  refine lv_iload_n hx hb dJ6_bitCount_0f7a4_15 rfl (lv_at hl 0 rfl) ?_
  refine lv_iconst (v := 2) hx hb dJ6_bitCount_0f7a4_16 (by decide) ?_
  refine lv_iushr hx hb dJ6_bitCount_0f7a4_17 rfl ?_
  refine lv_ldcw (v := 858993459) hx hb hown (hts (.constant RJ6 266 858993459) (by decide +kernel)) dJ6_bitCount_0f7a4_18 ?_
  refine lv_iand hx hb dJ6_bitCount_0f7a4_21 ?_
  refine lv_iadd hx hb dJ6_bitCount_0f7a4_22 ?_
  refine lv_topi (fun v_2 ev_2 => ?_)
  have h := nmI_at ev_2 h
  refine lv_istore_n (lv' := [(0, .int v_2)]) hx hb dJ6_bitCount_0f7a4_23 rfl hl (by decide) rfl (fun ls hl => ?_)
  refine lv_iload_n hx hb dJ6_bitCount_0f7a4_24 rfl (lv_at hl 0 rfl) ?_
  refine lv_iload_n hx hb dJ6_bitCount_0f7a4_25 rfl (lv_at hl 0 rfl) ?_
  refine lv_iconst (v := 4) hx hb dJ6_bitCount_0f7a4_26 (by decide) ?_
  refine lv_iushr hx hb dJ6_bitCount_0f7a4_27 rfl ?_
  refine lv_iadd hx hb dJ6_bitCount_0f7a4_28 ?_
  refine lv_ldcw (v := 252645135) hx hb hown (hts (.constant RJ6 267 252645135) (by decide +kernel)) dJ6_bitCount_0f7a4_29 ?_
  refine lv_iand hx hb dJ6_bitCount_0f7a4_32 ?_
  refine lv_topi (fun v_3 ev_3 => ?_)
  have h := nmI_at ev_3 h
  refine lv_istore_n (lv' := [(0, .int v_3)]) hx hb dJ6_bitCount_0f7a4_33 rfl hl (by decide) rfl (fun ls hl => ?_)
  refine lv_iload_n hx hb dJ6_bitCount_0f7a4_34 rfl (lv_at hl 0 rfl) ?_
  refine lv_iload_n hx hb dJ6_bitCount_0f7a4_35 rfl (lv_at hl 0 rfl) ?_
  refine lv_bipush (v := 8) hx hb dJ6_bitCount_0f7a4_36 (by decide) ?_
  refine lv_iushr hx hb dJ6_bitCount_0f7a4_38 rfl ?_
  refine lv_iadd hx hb dJ6_bitCount_0f7a4_39 ?_
  refine lv_topi (fun v_4 ev_4 => ?_)
  have h := nmI_at ev_4 h
  refine lv_istore_n (lv' := [(0, .int v_4)]) hx hb dJ6_bitCount_0f7a4_40 rfl hl (by decide) rfl (fun ls hl => ?_)
  refine lv_iload_n hx hb dJ6_bitCount_0f7a4_41 rfl (lv_at hl 0 rfl) ?_
  refine lv_iload_n hx hb dJ6_bitCount_0f7a4_42 rfl (lv_at hl 0 rfl) ?_
  refine lv_bipush (v := 16) hx hb dJ6_bitCount_0f7a4_43 (by decide) ?_
  refine lv_iushr hx hb dJ6_bitCount_0f7a4_45 rfl ?_
  refine lv_iadd hx hb dJ6_bitCount_0f7a4_46 ?_
  refine lv_topi (fun v_5 ev_5 => ?_)
  have h := nmI_at ev_5 h
  refine lv_istore_n (lv' := [(0, .int v_5)]) hx hb dJ6_bitCount_0f7a4_47 rfl hl (by decide) rfl (fun ls hl => ?_)
  refine lv_iload_n hx hb dJ6_bitCount_0f7a4_48 rfl (lv_at hl 0 rfl) ?_
  refine lv_bipush (v := 63) hx hb dJ6_bitCount_0f7a4_49 (by decide) ?_
  refine lv_iand hx hb dJ6_bitCount_0f7a4_51 ?_
  have hx0 := Option.some.inj h
  rw [hQ]
  exact W.iret (v := v_5 &&& 63) hx hb hr (fun t ht hW => ⟨⟨(v_5 &&& 63), (), rfl, hx0, trivial⟩, hS.F ht⟩) hS.2.2 dJ6_bitCount_0f7a4_52
set_option maxHeartbeats 4000000 in
set_option maxRecDepth 100000 in
theorem c_X6_literalsIn (l : Launch) (F : Nat) (v0 : Int32) (v1 : Int32) (x0 : Int32) (h : f_X6_literalsIn F v0 v1 = some x0) : Met l yX6_literalsIn wsX6_literalsIn ({ frames := 1, cells := 0, slots := 0, locals := 20 }) (va_Pc [.int v0, .int v1] (fun _ => True)) (va_Qi (fun (r : Int32) (u : Unit) => r = x0) (fun _ _ => True) (fun _ => False)) 0 0 (fun _ => False) := by
  refine mt_of (cc := cX6_literalsIn) (maxL := 2) (ret := (some .int)) (by decide) rfl ?_
  intro p e s m args below meth c s₁ B0 hml hv R Q hR hQ
  obtain ⟨hargs, -⟩ := hv
  have hx := B0.exec
  have hb := B0.bytes
  have hr := B0.returns
  have hts := atoms_spec (ws := wsX6_literalsIn) B0.pre
  have hown : s.vm.findClass RX6 = some m.cls := findClass_of_methodNamed B0.named
  have hlocks := B0.notSynchronized
  have hS : va_S (fun _ => False) s.heap s.heap [] := va_S.rf
  have hl := lv_entry ([.int v0, .int v1]) (n := 2) (Nat.le_of_ble_eq_true rfl)
  rw [hargs, lg_entry_eq]
  rw [← hargs]
  generalize (lg_sl ([.int v0, .int v1]) ++ List.replicate (2 - (lg_sl ([.int v0, .int v1])).length) Slot.unset).toArray = ls at hl ⊢
  have hl : lv_has ls 2 [(0, .int v0), (1, .int v1)] := hl
  unfold f_X6_literalsIn at h
  refine lv_iload_n hx hb dX6_literalsIn_0 rfl (lv_at hl 0 rfl) ?_
  obtain ⟨x_1, hx_1, h⟩ := ob_some h
  refine va_calli (va_runS (As := [.int v0]) (rest := []) ⟨hx, hb, hml, hown, hts⟩ (c_J6_bitCount_0f7a4 l F v0 x_1 hx_1) (va_cwS 1 hts gX6_literalsIn_J6_bitCount_0f7a4 rfl rfl rfl (by decide +kernel) (by rw [hR]; exact ⟨Nat.le_of_ble_eq_true rfl, Nat.le_of_ble_eq_true rfl⟩)) ⟨fun _ _ _ _ h => h, fun U hU hW => ⟨rfl, trivial⟩⟩ rfl rfl hl.1 rfl (lv_room (Nat.le_of_ble_eq_true rfl)) dX6_literalsIn_1 ⟨Nat.zero_le _, Nat.zero_le _⟩) hS (fun _ _ h => h.elim) (fun _ h => h.elim) (fun r u t H1 locs ht hvm hw hB hz1 hk1 hS => ?_)
  obtain rfl := hw.symm
  clear hB hz1 hk1 ht hvm
  generalize H1 = H at hS ⊢
  refine lv_iload_n hx hb dX6_literalsIn_4 rfl (lv_at hl 1 rfl) ?_
  obtain ⟨x_2, hx_2, h⟩ := ob_some h
  refine va_calli (va_runS (As := [.int v1]) (rest := [.int x_1]) ⟨hx, hb, hml, hown, hts⟩ (c_J6_bitCount_0f7a4 l F v1 x_2 hx_2) (va_cwS 1 hts gX6_literalsIn_J6_bitCount_0f7a4 rfl rfl rfl (by decide +kernel) (by rw [hR]; exact ⟨Nat.le_of_ble_eq_true rfl, Nat.le_of_ble_eq_true rfl⟩)) ⟨fun _ _ _ _ h => h, fun U hU hW => ⟨rfl, trivial⟩⟩ rfl rfl hl.1 rfl (lv_room (Nat.le_of_ble_eq_true rfl)) dX6_literalsIn_5 ⟨Nat.zero_le _, Nat.zero_le _⟩) hS (fun _ _ h => h.elim) (fun _ h => h.elim) (fun r u t H1 locs ht hvm hw hB hz1 hk1 hS => ?_)
  obtain rfl := hw.symm
  clear hB hz1 hk1 ht hvm
  generalize H1 = H at hS ⊢
  refine lv_iadd hx hb dX6_literalsIn_8 ?_
  have hx0 := Option.some.inj h
  rw [hQ]
  exact W.iret (v := x_1 + x_2) hx hb hr (fun t ht hW => ⟨⟨(x_1 + x_2), (), rfl, hx0, trivial⟩, hS.F ht⟩) hS.2.2 dX6_literalsIn_9
theorem in_X6_literal_X6 : ∀ w ∈ wsX60, w ∈ wsX6_literal := by decide +kernel
set_option maxHeartbeats 4000000 in
set_option maxRecDepth 100000 in
theorem c_X6_literal (l : Launch) (D : va_G) (cI cJ : ClassId) (q : Nat → Nat) (hq : CUQ q) (F : Nat) (I : Nat → Int32) (J : Nat → Int64) (a : Nat → Nat → Int32) (b : Nat → Nat → Int64) (v1 : Int32) (x0 : Int32 × Int32 × Int32) (h : f_X6_literal F I J a b v1 = some x0) : Met l yX6_literal wsX6_literal ({ frames := 2, cells := 0, slots := 0, locals := 42 }) (CUPc D cI cJ q I J a b [.ref (q 0), .int v1]) (va_Qi (fun (r : Int32) (u : Int32 × Int32) => r = x0.1 ∧ u = x0.2) (fun (u : Int32 × Int32) t => va_P D vwCl (CUW cI cJ q (fu (fu I 0 u.1) 1 u.2) J a b) t.heap) (CUA q)) 0 0 (CUA q) := by
  refine mt_of (cc := cX6_literal) (maxL := 5) (ret := (some .int)) (by decide) rfl ?_
  intro p e s m args below meth c s₁ B0 hml hv R Q hR hQ
  obtain ⟨hargs, hP, hK, hN⟩ := hv
  have hx := B0.exec
  have hb := B0.bytes
  have hr := B0.returns
  have hts := atoms_spec (ws := wsX6_literal) B0.pre
  have hown : s.vm.findClass RX6 = some m.cls := findClass_of_methodNamed B0.named
  have hlocks := B0.notSynchronized
  have hS : va_S (CUA q) s.heap s.heap [] := va_S.rf
  have hl := lv_entry ([.ref (q 0), .int v1]) (n := 5) (Nat.le_of_ble_eq_true rfl)
  rw [hargs, lg_entry_eq]
  rw [← hargs]
  generalize (lg_sl ([.ref (q 0), .int v1]) ++ List.replicate (5 - (lg_sl ([.ref (q 0), .int v1])).length) Slot.unset).toArray = ls at hl ⊢
  have hl : lv_has ls 5 [(0, .ref (q 0)), (1, .int v1)] := hl
  unfold f_X6_literal at h
  refine lv_aload_n hx hb dX6_literal_0 rfl (lv_at hl 0 rfl) ?_
  refine lv_iload_n hx hb dX6_literal_1 rfl (lv_at hl 1 rfl) ?_
  obtain ⟨x_1, hx_1, h⟩ := ob_some h
  refine va_calli (va_runV (As := [.int v1]) (rest := []) ⟨hx, hb, hml, hown, hts⟩ (c_X6_isLiteral l D cI cJ q hq F I J a b v1 x_1 hx_1) (cwV 1 hts gX6_literal_X6_isLiteral rfl rfl rfl (by decide +kernel) (by rw [hR]; exact ⟨Nat.le_of_ble_eq_true rfl, Nat.le_of_ble_eq_true rfl⟩)) ⟨CUPc_blind, va_recv hK hP (ci := 6) (q0 := 0) rfl rfl, fun U hU hW => ⟨rfl, by rw [hU]; exact hP, va_K.moved hW.alike hK, va_Nw.warmM hW hN⟩⟩ rfl rfl hl.1 rfl (lv_room (Nat.le_of_ble_eq_true rfl)) dX6_literal_2 ⟨Nat.zero_le _, Nat.zero_le _⟩) hS (fun _ _ h => h) (fun _ h => h) (fun r u t H1 locs ht hvm hw hB hz1 hk1 hS => ?_)
  obtain rfl := hw.symm
  rw [ht] at hB
  have hP : va_P D vwCl (CUW cI cJ q I J a b) H1 := hB
  clear hB hz1 hk1 ht hvm
  generalize H1 = H at hP hS ⊢
  refine lv_if_ne (tgt := 10) hx hb dX6_literal_5 (by decide) (fun c_2 => ?_) (fun c_2 => ?_)
  · have h := if_f c_2 h
    refine lv_aload_n hx hb dX6_literal_10 rfl (lv_at hl 0 rfl) ?_
    refine va_get (D := D) (ci := 6) (v := .int (I 0)) (C := RX6) (T := TX6) (N := 9) hx hb hts in_X6_literal_X6 hown hK hP 0 rfl rfl 5 (by decide) (hts (.fieldLink RX6 67 "LearnedReasons" "handTrue" "I") (by decide +kernel)) (fun _ h9 => h9) rfl dX6_literal_11 ?_
    refine lv_iload_n hx hb dX6_literal_14 rfl (lv_at hl 1 rfl) ?_
    obtain ⟨x_3, hx_3, h⟩ := ob_some h
    refine va_calli (va_runS (As := [.int v1]) (rest := [.int (I 0)]) ⟨hx, hb, hml, hown, hts⟩ (c_X6_nameWantedTrue l F v1 x_3 hx_3) (va_cwS 1 hts gX6_literal_X6_nameWantedTrue rfl rfl rfl (by decide +kernel) (by rw [hR]; exact ⟨Nat.le_of_ble_eq_true rfl, Nat.le_of_ble_eq_true rfl⟩)) ⟨fun _ _ _ _ h => h, fun U hU hW => ⟨rfl, trivial⟩⟩ rfl rfl hl.1 rfl (lv_room (Nat.le_of_ble_eq_true rfl)) dX6_literal_15 ⟨Nat.zero_le _, Nat.zero_le _⟩) hS (fun _ _ h => h.elim) (fun _ h => h.elim) (fun r u t H1 locs ht hvm hw hB hz1 hk1 hS => ?_)
    obtain rfl := hw.symm
    have hP := hP.kept (fun k x hx => hk1 x.1 (hP k x hx).lt (fun h => h))
    clear hB hz1 hk1 ht hvm
    generalize H1 = H at hP hS ⊢
    refine lv_ior hx hb dX6_literal_18 ?_
    refine lv_topi (fun v_4 ev_4 => ?_)
    have h := nmI_at ev_4 h
    refine lv_istore_n (lv' := [(2, .int v_4), (0, .ref (q 0)), (1, .int v1)]) hx hb dX6_literal_19 rfl hl (by decide) rfl (fun ls hl => ?_)
    refine lv_aload_n hx hb dX6_literal_20 rfl (lv_at hl 1 rfl) ?_
    refine va_get (D := D) (ci := 6) (v := .int (I 1)) (C := RX6) (T := TX6) (N := 9) hx hb hts in_X6_literal_X6 hown hK hP 0 rfl rfl 6 (by decide) (hts (.fieldLink RX6 75 "LearnedReasons" "handFalse" "I") (by decide +kernel)) (fun _ h9 => h9) rfl dX6_literal_21 ?_
    refine lv_iload_n hx hb dX6_literal_24 rfl (lv_at hl 2 rfl) ?_
    obtain ⟨x_5, hx_5, h⟩ := ob_some h
    refine va_calli (va_runS (As := [.int v1]) (rest := [.int (I 1)]) ⟨hx, hb, hml, hown, hts⟩ (c_X6_nameWantedFalse l F v1 x_5 hx_5) (va_cwS 1 hts gX6_literal_X6_nameWantedFalse rfl rfl rfl (by decide +kernel) (by rw [hR]; exact ⟨Nat.le_of_ble_eq_true rfl, Nat.le_of_ble_eq_true rfl⟩)) ⟨fun _ _ _ _ h => h, fun U hU hW => ⟨rfl, trivial⟩⟩ rfl rfl hl.1 rfl (lv_room (Nat.le_of_ble_eq_true rfl)) dX6_literal_25 ⟨Nat.zero_le _, Nat.zero_le _⟩) hS (fun _ _ h => h.elim) (fun _ h => h.elim) (fun r u t H1 locs ht hvm hw hB hz1 hk1 hS => ?_)
    obtain rfl := hw.symm
    have hP := hP.kept (fun k x hx => hk1 x.1 (hP k x hx).lt (fun h => h))
    clear hB hz1 hk1 ht hvm
    generalize H1 = H at hP hS ⊢
    refine lv_ior hx hb dX6_literal_28 ?_
    refine lv_topi (fun v_6 ev_6 => ?_)
    have h := nmI_at ev_6 h
    refine lv_istore_n (lv' := [(3, .int v_6), (2, .int v_4), (0, .ref (q 0)), (1, .int v1)]) hx hb dX6_literal_29 rfl hl (by decide) rfl (fun ls hl => ?_)
    refine lv_iload_n hx hb dX6_literal_30 rfl (lv_at hl 1 rfl) ?_
    refine lv_iload_n hx hb dX6_literal_31 rfl (lv_at hl 0 rfl) ?_
    obtain ⟨x_7, hx_7, h⟩ := ob_some h
    refine va_calli (va_runS (As := [.int v_4, .int v_6]) (rest := []) ⟨hx, hb, hml, hown, hts⟩ (c_X6_literalsIn l F v_4 v_6 x_7 hx_7) (va_cwS 2 hts gX6_literal_X6_literalsIn rfl rfl rfl (by decide +kernel) (by rw [hR]; exact ⟨Nat.le_of_ble_eq_true rfl, Nat.le_of_ble_eq_true rfl⟩)) ⟨fun _ _ _ _ h => h, fun U hU hW => ⟨rfl, trivial⟩⟩ rfl rfl hl.1 rfl (lv_room (Nat.le_of_ble_eq_true rfl)) dX6_literal_32 ⟨Nat.zero_le _, Nat.zero_le _⟩) hS (fun _ _ h => h.elim) (fun _ h => h.elim) (fun r u t H1 locs ht hvm hw hB hz1 hk1 hS => ?_)
    obtain rfl := hw.symm
    have hP := hP.kept (fun k x hx => hk1 x.1 (hP k x hx).lt (fun h => h))
    clear hB hz1 hk1 ht hvm
    generalize H1 = H at hP hS ⊢
    refine lv_istore (lv' := [(4, .int x_7), (3, .int v_6), (2, .int v_4), (0, .ref (q 0)), (1, .int v1)]) hx hb dX6_literal_35 hl (by decide) rfl (fun ls hl => ?_)
    refine lv_iload hx hb dX6_literal_37 (lv_at hl 0 rfl) ?_
    refine lv_bipush (v := 8) hx hb dX6_literal_39 (by decide) ?_
    refine lv_icmp_le (tgt := 47) hx hb dX6_literal_41 (by decide) (fun c_8 => ?_) (fun c_8 => ?_)
    · have h := if_t c_8 h
      refine lv_aload_n hx hb dX6_literal_47 rfl (lv_at hl 3 rfl) ?_
      refine lv_iload_n hx hb dX6_literal_48 rfl (lv_at hl 2 rfl) ?_
      refine va_put (D := D) (ci := 6) (v := .int v_4) (ty := .int) (C := RX6) (T := TX6) (N := 9) hx hb hts in_X6_literal_X6 tyX6 tyX6_ok nmX6 hown hK hP (CUW_D hq) hS 0 rfl rfl 5 (by decide) (hts (.fieldLink RX6 67 "LearnedReasons" "handTrue" "I") (by decide +kernel)) (fun _ h9 => h9) rfl (by decide +kernel) rfl rfl (Nat.le_of_ble_eq_true rfl) dX6_literal_49 (fun H locs hP _ hS => ?_)
      have hP : va_P D vwCl (CUW cI cJ q (fu I 0 v_4) J a b) H := hP
      refine lv_aload_n hx hb dX6_literal_52 rfl (lv_at hl 3 rfl) ?_
      refine lv_iload_n hx hb dX6_literal_53 rfl (lv_at hl 1 rfl) ?_
      refine va_put (D := D) (ci := 6) (v := .int v_6) (ty := .int) (C := RX6) (T := TX6) (N := 9) hx hb hts in_X6_literal_X6 tyX6 tyX6_ok nmX6 hown hK hP (CUW_D hq) hS 0 rfl rfl 6 (by decide) (hts (.fieldLink RX6 75 "LearnedReasons" "handFalse" "I") (by decide +kernel)) (fun _ h9 => h9) rfl (by decide +kernel) rfl rfl (Nat.le_of_ble_eq_true rfl) dX6_literal_54 (fun H locs hP _ hS => ?_)
      have hP : va_P D vwCl (CUW cI cJ q (fu (fu I 0 v_4) 1 v_6) J a b) H := hP
      refine lv_iload hx hb dX6_literal_57 (lv_at hl 0 rfl) ?_
      have hx0 := Option.some.inj h
      rw [hQ]
      exact W.iret (v := x_7) hx hb hr (fun t ht hW => ⟨⟨x_7, (v_4, v_6), rfl, ⟨congrArg (fun z => z.1) hx0, congrArg (fun z => z.2) hx0⟩, by show va_P _ _ _ t.heap; rw [ht]; exact hP⟩, hS.F ht⟩) hS.2.2 dX6_literal_59
    · have h := if_f c_8 h
      refine lv_bipush (v := (-4)) hx hb dX6_literal_44 (by decide) ?_
      have hx0 := Option.some.inj h
      rw [hQ]
      exact W.iret (v := (-4)) hx hb hr (fun t ht hW => ⟨⟨(-4), ((I 0), (I 1)), rfl, ⟨congrArg (fun z => z.1) hx0, congrArg (fun z => z.2) hx0⟩, by show va_P _ _ _ t.heap; rw [ht]; exact hP⟩, hS.F ht⟩) hS.2.2 dX6_literal_46
  · have h := if_t c_2 h
    refine lv_iconst (v := (-1)) hx hb dX6_literal_8 (by decide) ?_
    have hx0 := Option.some.inj h
    rw [hQ]
    exact W.iret (v := (-1)) hx hb hr (fun t ht hW => ⟨⟨(-1), ((I 0), (I 1)), rfl, ⟨congrArg (fun z => z.1) hx0, congrArg (fun z => z.2) hx0⟩, by show va_P _ _ _ t.heap; rw [ht]; exact hP⟩, hS.F ht⟩) hS.2.2 dX6_literal_9
theorem in_X5_isFull_X5 : ∀ w ∈ wsX50, w ∈ wsX5_isFull := by decide +kernel
set_option maxHeartbeats 4000000 in
set_option maxRecDepth 100000 in
theorem c_X5_isFull (l : Launch) (D : va_G) (cI cJ : ClassId) (q : Nat → Nat) (hq : CUQ q) (F : Nat) (I : Nat → Int32) (J : Nat → Int64) (a : Nat → Nat → Int32) (b : Nat → Nat → Int64) (x0 : Int32) (h : f_X5_isFull F I J a b = some x0) : Met l yX5_isFull wsX5_isFull ({ frames := 0, cells := 0, slots := 0, locals := 0 }) (CUPc D cI cJ q I J a b [.ref (q 1)]) (va_Qi (fun (r : Int32) (u : Unit) => r = x0) (fun (u : Unit) t => va_P D vwCl (CUW cI cJ q I J a b) t.heap) (CUA q)) 0 0 (CUA q) := by
  refine mt_of (cc := cX5_isFull) (maxL := 1) (ret := (some .boolean)) (by decide) rfl ?_
  intro p e s m args below meth c s₁ B0 hml hv R Q hR hQ
  obtain ⟨hargs, hP, hK, hN⟩ := hv
  have hx := B0.exec
  have hb := B0.bytes
  have hr := B0.returns
  have hts := atoms_spec (ws := wsX5_isFull) B0.pre
  have hown : s.vm.findClass RX5 = some m.cls := findClass_of_methodNamed B0.named
  have hlocks := B0.notSynchronized
  have hS : va_S (CUA q) s.heap s.heap [] := va_S.rf
  have hl := lv_entry ([.ref (q 1)]) (n := 1) (Nat.le_of_ble_eq_true rfl)
  rw [hargs, lg_entry_eq]
  rw [← hargs]
  generalize (lg_sl ([.ref (q 1)]) ++ List.replicate (1 - (lg_sl ([.ref (q 1)])).length) Slot.unset).toArray = ls at hl ⊢
  have hl : lv_has ls 1 [(0, .ref (q 1))] := hl
  unfold f_X5_isFull at h
  refine lv_aload_n hx hb dX5_isFull_0 rfl (lv_at hl 0 rfl) ?_
  refine va_get (D := D) (ci := 5) (v := .int (I 5)) (C := RX5) (T := TX5) (N := 9) hx hb hts in_X5_isFull_X5 hown hK hP 1 rfl rfl 1 (by decide) (hts (.fieldLink RX5 35 "LearnedReasons$Things" "numbersGiven" "I") (by decide +kernel)) (fun _ h9 => h9) rfl dX5_isFull_1 ?_
  refine lv_bipush (v := 60) hx hb dX5_isFull_4 (by decide) ?_
  refine lv_icmp_lt (tgt := 13) hx hb dX5_isFull_6 (by decide) (fun c_1 => ?_) (fun c_1 => ?_)
  · have h := if_t c_1 h
    refine lv_iconst (v := 0) hx hb dX5_isFull_13 (by decide) ?_
    have hx0 := Option.some.inj h
    rw [hQ]
    exact W.zret (v := 0) hx hb hr (rfl) (fun t ht hW => ⟨⟨0, (), rfl, hx0, by show va_P _ _ _ t.heap; rw [ht]; exact hP⟩, hS.F ht⟩) hS.2.2 dX5_isFull_14
  · have h := if_f c_1 h
    refine lv_iconst (v := 1) hx hb dX5_isFull_9 (by decide) ?_
    refine lv_goto (tgt := 14) hx hb dX5_isFull_10 (by decide) ?_
    have hx0 := Option.some.inj h
    rw [hQ]
    exact W.zret (v := 1) hx hb hr (rfl) (fun t ht hW => ⟨⟨1, (), rfl, hx0, by show va_P _ _ _ t.heap; rw [ht]; exact hP⟩, hS.F ht⟩) hS.2.2 dX5_isFull_14
theorem in_X5_place_X5 : ∀ w ∈ wsX50, w ∈ wsX5_place := by decide +kernel
set_option maxHeartbeats 4000000 in
set_option maxRecDepth 100000 in
theorem c_X5_place (l : Launch) (D : va_G) (cI cJ : ClassId) (q : Nat → Nat) (hq : CUQ q) (F : Nat) (I : Nat → Int32) (J : Nat → Int64) (a : Nat → Nat → Int32) (b : Nat → Nat → Int64) (v1 : Int32) (x0 : Int32 × Int64 × Int64) (h : f_X5_place F I J a b v1 = some x0) : Met l yX5_place wsX5_place ({ frames := 0, cells := 0, slots := 0, locals := 0 }) (CUPc D cI cJ q I J a b [.ref (q 1), .int v1]) (va_Qv (fun (u : Int32 × Int64 × Int64) => u = x0) (fun (u : Int32 × Int64 × Int64) t => va_P D vwCl (CUW cI cJ q (fu I 5 u.1) (fu (fu J 0 u.2.1) 2 u.2.2) a b) t.heap) (CUA q)) 0 0 (CUA q) := by
  refine mt_of (cc := cX5_place) (maxL := 2) (ret := none) (by decide) rfl ?_
  intro p e s m args below meth c s₁ B0 hml hv R Q hR hQ
  obtain ⟨hargs, hP, hK, hN⟩ := hv
  have hx := B0.exec
  have hb := B0.bytes
  have hr := B0.returns
  have hts := atoms_spec (ws := wsX5_place) B0.pre
  have hown : s.vm.findClass RX5 = some m.cls := findClass_of_methodNamed B0.named
  have hlocks := B0.notSynchronized
  have hS : va_S (CUA q) s.heap s.heap [] := va_S.rf
  have hl := lv_entry ([.ref (q 1), .int v1]) (n := 2) (Nat.le_of_ble_eq_true rfl)
  rw [hargs, lg_entry_eq]
  rw [← hargs]
  generalize (lg_sl ([.ref (q 1), .int v1]) ++ List.replicate (2 - (lg_sl ([.ref (q 1), .int v1])).length) Slot.unset).toArray = ls at hl ⊢
  have hl : lv_has ls 2 [(0, .ref (q 1)), (1, .int v1)] := hl
  unfold f_X5_place at h
  refine lv_aload_n hx hb dX5_place_0 rfl (lv_at hl 0 rfl) ?_
  refine lv_dup hx hb dX5_place_1 rfl ?_
  refine va_get (D := D) (ci := 5) (v := .int (I 5)) (C := RX5) (T := TX5) (N := 9) hx hb hts in_X5_place_X5 hown hK hP 1 rfl rfl 1 (by decide) (hts (.fieldLink RX5 35 "LearnedReasons$Things" "numbersGiven" "I") (by decide +kernel)) (fun _ h9 => h9) rfl dX5_place_2 ?_
  refine lv_iconst (v := 1) hx hb dX5_place_5 (by decide) ?_
  refine lv_iadd hx hb dX5_place_6 ?_
  refine lv_topi (fun v_1 ev_1 => ?_)
  have h := nmI_at ev_1 h
  refine va_put (D := D) (ci := 5) (v := .int v_1) (ty := .int) (C := RX5) (T := TX5) (N := 9) hx hb hts in_X5_place_X5 tyX5 tyX5_ok nmX5 hown hK hP (CUW_D hq) hS 1 rfl rfl 1 (by decide) (hts (.fieldLink RX5 35 "LearnedReasons$Things" "numbersGiven" "I") (by decide +kernel)) (fun _ h9 => h9) rfl (by decide +kernel) rfl rfl (Nat.le_of_ble_eq_true rfl) dX5_place_7 (fun H locs hP _ hS => ?_)
  have hP : va_P D vwCl (CUW cI cJ q (fu I 5 v_1) J a b) H := hP
  refine lv_aload_n hx hb dX5_place_10 rfl (lv_at hl 0 rfl) ?_
  refine lv_dup hx hb dX5_place_11 rfl ?_
  refine va_get (D := D) (ci := 5) (v := .long (J 0)) (C := RX5) (T := TX5) (N := 9) hx hb hts in_X5_place_X5 hown hK hP 1 rfl rfl 2 (by decide) (hts (.fieldLink RX5 28 "LearnedReasons$Things" "standing" "J") (by decide +kernel)) (fun _ h9 => h9) rfl dX5_place_12 ?_
  refine lv_lconst (v := 1) hx hb dX5_place_15 (by decide) ?_
  refine lv_iload_n hx hb dX5_place_16 rfl (lv_at hl 1 rfl) ?_
  refine lv_lshl hx hb dX5_place_17 rfl ?_
  refine lv_lor hx hb dX5_place_18 ?_
  refine lv_topl (fun w_2 ew_2 => ?_)
  have h := nmJ_at ew_2 h
  refine va_put (D := D) (ci := 5) (v := .long w_2) (ty := .long) (C := RX5) (T := TX5) (N := 9) hx hb hts in_X5_place_X5 tyX5 tyX5_ok nmX5 hown hK hP (CUW_D hq) hS 1 rfl rfl 2 (by decide) (hts (.fieldLink RX5 28 "LearnedReasons$Things" "standing" "J") (by decide +kernel)) (fun _ h9 => h9) rfl (by decide +kernel) rfl rfl (Nat.le_of_ble_eq_true rfl) dX5_place_19 (fun H locs hP _ hS => ?_)
  have hP : va_P D vwCl (CUW cI cJ q (fu I 5 v_1) (fu J 0 w_2) a b) H := hP
  refine lv_aload_n hx hb dX5_place_22 rfl (lv_at hl 0 rfl) ?_
  refine lv_dup hx hb dX5_place_23 rfl ?_
  refine va_get (D := D) (ci := 5) (v := .long (J 2)) (C := RX5) (T := TX5) (N := 9) hx hb hts in_X5_place_X5 hown hK hP 1 rfl rfl 4 (by decide) (hts (.fieldLink RX5 32 "LearnedReasons$Things" "unread" "J") (by decide +kernel)) (fun _ h9 => h9) rfl dX5_place_24 ?_
  refine lv_lconst (v := 1) hx hb dX5_place_27 (by decide) ?_
  refine lv_iload_n hx hb dX5_place_28 rfl (lv_at hl 1 rfl) ?_
  refine lv_lshl hx hb dX5_place_29 rfl ?_
  refine lv_lor hx hb dX5_place_30 ?_
  refine lv_topl (fun w_3 ew_3 => ?_)
  have h := nmJ_at ew_3 h
  refine va_put (D := D) (ci := 5) (v := .long w_3) (ty := .long) (C := RX5) (T := TX5) (N := 9) hx hb hts in_X5_place_X5 tyX5 tyX5_ok nmX5 hown hK hP (CUW_D hq) hS 1 rfl rfl 4 (by decide) (hts (.fieldLink RX5 32 "LearnedReasons$Things" "unread" "J") (by decide +kernel)) (fun _ h9 => h9) rfl (by decide +kernel) rfl rfl (Nat.le_of_ble_eq_true rfl) dX5_place_31 (fun H locs hP _ hS => ?_)
  have hP : va_P D vwCl (CUW cI cJ q (fu I 5 v_1) (fu (fu J 0 w_2) 2 w_3) a b) H := hP
  have hx0 := Option.some.inj h
  rw [hQ]
  exact W.vret hx hb hr (fun t ht hW => ⟨⟨(v_1, w_2, w_3), rfl, hx0, by show va_P _ _ _ t.heap; rw [ht]; exact hP⟩, hS.F ht⟩) hS.2.2 dX5_place_34
