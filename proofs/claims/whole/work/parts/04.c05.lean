theorem in_X0_falseNames_X0 : ∀ w ∈ wsX00, w ∈ wsX0_falseNames := by decide +kernel
set_option maxHeartbeats 4000000 in
set_option maxRecDepth 100000 in
theorem c_X0_falseNames (l : Launch) (D : va_G) (cI cJ : ClassId) (q : Nat → Nat) (hq : CUQ q) (F : Nat) (I : Nat → Int32) (J : Nat → Int64) (a : Nat → Nat → Int32) (b : Nat → Nat → Int64) (x0 : Int32) (h : f_X0_falseNames F I J a b = some x0) : Met l yX0_falseNames wsX0_falseNames ({ frames := 0, cells := 0, slots := 0, locals := 0 }) (CUPc D cI cJ q I J a b [.ref (q 4)]) (va_Qi (fun (r : Int32) (u : Unit) => r = x0) (fun (u : Unit) t => va_P D vwCl (CUW cI cJ q I J a b) t.heap) (CUA q)) 0 0 (CUA q) := by
  refine mt_of (cc := cX0_falseNames) (maxL := 1) (ret := (some .int)) (by decide) rfl ?_
  intro p e s m args below meth c s₁ B0 hml hv R Q hR hQ
  obtain ⟨hargs, hP, hK, hN⟩ := hv
  have hx := B0.exec
  have hb := B0.bytes
  have hr := B0.returns
  have hts := atoms_spec (ws := wsX0_falseNames) B0.pre
  have hown : s.vm.findClass RX0 = some m.cls := findClass_of_methodNamed B0.named
  have hlocks := B0.notSynchronized
  have hS : va_S (CUA q) s.heap s.heap [] := va_S.rf
  have hl := lv_entry ([.ref (q 4)]) (n := 1) (Nat.le_of_ble_eq_true rfl)
  rw [hargs, lg_entry_eq]
  rw [← hargs]
  generalize (lg_sl ([.ref (q 4)]) ++ List.replicate (1 - (lg_sl ([.ref (q 4)])).length) Slot.unset).toArray = ls at hl ⊢
  have hl : lv_has ls 1 [(0, .ref (q 4))] := hl
  unfold f_X0_falseNames at h
  refine lv_aload_n hx hb dX0_falseNames_0 rfl (lv_at hl 0 rfl) ?_
  refine va_get (D := D) (ci := 0) (v := .int (I 9)) (C := RX0) (T := TX0) (N := 6) hx hb hts in_X0_falseNames_X0 hown hK hP 4 rfl rfl 4 (by decide) (hts (.fieldLink RX0 27 "LearnedReasons$AtOnce" "isFalse" "I") (by decide +kernel)) (fun _ h9 => h9) rfl dX0_falseNames_1 ?_
  have hx0 := Option.some.inj h
  rw [hQ]
  exact W.iret (v := I 9) hx hb hr (fun t ht hW => ⟨⟨(I 9), (), rfl, hx0, by show va_P _ _ _ t.heap; rw [ht]; exact hP⟩, hS.F ht⟩) hS.2.2 dX0_falseNames_4
set_option maxHeartbeats 4000000 in
set_option maxRecDepth 100000 in
theorem c_X6_truthOf (l : Launch) (F : Nat) (v0 : Int32) (v1 : Int32) (v2 : Int32) (x0 : Int32) (h : f_X6_truthOf F v0 v1 v2 = some x0) : Met l yX6_truthOf wsX6_truthOf ({ frames := 0, cells := 0, slots := 0, locals := 0 }) (va_Pc [.int v0, .int v1, .int v2] (fun _ => True)) (va_Qi (fun (r : Int32) (u : Unit) => r = x0) (fun _ _ => True) (fun _ => False)) 0 0 (fun _ => False) := by
  refine mt_of (cc := cX6_truthOf) (maxL := 3) (ret := (some .int)) (by decide) rfl ?_
  intro p e s m args below meth c s₁ B0 hml hv R Q hR hQ
  obtain ⟨hargs, -⟩ := hv
  have hx := B0.exec
  have hb := B0.bytes
  have hr := B0.returns
  have hts := atoms_spec (ws := wsX6_truthOf) B0.pre
  have hown : s.vm.findClass RX6 = some m.cls := findClass_of_methodNamed B0.named
  have hlocks := B0.notSynchronized
  have hS : va_S (fun _ => False) s.heap s.heap [] := va_S.rf
  have hl := lv_entry ([.int v0, .int v1, .int v2]) (n := 3) (Nat.le_of_ble_eq_true rfl)
  rw [hargs, lg_entry_eq]
  rw [← hargs]
  generalize (lg_sl ([.int v0, .int v1, .int v2]) ++ List.replicate (3 - (lg_sl ([.int v0, .int v1, .int v2])).length) Slot.unset).toArray = ls at hl ⊢
  have hl : lv_has ls 3 [(0, .int v0), (1, .int v1), (2, .int v2)] := hl
  unfold f_X6_truthOf at h
  refine lv_iload_n hx hb dX6_truthOf_0 rfl (lv_at hl 1 rfl) ?_
  refine lv_iload_n hx hb dX6_truthOf_1 rfl (lv_at hl 0 rfl) ?_
  refine lv_ishr hx hb dX6_truthOf_2 ?_
  refine lv_iconst (v := 1) hx hb dX6_truthOf_3 (by decide) ?_
  refine lv_iand hx hb dX6_truthOf_4 ?_
  refine lv_iconst (v := 1) hx hb dX6_truthOf_5 (by decide) ?_
  refine lv_icmp_ne (tgt := 11) hx hb dX6_truthOf_6 (by decide) (fun c_1 => ?_) (fun c_1 => ?_)
  · have h := if_f c_1 h
    refine lv_iload_n hx hb dX6_truthOf_11 rfl (lv_at hl 2 rfl) ?_
    refine lv_iload_n hx hb dX6_truthOf_12 rfl (lv_at hl 0 rfl) ?_
    refine lv_ishr hx hb dX6_truthOf_13 ?_
    refine lv_iconst (v := 1) hx hb dX6_truthOf_14 (by decide) ?_
    refine lv_iand hx hb dX6_truthOf_15 ?_
    refine lv_iconst (v := 1) hx hb dX6_truthOf_16 (by decide) ?_
    refine lv_icmp_ne (tgt := 24) hx hb dX6_truthOf_17 (by decide) (fun c_2 => ?_) (fun c_2 => ?_)
    · have h := if_f c_2 h
      refine lv_iconst (v := 2) hx hb dX6_truthOf_24 (by decide) ?_
      have hx0 := Option.some.inj h
      rw [hQ]
      exact W.iret (v := 2) hx hb hr (fun t ht hW => ⟨⟨2, (), rfl, hx0, trivial⟩, hS.F ht⟩) hS.2.2 dX6_truthOf_25
    · have h := if_t c_2 h
      refine lv_iconst (v := 0) hx hb dX6_truthOf_20 (by decide) ?_
      refine lv_goto (tgt := 25) hx hb dX6_truthOf_21 (by decide) ?_
      have hx0 := Option.some.inj h
      rw [hQ]
      exact W.iret (v := 0) hx hb hr (fun t ht hW => ⟨⟨0, (), rfl, hx0, trivial⟩, hS.F ht⟩) hS.2.2 dX6_truthOf_25
  · have h := if_t c_1 h
    refine lv_iconst (v := 1) hx hb dX6_truthOf_9 (by decide) ?_
    have hx0 := Option.some.inj h
    rw [hQ]
    exact W.iret (v := 1) hx hb hr (fun t ht hW => ⟨⟨1, (), rfl, hx0, trivial⟩, hS.F ht⟩) hS.2.2 dX6_truthOf_10
theorem in_X6_known_X6 : ∀ w ∈ wsX60, w ∈ wsX6_known := by decide +kernel
set_option maxHeartbeats 4000000 in
set_option maxRecDepth 100000 in
theorem c_X6_known (l : Launch) (D : va_G) (cI cJ : ClassId) (q : Nat → Nat) (hq : CUQ q) (F : Nat) (I : Nat → Int32) (J : Nat → Int64) (a : Nat → Nat → Int32) (b : Nat → Nat → Int64) (v1 : Int32) (x0 : Int32 × Int32 × Int32 × Int32) (h : f_X6_known F I J a b v1 = some x0) : Met l yX6_known wsX6_known ({ frames := 6, cells := 0, slots := 0, locals := 140 }) (CUPc D cI cJ q I J a b [.ref (q 0), .int v1]) (va_Qi (fun (r : Int32) (u : Int32 × Int32 × Int32) => r = x0.1 ∧ u = x0.2) (fun (u : Int32 × Int32 × Int32) t => va_P D vwCl (CUW cI cJ q (fu (fu (fu I 8 u.1) 9 u.2.1) 10 u.2.2) J a b) t.heap) (CUA q)) 0 0 (CUA q) := by
  refine mt_of (cc := cX6_known) (maxL := 2) (ret := (some .int)) (by decide) rfl ?_
  intro p e s m args below meth c s₁ B0 hml hv R Q hR hQ
  obtain ⟨hargs, hP, hK, hN⟩ := hv
  have hx := B0.exec
  have hb := B0.bytes
  have hr := B0.returns
  have hts := atoms_spec (ws := wsX6_known) B0.pre
  have hown : s.vm.findClass RX6 = some m.cls := findClass_of_methodNamed B0.named
  have hlocks := B0.notSynchronized
  have hS : va_S (CUA q) s.heap s.heap [] := va_S.rf
  have hl := lv_entry ([.ref (q 0), .int v1]) (n := 2) (Nat.le_of_ble_eq_true rfl)
  rw [hargs, lg_entry_eq]
  rw [← hargs]
  generalize (lg_sl ([.ref (q 0), .int v1]) ++ List.replicate (2 - (lg_sl ([.ref (q 0), .int v1])).length) Slot.unset).toArray = ls at hl ⊢
  have hl : lv_has ls 2 [(0, .ref (q 0)), (1, .int v1)] := hl
  unfold f_X6_known at h
  refine lv_aload_n hx hb dX6_known_0 rfl (lv_at hl 0 rfl) ?_
  refine va_get (D := D) (ci := 6) (v := .ref (q 1)) (C := RX6) (T := TX6) (N := 9) hx hb hts in_X6_known_X6 hown hK hP 0 rfl rfl 0 (by decide) (hts (.fieldLink RX6 10 "LearnedReasons" "things" "LLearnedReasons$Things;") (by decide +kernel)) (fun _ h9 => h9) rfl dX6_known_1 ?_
  refine lv_iload_n hx hb dX6_known_4 rfl (lv_at hl 1 rfl) ?_
  obtain ⟨x_1, hx_1, h⟩ := ob_some h
  refine va_calli (va_runV (As := [.int v1]) (rest := []) ⟨hx, hb, hml, hown, hts⟩ (c_X5_isName l D cI cJ q hq F I J a b v1 x_1 hx_1) (cwV 1 hts gX6_known_X5_isName rfl rfl rfl (by decide +kernel) (by rw [hR]; exact ⟨Nat.le_of_ble_eq_true rfl, Nat.le_of_ble_eq_true rfl⟩)) ⟨CUPc_blind, va_recv hK hP (ci := 5) (q0 := 1) rfl rfl, fun U hU hW => ⟨rfl, by rw [hU]; exact hP, va_K.moved hW.alike hK, va_Nw.warmM hW hN⟩⟩ rfl rfl hl.1 rfl (lv_room (Nat.le_of_ble_eq_true rfl)) dX6_known_5 ⟨Nat.zero_le _, Nat.zero_le _⟩) hS (fun _ _ h => h) (fun _ h => h) (fun r u t H1 locs ht hvm hw hB hz1 hk1 hS => ?_)
  obtain rfl := hw.symm
  rw [ht] at hB
  have hP : va_P D vwCl (CUW cI cJ q I J a b) H1 := hB
  clear hB hz1 hk1 ht hvm
  generalize H1 = H at hP hS ⊢
  refine lv_if_ne (tgt := 13) hx hb dX6_known_8 (by decide) (fun c_2 => ?_) (fun c_2 => ?_)
  · have h := if_f c_2 h
    refine lv_aload_n hx hb dX6_known_13 rfl (lv_at hl 0 rfl) ?_
    obtain ⟨x_3, hx_3, h⟩ := ob_some h
    refine va_calli (va_runV (As := []) (rest := []) ⟨hx, hb, hml, hown, hts⟩ (c_X6_clashFromAssumed l D cI cJ q hq F I J a b x_3 hx_3) (cwV 0 hts gX6_known_X6_clashFromAssumed rfl rfl rfl (by decide +kernel) (by rw [hR]; exact ⟨Nat.le_of_ble_eq_true rfl, Nat.le_of_ble_eq_true rfl⟩)) ⟨CUPc_blind, va_recv hK hP (ci := 6) (q0 := 0) rfl rfl, fun U hU hW => ⟨rfl, by rw [hU]; exact hP, va_K.moved hW.alike hK, va_Nw.warmM hW hN⟩⟩ rfl rfl hl.1 rfl (lv_room (Nat.le_of_ble_eq_true rfl)) dX6_known_14 ⟨Nat.zero_le _, Nat.zero_le _⟩) hS (fun _ _ h => h) (fun _ h => h) (fun r u t H1 locs ht hvm hw hB hz1 hk1 hS => ?_)
    obtain ⟨rfl, rfl⟩ := hw
    rw [ht] at hB
    have hP : va_P D vwCl (CUW cI cJ q (fu (fu (fu I 8 x_3.2.1) 9 x_3.2.2.1) 10 x_3.2.2.2) J a b) H1 := hB
    clear hB hz1 hk1 ht hvm
    generalize H1 = H at hP hS ⊢
    refine lv_if_eq (tgt := 23) hx hb dX6_known_17 (by decide) (fun c_4 => ?_) (fun c_4 => ?_)
    · have h := if_t c_4 h
      refine lv_iload_n hx hb dX6_known_23 rfl (lv_at hl 1 rfl) ?_
      refine lv_aload_n hx hb dX6_known_24 rfl (lv_at hl 0 rfl) ?_
      refine va_get (D := D) (ci := 6) (v := .ref (q 4)) (C := RX6) (T := TX6) (N := 9) hx hb hts in_X6_known_X6 hown hK hP 0 rfl rfl 2 (by decide) (hts (.fieldLink RX6 31 "LearnedReasons" "atOnce" "LLearnedReasons$AtOnce;") (by decide +kernel)) (fun _ h9 => h9) rfl dX6_known_25 ?_
      obtain ⟨x_5, hx_5, h⟩ := ob_some h
      refine va_calli (va_runV (As := []) (rest := [.int v1]) ⟨hx, hb, hml, hown, hts⟩ (c_X0_trueNames l D cI cJ q hq F (fu (fu (fu I 8 x_3.2.1) 9 x_3.2.2.1) 10 x_3.2.2.2) J a b x_5 hx_5) (cwV 0 hts gX6_known_X0_trueNames rfl rfl rfl (by decide +kernel) (by rw [hR]; exact ⟨Nat.le_of_ble_eq_true rfl, Nat.le_of_ble_eq_true rfl⟩)) ⟨CUPc_blind, va_recv hK hP (ci := 0) (q0 := 4) rfl rfl, fun U hU hW => ⟨rfl, by rw [hU]; exact hP, va_K.moved hW.alike hK, va_Nw.warmM hW hN⟩⟩ rfl rfl hl.1 rfl (lv_room (Nat.le_of_ble_eq_true rfl)) dX6_known_28 ⟨Nat.zero_le _, Nat.zero_le _⟩) hS (fun _ _ h => h) (fun _ h => h) (fun r u t H1 locs ht hvm hw hB hz1 hk1 hS => ?_)
      obtain rfl := hw.symm
      rw [ht] at hB
      have hP : va_P D vwCl (CUW cI cJ q (fu (fu (fu I 8 x_3.2.1) 9 x_3.2.2.1) 10 x_3.2.2.2) J a b) H1 := hB
      clear hB hz1 hk1 ht hvm
      generalize H1 = H at hP hS ⊢
      refine lv_aload_n hx hb dX6_known_31 rfl (lv_at hl 0 rfl) ?_
      refine va_get (D := D) (ci := 6) (v := .ref (q 4)) (C := RX6) (T := TX6) (N := 9) hx hb hts in_X6_known_X6 hown hK hP 0 rfl rfl 2 (by decide) (hts (.fieldLink RX6 31 "LearnedReasons" "atOnce" "LLearnedReasons$AtOnce;") (by decide +kernel)) (fun _ h9 => h9) rfl dX6_known_32 ?_
      obtain ⟨x_6, hx_6, h⟩ := ob_some h
      refine va_calli (va_runV (As := []) (rest := [.int x_5, .int v1]) ⟨hx, hb, hml, hown, hts⟩ (c_X0_falseNames l D cI cJ q hq F (fu (fu (fu I 8 x_3.2.1) 9 x_3.2.2.1) 10 x_3.2.2.2) J a b x_6 hx_6) (cwV 0 hts gX6_known_X0_falseNames rfl rfl rfl (by decide +kernel) (by rw [hR]; exact ⟨Nat.le_of_ble_eq_true rfl, Nat.le_of_ble_eq_true rfl⟩)) ⟨CUPc_blind, va_recv hK hP (ci := 0) (q0 := 4) rfl rfl, fun U hU hW => ⟨rfl, by rw [hU]; exact hP, va_K.moved hW.alike hK, va_Nw.warmM hW hN⟩⟩ rfl rfl hl.1 rfl (lv_room (Nat.le_of_ble_eq_true rfl)) dX6_known_35 ⟨Nat.zero_le _, Nat.zero_le _⟩) hS (fun _ _ h => h) (fun _ h => h) (fun r u t H1 locs ht hvm hw hB hz1 hk1 hS => ?_)
      obtain rfl := hw.symm
      rw [ht] at hB
      have hP : va_P D vwCl (CUW cI cJ q (fu (fu (fu I 8 x_3.2.1) 9 x_3.2.2.1) 10 x_3.2.2.2) J a b) H1 := hB
      clear hB hz1 hk1 ht hvm
      generalize H1 = H at hP hS ⊢
      obtain ⟨x_7, hx_7, h⟩ := ob_some h
      refine va_calli (va_runS (As := [.int v1, .int x_5, .int x_6]) (rest := []) ⟨hx, hb, hml, hown, hts⟩ (c_X6_truthOf l F v1 x_5 x_6 x_7 hx_7) (va_cwS 3 hts gX6_known_X6_truthOf rfl rfl rfl (by decide +kernel) (by rw [hR]; exact ⟨Nat.le_of_ble_eq_true rfl, Nat.le_of_ble_eq_true rfl⟩)) ⟨fun _ _ _ _ h => h, fun U hU hW => ⟨rfl, trivial⟩⟩ rfl rfl hl.1 rfl (lv_room (Nat.le_of_ble_eq_true rfl)) dX6_known_38 ⟨Nat.zero_le _, Nat.zero_le _⟩) hS (fun _ _ h => h.elim) (fun _ h => h.elim) (fun r u t H1 locs ht hvm hw hB hz1 hk1 hS => ?_)
      obtain rfl := hw.symm
      have hP := hP.kept (fun k x hx => hk1 x.1 (hP k x hx).lt (fun h => h))
      clear hB hz1 hk1 ht hvm
      generalize H1 = H at hP hS ⊢
      have hx0 := Option.some.inj h
      rw [hQ]
      exact W.iret (v := x_7) hx hb hr (fun t ht hW => ⟨⟨x_7, (x_3.2.1, x_3.2.2.1, x_3.2.2.2), rfl, ⟨congrArg (fun z => z.1) hx0, congrArg (fun z => z.2) hx0⟩, by show va_P _ _ _ t.heap; rw [ht]; exact hP⟩, hS.F ht⟩) hS.2.2 dX6_known_41
    · have h := if_f c_4 h
      refine lv_bipush (v := (-2)) hx hb dX6_known_20 (by decide) ?_
      have hx0 := Option.some.inj h
      rw [hQ]
      exact W.iret (v := (-2)) hx hb hr (fun t ht hW => ⟨⟨(-2), (x_3.2.1, x_3.2.2.1, x_3.2.2.2), rfl, ⟨congrArg (fun z => z.1) hx0, congrArg (fun z => z.2) hx0⟩, by show va_P _ _ _ t.heap; rw [ht]; exact hP⟩, hS.F ht⟩) hS.2.2 dX6_known_22
  · have h := if_t c_2 h
    refine lv_iconst (v := (-1)) hx hb dX6_known_11 (by decide) ?_
    have hx0 := Option.some.inj h
    rw [hQ]
    exact W.iret (v := (-1)) hx hb hr (fun t ht hW => ⟨⟨(-1), ((I 8), (I 9), (I 10)), rfl, ⟨congrArg (fun z => z.1) hx0, congrArg (fun z => z.2) hx0⟩, by show va_P _ _ _ t.heap; rw [ht]; exact hP⟩, hS.F ht⟩) hS.2.2 dX6_known_12
theorem in_X2_add_X2 : ∀ w ∈ wsX20, w ∈ wsX2_add := by decide +kernel
set_option maxHeartbeats 4000000 in
set_option maxRecDepth 100000 in
theorem c_X2_add (l : Launch) (D : va_G) (cI cJ : ClassId) (q : Nat → Nat) (hq : CUQ q) (F : Nat) (I : Nat → Int32) (J : Nat → Int64) (a : Nat → Nat → Int32) (b : Nat → Nat → Int64) (v1 : Int32) (v2 : Int32) (x0 : Int32 × (Nat → Int32) × (Nat → Int32)) (h : f_X2_add F I J a b v1 v2 = some x0) : Met l yX2_add wsX2_add ({ frames := 0, cells := 0, slots := 0, locals := 0 }) (CUPc D cI cJ q I J a b [.ref (q 2), .int v1, .int v2]) (va_Qv (fun (u : Int32 × (Nat → Int32) × (Nat → Int32)) => u = x0) (fun (u : Int32 × (Nat → Int32) × (Nat → Int32)) t => va_P D vwCl (CUW cI cJ q (fu I 6 u.1) J (fu (fu a 4 u.2.1) 5 u.2.2) b) t.heap) (CUA q)) 0 0 (CUA q) := by
  refine mt_of (cc := cX2_add) (maxL := 3) (ret := none) (by decide) rfl ?_
  intro p e s m args below meth c s₁ B0 hml hv R Q hR hQ
  obtain ⟨hargs, hP, hK, hN⟩ := hv
  have hx := B0.exec
  have hb := B0.bytes
  have hr := B0.returns
  have hts := atoms_spec (ws := wsX2_add) B0.pre
  have hown : s.vm.findClass RX2 = some m.cls := findClass_of_methodNamed B0.named
  have hlocks := B0.notSynchronized
  have hS : va_S (CUA q) s.heap s.heap [] := va_S.rf
  have hl := lv_entry ([.ref (q 2), .int v1, .int v2]) (n := 3) (Nat.le_of_ble_eq_true rfl)
  rw [hargs, lg_entry_eq]
  rw [← hargs]
  generalize (lg_sl ([.ref (q 2), .int v1, .int v2]) ++ List.replicate (3 - (lg_sl ([.ref (q 2), .int v1, .int v2])).length) Slot.unset).toArray = ls at hl ⊢
  have hl : lv_has ls 3 [(0, .ref (q 2)), (1, .int v1), (2, .int v2)] := hl
  unfold f_X2_add at h
  refine lv_aload_n hx hb dX2_add_0 rfl (lv_at hl 0 rfl) ?_
  refine va_get (D := D) (ci := 2) (v := .int (I 6)) (C := RX2) (T := TX2) (N := 3) hx hb hts in_X2_add_X2 hown hK hP 2 rfl rfl 0 (by decide) (hts (.fieldLink RX2 18 "LearnedReasons$Lemmas" "size" "I") (by decide +kernel)) (fun _ h9 => h9) rfl dX2_add_1 ?_
  refine lv_bipush (v := 40) hx hb dX2_add_4 (by decide) ?_
  refine lv_icmp_ge (tgt := 39) hx hb dX2_add_6 (by decide) (fun c_1 => ?_) (fun c_1 => ?_)
  · have h := if_t c_1 h
    have hx0 := Option.some.inj h
    rw [hQ]
    exact W.vret hx hb hr (fun t ht hW => ⟨⟨((I 6), (a 4), (a 5)), rfl, hx0, by show va_P _ _ _ t.heap; rw [ht]; exact hP⟩, hS.F ht⟩) hS.2.2 dX2_add_39
  · have h := if_f c_1 h
    refine lv_aload_n hx hb dX2_add_9 rfl (lv_at hl 0 rfl) ?_
    refine va_get (D := D) (ci := 2) (v := .ref (q 11)) (C := RX2) (T := TX2) (N := 3) hx hb hts in_X2_add_X2 hown hK hP 2 rfl rfl 1 (by decide) (hts (.fieldLink RX2 9 "LearnedReasons$Lemmas" "wantTrue" "[I") (by decide +kernel)) (fun _ h9 => h9) rfl dX2_add_10 ?_
    refine lv_aload_n hx hb dX2_add_13 rfl (lv_at hl 0 rfl) ?_
    refine va_get (D := D) (ci := 2) (v := .int (I 6)) (C := RX2) (T := TX2) (N := 3) hx hb hts in_X2_add_X2 hown hK hP 2 rfl rfl 0 (by decide) (hts (.fieldLink RX2 18 "LearnedReasons$Lemmas" "size" "I") (by decide +kernel)) (fun _ h9 => h9) rfl dX2_add_14 ?_
    refine lv_iload_n hx hb dX2_add_17 rfl (lv_at hl 1 rfl) ?_
    obtain ⟨g_2, h⟩ := gd_some h
    refine va_iast hx hb hK hP (CUW_D hq) hS 11 0 rfl rfl g_2 dX2_add_18 (fun H locs hP _ hS => ?_)
    have hP : va_P D vwCl (CUW cI cJ q I J (fu a 4 (upd (a 4) (I 6).toNatClampNeg v1)) b) H := hP
    refine lv_aload_n hx hb dX2_add_19 rfl (lv_at hl 0 rfl) ?_
    refine va_get (D := D) (ci := 2) (v := .ref (q 12)) (C := RX2) (T := TX2) (N := 3) hx hb hts in_X2_add_X2 hown hK hP 2 rfl rfl 2 (by decide) (hts (.fieldLink RX2 15 "LearnedReasons$Lemmas" "wantFalse" "[I") (by decide +kernel)) (fun _ h9 => h9) rfl dX2_add_20 ?_
    refine lv_aload_n hx hb dX2_add_23 rfl (lv_at hl 0 rfl) ?_
    refine va_get (D := D) (ci := 2) (v := .int (I 6)) (C := RX2) (T := TX2) (N := 3) hx hb hts in_X2_add_X2 hown hK hP 2 rfl rfl 0 (by decide) (hts (.fieldLink RX2 18 "LearnedReasons$Lemmas" "size" "I") (by decide +kernel)) (fun _ h9 => h9) rfl dX2_add_24 ?_
    refine lv_iload_n hx hb dX2_add_27 rfl (lv_at hl 2 rfl) ?_
    obtain ⟨g_3, h⟩ := gd_some h
    refine va_iast hx hb hK hP (CUW_D hq) hS 12 0 rfl rfl g_3 dX2_add_28 (fun H locs hP _ hS => ?_)
    have hP : va_P D vwCl (CUW cI cJ q I J (fu (fu a 4 (upd (a 4) (I 6).toNatClampNeg v1)) 5 (upd (a 5) (I 6).toNatClampNeg v2)) b) H := hP
    refine lv_aload_n hx hb dX2_add_29 rfl (lv_at hl 0 rfl) ?_
    refine lv_dup hx hb dX2_add_30 rfl ?_
    refine va_get (D := D) (ci := 2) (v := .int (I 6)) (C := RX2) (T := TX2) (N := 3) hx hb hts in_X2_add_X2 hown hK hP 2 rfl rfl 0 (by decide) (hts (.fieldLink RX2 18 "LearnedReasons$Lemmas" "size" "I") (by decide +kernel)) (fun _ h9 => h9) rfl dX2_add_31 ?_
    refine lv_iconst (v := 1) hx hb dX2_add_34 (by decide) ?_
    refine lv_iadd hx hb dX2_add_35 ?_
    refine lv_topi (fun v_4 ev_4 => ?_)
    have h := nmI_at ev_4 h
    refine va_put (D := D) (ci := 2) (v := .int v_4) (ty := .int) (C := RX2) (T := TX2) (N := 3) hx hb hts in_X2_add_X2 tyX2 tyX2_ok nmX2 hown hK hP (CUW_D hq) hS 2 rfl rfl 0 (by decide) (hts (.fieldLink RX2 18 "LearnedReasons$Lemmas" "size" "I") (by decide +kernel)) (fun _ h9 => h9) rfl (by decide +kernel) rfl rfl (Nat.le_of_ble_eq_true rfl) dX2_add_36 (fun H locs hP _ hS => ?_)
    have hP : va_P D vwCl (CUW cI cJ q (fu I 6 v_4) J (fu (fu a 4 (upd (a 4) (I 6).toNatClampNeg v1)) 5 (upd (a 5) (I 6).toNatClampNeg v2)) b) H := hP
    have hx0 := Option.some.inj h
    rw [hQ]
    exact W.vret hx hb hr (fun t ht hW => ⟨⟨(v_4, (upd (a 4) (I 6).toNatClampNeg v1), (upd (a 5) (I 6).toNatClampNeg v2)), rfl, hx0, by show va_P _ _ _ t.heap; rw [ht]; exact hP⟩, hS.F ht⟩) hS.2.2 dX2_add_39
theorem in_X6_lemma_X6 : ∀ w ∈ wsX60, w ∈ wsX6_lemma := by decide +kernel
set_option maxHeartbeats 4000000 in
set_option maxRecDepth 100000 in
theorem c_X6_lemma (l : Launch) (D : va_G) (cI cJ : ClassId) (q : Nat → Nat) (hq : CUQ q) (F : Nat) (I : Nat → Int32) (J : Nat → Int64) (a : Nat → Nat → Int32) (b : Nat → Nat → Int64) (x0 : Int32 × Int32 × Int32 × Int32 × Int32 × Int32 × Int32 × (Nat → Int32) × (Nat → Int32)) (h : f_X6_lemma F I J a b = some x0) : Met l yX6_lemma wsX6_lemma ({ frames := 5, cells := 0, slots := 0, locals := 120 }) (CUPc D cI cJ q I J a b [.ref (q 0)]) (va_Qi (fun (r : Int32) (u : Int32 × Int32 × Int32 × Int32 × Int32 × Int32 × (Nat → Int32) × (Nat → Int32)) => r = x0.1 ∧ u = x0.2) (fun (u : Int32 × Int32 × Int32 × Int32 × Int32 × Int32 × (Nat → Int32) × (Nat → Int32)) t => va_P D vwCl (CUW cI cJ q (fu (fu (fu (fu (fu (fu I 0 u.1) 1 u.2.1) 6 u.2.2.1) 8 u.2.2.2.1) 9 u.2.2.2.2.1) 10 u.2.2.2.2.2.1) J (fu (fu a 4 u.2.2.2.2.2.2.1) 5 u.2.2.2.2.2.2.2) b) t.heap) (CUA q)) 0 0 (CUA q) := by
  refine mt_of (cc := cX6_lemma) (maxL := 3) (ret := (some .int)) (by decide) rfl ?_
  intro p e s m args below meth c s₁ B0 hml hv R Q hR hQ
  obtain ⟨hargs, hP, hK, hN⟩ := hv
  have hx := B0.exec
  have hb := B0.bytes
  have hr := B0.returns
  have hts := atoms_spec (ws := wsX6_lemma) B0.pre
  have hown : s.vm.findClass RX6 = some m.cls := findClass_of_methodNamed B0.named
  have hlocks := B0.notSynchronized
  have hS : va_S (CUA q) s.heap s.heap [] := va_S.rf
  have hl := lv_entry ([.ref (q 0)]) (n := 3) (Nat.le_of_ble_eq_true rfl)
  rw [hargs, lg_entry_eq]
  rw [← hargs]
  generalize (lg_sl ([.ref (q 0)]) ++ List.replicate (3 - (lg_sl ([.ref (q 0)])).length) Slot.unset).toArray = ls at hl ⊢
  have hl : lv_has ls 3 [(0, .ref (q 0))] := hl
  unfold f_X6_lemma at h
  refine lv_aload_n hx hb dX6_lemma_0 rfl (lv_at hl 0 rfl) ?_
  refine va_get (D := D) (ci := 6) (v := .ref (q 2)) (C := RX6) (T := TX6) (N := 9) hx hb hts in_X6_lemma_X6 hown hK hP 0 rfl rfl 1 (by decide) (hts (.fieldLink RX6 19 "LearnedReasons" "heldLemmas" "LLearnedReasons$Lemmas;") (by decide +kernel)) (fun _ h9 => h9) rfl dX6_lemma_1 ?_
  obtain ⟨x_1, hx_1, h⟩ := ob_some h
  refine va_calli (va_runV (As := []) (rest := []) ⟨hx, hb, hml, hown, hts⟩ (c_X2_howMany l D cI cJ q hq F I J a b x_1 hx_1) (cwV 0 hts gX6_lemma_X2_howMany rfl rfl rfl (by decide +kernel) (by rw [hR]; exact ⟨Nat.le_of_ble_eq_true rfl, Nat.le_of_ble_eq_true rfl⟩)) ⟨CUPc_blind, va_recv hK hP (ci := 2) (q0 := 2) rfl rfl, fun U hU hW => ⟨rfl, by rw [hU]; exact hP, va_K.moved hW.alike hK, va_Nw.warmM hW hN⟩⟩ rfl rfl hl.1 rfl (lv_room (Nat.le_of_ble_eq_true rfl)) dX6_lemma_4 ⟨Nat.zero_le _, Nat.zero_le _⟩) hS (fun _ _ h => h) (fun _ h => h) (fun r u t H1 locs ht hvm hw hB hz1 hk1 hS => ?_)
  obtain rfl := hw.symm
  rw [ht] at hB
  have hP : va_P D vwCl (CUW cI cJ q I J a b) H1 := hB
  clear hB hz1 hk1 ht hvm
  generalize H1 = H at hP hS ⊢
  refine lv_bipush (v := 40) hx hb dX6_lemma_7 (by decide) ?_
  refine lv_icmp_lt (tgt := 15) hx hb dX6_lemma_9 (by decide) (fun c_2 => ?_) (fun c_2 => ?_)
  · have h := if_t c_2 h
    refine lv_aload_n hx hb dX6_lemma_15 rfl (lv_at hl 0 rfl) ?_
    refine va_get (D := D) (ci := 6) (v := .int (I 0)) (C := RX6) (T := TX6) (N := 9) hx hb hts in_X6_lemma_X6 hown hK hP 0 rfl rfl 5 (by decide) (hts (.fieldLink RX6 67 "LearnedReasons" "handTrue" "I") (by decide +kernel)) (fun _ h9 => h9) rfl dX6_lemma_16 ?_
    refine lv_istore_n (lv' := [(1, .int (I 0)), (0, .ref (q 0))]) hx hb dX6_lemma_19 rfl hl (by decide) rfl (fun ls hl => ?_)
    refine lv_aload_n hx hb dX6_lemma_20 rfl (lv_at hl 1 rfl) ?_
    refine va_get (D := D) (ci := 6) (v := .int (I 1)) (C := RX6) (T := TX6) (N := 9) hx hb hts in_X6_lemma_X6 hown hK hP 0 rfl rfl 6 (by decide) (hts (.fieldLink RX6 75 "LearnedReasons" "handFalse" "I") (by decide +kernel)) (fun _ h9 => h9) rfl dX6_lemma_21 ?_
    refine lv_istore_n (lv' := [(2, .int (I 1)), (1, .int (I 0)), (0, .ref (q 0))]) hx hb dX6_lemma_24 rfl hl (by decide) rfl (fun ls hl => ?_)
    refine lv_aload_n hx hb dX6_lemma_25 rfl (lv_at hl 2 rfl) ?_
    obtain ⟨x_3, hx_3, h⟩ := ob_some h
    refine va_callv (va_runV (As := []) (rest := []) ⟨hx, hb, hml, hown, hts⟩ (c_X6_emptyHand l D cI cJ q hq F I J a b x_3 hx_3) (cwV 0 hts gX6_lemma_X6_emptyHand rfl rfl rfl (by decide +kernel) (by rw [hR]; exact ⟨Nat.le_of_ble_eq_true rfl, Nat.le_of_ble_eq_true rfl⟩)) ⟨CUPc_blind, va_recv hK hP (ci := 6) (q0 := 0) rfl rfl, fun U hU hW => ⟨rfl, by rw [hU]; exact hP, va_K.moved hW.alike hK, va_Nw.warmM hW hN⟩⟩ rfl rfl hl.1 rfl (lv_room (Nat.le_of_ble_eq_true rfl)) dX6_lemma_26 ⟨Nat.zero_le _, Nat.zero_le _⟩) hS (fun _ _ h => h) (fun _ h => h) (fun u t H1 locs ht hvm hw hB hz1 hk1 hS => ?_)
    obtain rfl := hw.symm
    rw [ht] at hB
    have hP : va_P D vwCl (CUW cI cJ q (fu (fu I 0 x_3.1) 1 x_3.2) J a b) H1 := hB
    clear hB hz1 hk1 ht hvm
    generalize H1 = H at hP hS ⊢
    refine lv_aload_n hx hb dX6_lemma_29 rfl (lv_at hl 2 rfl) ?_
    refine va_get (D := D) (ci := 6) (v := .ref (q 4)) (C := RX6) (T := TX6) (N := 9) hx hb hts in_X6_lemma_X6 hown hK hP 0 rfl rfl 2 (by decide) (hts (.fieldLink RX6 31 "LearnedReasons" "atOnce" "LLearnedReasons$AtOnce;") (by decide +kernel)) (fun _ h9 => h9) rfl dX6_lemma_30 ?_
    refine lv_iload_n hx hb dX6_lemma_33 rfl (lv_at hl 0 rfl) ?_
    refine lv_iload_n hx hb dX6_lemma_34 rfl (lv_at hl 1 rfl) ?_
    refine lv_iconst (v := 1) hx hb dX6_lemma_35 (by decide) ?_
    obtain ⟨x_4, hx_4, h⟩ := ob_some h
    refine va_calli (va_runV (As := [.int (I 1), .int (I 0), .int 1]) (rest := []) ⟨hx, hb, hml, hown, hts⟩ (c_X0_clashes l D cI cJ q hq F (fu (fu I 0 x_3.1) 1 x_3.2) J a b (I 1) (I 0) 1 x_4 hx_4) (cwV 3 hts gX6_lemma_X0_clashes rfl rfl rfl (by decide +kernel) (by rw [hR]; exact ⟨Nat.le_of_ble_eq_true rfl, Nat.le_of_ble_eq_true rfl⟩)) ⟨CUPc_blind, va_recv hK hP (ci := 0) (q0 := 4) rfl rfl, fun U hU hW => ⟨rfl, by rw [hU]; exact hP, va_K.moved hW.alike hK, va_Nw.warmM hW hN⟩⟩ rfl rfl hl.1 rfl (lv_room (Nat.le_of_ble_eq_true rfl)) dX6_lemma_36 ⟨Nat.zero_le _, Nat.zero_le _⟩) hS (fun _ _ h => h) (fun _ h => h) (fun r u t H1 locs ht hvm hw hB hz1 hk1 hS => ?_)
    obtain ⟨rfl, rfl⟩ := hw
    rw [ht] at hB
    have hP : va_P D vwCl (CUW cI cJ q (fu (fu (fu (fu (fu I 0 x_3.1) 1 x_3.2) 8 x_4.2.1) 9 x_4.2.2.1) 10 x_4.2.2.2) J a b) H1 := hB
    clear hB hz1 hk1 ht hvm
    generalize H1 = H at hP hS ⊢
    refine lv_if_ne (tgt := 44) hx hb dX6_lemma_39 (by decide) (fun c_5 => ?_) (fun c_5 => ?_)
    · have h := if_f c_5 h
      refine lv_aload_n hx hb dX6_lemma_44 rfl (lv_at hl 2 rfl) ?_
      refine va_get (D := D) (ci := 6) (v := .ref (q 2)) (C := RX6) (T := TX6) (N := 9) hx hb hts in_X6_lemma_X6 hown hK hP 0 rfl rfl 1 (by decide) (hts (.fieldLink RX6 19 "LearnedReasons" "heldLemmas" "LLearnedReasons$Lemmas;") (by decide +kernel)) (fun _ h9 => h9) rfl dX6_lemma_45 ?_
      refine lv_iload_n hx hb dX6_lemma_48 rfl (lv_at hl 1 rfl) ?_
      refine lv_iload_n hx hb dX6_lemma_49 rfl (lv_at hl 0 rfl) ?_
      obtain ⟨x_6, hx_6, h⟩ := ob_some h
      refine va_callv (va_runV (As := [.int (I 0), .int (I 1)]) (rest := []) ⟨hx, hb, hml, hown, hts⟩ (c_X2_add l D cI cJ q hq F (fu (fu (fu (fu (fu I 0 x_3.1) 1 x_3.2) 8 x_4.2.1) 9 x_4.2.2.1) 10 x_4.2.2.2) J a b (I 0) (I 1) x_6 hx_6) (cwV 2 hts gX6_lemma_X2_add rfl rfl rfl (by decide +kernel) (by rw [hR]; exact ⟨Nat.le_of_ble_eq_true rfl, Nat.le_of_ble_eq_true rfl⟩)) ⟨CUPc_blind, va_recv hK hP (ci := 2) (q0 := 2) rfl rfl, fun U hU hW => ⟨rfl, by rw [hU]; exact hP, va_K.moved hW.alike hK, va_Nw.warmM hW hN⟩⟩ rfl rfl hl.1 rfl (lv_room (Nat.le_of_ble_eq_true rfl)) dX6_lemma_50 ⟨Nat.zero_le _, Nat.zero_le _⟩) hS (fun _ _ h => h) (fun _ h => h) (fun u t H1 locs ht hvm hw hB hz1 hk1 hS => ?_)
      obtain rfl := hw.symm
      rw [ht] at hB
      have hP : va_P D vwCl (CUW cI cJ q (fu (fu (fu (fu (fu (fu I 0 x_3.1) 1 x_3.2) 6 x_6.1) 8 x_4.2.1) 9 x_4.2.2.1) 10 x_4.2.2.2) J (fu (fu a 4 x_6.2.1) 5 x_6.2.2) b) H1 := hB
      clear hB hz1 hk1 ht hvm
      generalize H1 = H at hP hS ⊢
      refine lv_iconst (v := 1) hx hb dX6_lemma_53 (by decide) ?_
      have hx0 := Option.some.inj h
      rw [hQ]
      exact W.iret (v := 1) hx hb hr (fun t ht hW => ⟨⟨1, (x_3.1, x_3.2, x_6.1, x_4.2.1, x_4.2.2.1, x_4.2.2.2, x_6.2.1, x_6.2.2), rfl, ⟨congrArg (fun z => z.1) hx0, congrArg (fun z => z.2) hx0⟩, by show va_P _ _ _ t.heap; rw [ht]; exact hP⟩, hS.F ht⟩) hS.2.2 dX6_lemma_54
    · have h := if_t c_5 h
      refine lv_iconst (v := 0) hx hb dX6_lemma_42 (by decide) ?_
      have hx0 := Option.some.inj h
      rw [hQ]
      exact W.iret (v := 0) hx hb hr (fun t ht hW => ⟨⟨0, (x_3.1, x_3.2, (I 6), x_4.2.1, x_4.2.2.1, x_4.2.2.2, (a 4), (a 5)), rfl, ⟨congrArg (fun z => z.1) hx0, congrArg (fun z => z.2) hx0⟩, by show va_P _ _ _ t.heap; rw [ht]; exact hP⟩, hS.F ht⟩) hS.2.2 dX6_lemma_43
  · have h := if_f c_2 h
    refine lv_bipush (v := (-4)) hx hb dX6_lemma_12 (by decide) ?_
    have hx0 := Option.some.inj h
    rw [hQ]
    exact W.iret (v := (-4)) hx hb hr (fun t ht hW => ⟨⟨(-4), ((I 0), (I 1), (I 6), (I 8), (I 9), (I 10), (a 4), (a 5)), rfl, ⟨congrArg (fun z => z.1) hx0, congrArg (fun z => z.2) hx0⟩, by show va_P _ _ _ t.heap; rw [ht]; exact hP⟩, hS.F ht⟩) hS.2.2 dX6_lemma_14
theorem in_X6_lemmas_X6 : ∀ w ∈ wsX60, w ∈ wsX6_lemmas := by decide +kernel
set_option maxHeartbeats 4000000 in
set_option maxRecDepth 100000 in
theorem c_X6_lemmas (l : Launch) (D : va_G) (cI cJ : ClassId) (q : Nat → Nat) (hq : CUQ q) (F : Nat) (I : Nat → Int32) (J : Nat → Int64) (a : Nat → Nat → Int32) (b : Nat → Nat → Int64) (x0 : Int32) (h : f_X6_lemmas F I J a b = some x0) : Met l yX6_lemmas wsX6_lemmas ({ frames := 1, cells := 0, slots := 0, locals := 20 }) (CUPc D cI cJ q I J a b [.ref (q 0)]) (va_Qi (fun (r : Int32) (u : Unit) => r = x0) (fun (u : Unit) t => va_P D vwCl (CUW cI cJ q I J a b) t.heap) (CUA q)) 0 0 (CUA q) := by
  refine mt_of (cc := cX6_lemmas) (maxL := 1) (ret := (some .int)) (by decide) rfl ?_
  intro p e s m args below meth c s₁ B0 hml hv R Q hR hQ
  obtain ⟨hargs, hP, hK, hN⟩ := hv
  have hx := B0.exec
  have hb := B0.bytes
  have hr := B0.returns
  have hts := atoms_spec (ws := wsX6_lemmas) B0.pre
  have hown : s.vm.findClass RX6 = some m.cls := findClass_of_methodNamed B0.named
  have hlocks := B0.notSynchronized
  have hS : va_S (CUA q) s.heap s.heap [] := va_S.rf
  have hl := lv_entry ([.ref (q 0)]) (n := 1) (Nat.le_of_ble_eq_true rfl)
  rw [hargs, lg_entry_eq]
  rw [← hargs]
  generalize (lg_sl ([.ref (q 0)]) ++ List.replicate (1 - (lg_sl ([.ref (q 0)])).length) Slot.unset).toArray = ls at hl ⊢
  have hl : lv_has ls 1 [(0, .ref (q 0))] := hl
  unfold f_X6_lemmas at h
  refine lv_aload_n hx hb dX6_lemmas_0 rfl (lv_at hl 0 rfl) ?_
  refine va_get (D := D) (ci := 6) (v := .ref (q 2)) (C := RX6) (T := TX6) (N := 9) hx hb hts in_X6_lemmas_X6 hown hK hP 0 rfl rfl 1 (by decide) (hts (.fieldLink RX6 19 "LearnedReasons" "heldLemmas" "LLearnedReasons$Lemmas;") (by decide +kernel)) (fun _ h9 => h9) rfl dX6_lemmas_1 ?_
  obtain ⟨x_1, hx_1, h⟩ := ob_some h
  refine va_calli (va_runV (As := []) (rest := []) ⟨hx, hb, hml, hown, hts⟩ (c_X2_howMany l D cI cJ q hq F I J a b x_1 hx_1) (cwV 0 hts gX6_lemmas_X2_howMany rfl rfl rfl (by decide +kernel) (by rw [hR]; exact ⟨Nat.le_of_ble_eq_true rfl, Nat.le_of_ble_eq_true rfl⟩)) ⟨CUPc_blind, va_recv hK hP (ci := 2) (q0 := 2) rfl rfl, fun U hU hW => ⟨rfl, by rw [hU]; exact hP, va_K.moved hW.alike hK, va_Nw.warmM hW hN⟩⟩ rfl rfl hl.1 rfl (lv_room (Nat.le_of_ble_eq_true rfl)) dX6_lemmas_4 ⟨Nat.zero_le _, Nat.zero_le _⟩) hS (fun _ _ h => h) (fun _ h => h) (fun r u t H1 locs ht hvm hw hB hz1 hk1 hS => ?_)
  obtain rfl := hw.symm
  rw [ht] at hB
  have hP : va_P D vwCl (CUW cI cJ q I J a b) H1 := hB
  clear hB hz1 hk1 ht hvm
  generalize H1 = H at hP hS ⊢
  have hx0 := Option.some.inj h
  rw [hQ]
  exact W.iret (v := x_1) hx hb hr (fun t ht hW => ⟨⟨x_1, (), rfl, hx0, by show va_P _ _ _ t.heap; rw [ht]; exact hP⟩, hS.F ht⟩) hS.2.2 dX6_lemmas_7
set_option maxHeartbeats 4000000 in
set_option maxRecDepth 100000 in
theorem c_J7_fill_53178_c14 (l : Launch) (D : va_G) (cI cJ : ClassId) (q : Nat → Nat) (hq : CUQ q) (F : Nat) (I : Nat → Int32) (J : Nat → Int64) (a : Nat → Nat → Int32) (b : Nat → Nat → Int64) (v1 : Int32) (x0 : (Nat → Int32)) (h : f_J7_fill_53178_c14 F I J a b v1 = some x0) : Met l yJ7_fill_53178 wsJ7_fill_53178 ({ frames := 0, cells := 0, slots := 0, locals := 0 }) (CUPc D cI cJ q I J a b [.ref (q 14), .int v1]) (va_Qv (fun (u : (Nat → Int32)) => u = x0) (fun (u : (Nat → Int32)) t => va_P D vwCl (CUW cI cJ q I J (fu a 7 u) b) t.heap) (CUA q)) 0 0 (CUA q) := by
  refine mt_of (cc := cJ7_fill_53178) (maxL := 4) (ret := none) (by decide) rfl ?_
  intro p e s m args below meth c s₁ B0 hml hv R Q hR hQ
  obtain ⟨hargs, hP, hK, hN⟩ := hv
  have hx := B0.exec
  have hb := B0.bytes
  have hr := B0.returns
  have hts := atoms_spec (ws := wsJ7_fill_53178) B0.pre
  have hown : s.vm.findClass RJ7 = some m.cls := findClass_of_methodNamed B0.named
  have hlocks := B0.notSynchronized
  have hS : va_S (CUA q) s.heap s.heap [] := va_S.rf
  have hl := lv_entry ([.ref (q 14), .int v1]) (n := 4) (Nat.le_of_ble_eq_true rfl)
  rw [hargs, lg_entry_eq]
  rw [← hargs]
  generalize (lg_sl ([.ref (q 14), .int v1]) ++ List.replicate (4 - (lg_sl ([.ref (q 14), .int v1])).length) Slot.unset).toArray = ls at hl ⊢
  have hl : lv_has ls 4 [(0, .ref (q 14)), (1, .int v1)] := hl
  unfold f_J7_fill_53178_c14 at h
  have C5 : ∀ (n5 : Nat) (v1 : Int32) (v2 : Int32) (v3 : Int32) (a7 : Nat → Int32), k_J7_fill_53178_c14_5 F I J a b n5 v1 v2 v3 a7 = some x0 → ∀ (H : Heap) (locs : List Loc), va_P D vwCl (CUW cI cJ q I J (fu a 7 a7) b) H → va_S (CUA q) s.heap H locs → ∀ ls : Array Slot, lv_has ls 4 [(0, .ref (q 14)), (1, .int v1), (2, .int v2), (3, .int v3)] → W p l e R s m args below meth c H locs 0 0 Q (F0 m 5 ls []) := by
    intro n5
    induction n5 with
    | zero => intro v1 v2 v3 a7 h; rw [k_J7_fill_53178_c14_5] at h; cases h
    | succ n5 ih5 =>
      intro v1 v2 v3 a7 h H locs hP hS ls hl
      rw [k_J7_fill_53178_c14_5] at h
      refine lv_iload_n hx hb dJ7_fill_53178_5 rfl (lv_at hl 2 rfl) ?_
      refine lv_iload_n hx hb dJ7_fill_53178_6 rfl (lv_at hl 3 rfl) ?_
      refine lv_icmp_ge (tgt := 20) hx hb dJ7_fill_53178_7 (by decide) (fun c_1 => ?_) (fun c_1 => ?_)
      · have h := if_t c_1 h
        have hx0 := Option.some.inj h
        rw [hQ]
        exact W.vret hx hb hr (fun t ht hW => ⟨⟨a7, rfl, hx0, by show va_P _ _ _ t.heap; rw [ht]; exact hP⟩, hS.F ht⟩) hS.2.2 dJ7_fill_53178_20
      · have h := if_f c_1 h
        refine lv_aload_n hx hb dJ7_fill_53178_10 rfl (lv_at hl 0 rfl) ?_
        refine lv_iload_n hx hb dJ7_fill_53178_11 rfl (lv_at hl 2 rfl) ?_
        refine lv_iload_n hx hb dJ7_fill_53178_12 rfl (lv_at hl 1 rfl) ?_
        obtain ⟨g_2, h⟩ := gd_some h
        refine va_iast hx hb hK hP (CUW_D hq) hS 14 0 rfl rfl g_2 dJ7_fill_53178_13 (fun H locs hP _ hS => ?_)
        have hP : va_P D vwCl (CUW cI cJ q I J (fu a 7 (upd a7 v2.toNatClampNeg v1)) b) H := hP
        refine lv_iinc (v := v2 + 1) (lv' := [(2, .int (v2 + 1)), (0, .ref (q 14)), (1, .int v1), (3, .int v3)]) hx hb dJ7_fill_53178_14 hl (k := 2) rfl rfl (by decide) rfl (fun ls hl => ?_)
        refine lv_goto (tgt := 5) hx hb dJ7_fill_53178_17 (by decide) ?_
        exact ih5 v1 (v2 + 1) v3 (upd a7 v2.toNatClampNeg v1) h _ _ hP hS ls (lv_sub hl [1, 2, 0, 3] rfl)
  refine lv_iconst (v := 0) hx hb dJ7_fill_53178_0 (by decide) ?_
  refine lv_istore_n (lv' := [(2, .int 0), (0, .ref (q 14)), (1, .int v1)]) hx hb dJ7_fill_53178_1 rfl hl (by decide) rfl (fun ls hl => ?_)
  refine lv_aload_n hx hb dJ7_fill_53178_2 rfl (lv_at hl 1 rfl) ?_
  refine va_alen (v := 512) hx hb hK hP 14 0 rfl rfl rfl dJ7_fill_53178_3 ?_
  refine lv_istore_n (lv' := [(3, .int 512), (2, .int 0), (0, .ref (q 14)), (1, .int v1)]) hx hb dJ7_fill_53178_4 rfl hl (by decide) rfl (fun ls hl => ?_)
  exact C5 F v1 0 512 (a 7) h _ _ hP hS ls (lv_sub hl [2, 3, 1, 0] rfl)
theorem in_X1_removeAll_X1 : ∀ w ∈ wsX10, w ∈ wsX1_removeAll := by decide +kernel
set_option maxHeartbeats 4000000 in
set_option maxRecDepth 100000 in
theorem c_X1_removeAll (l : Launch) (D : va_G) (cI cJ : ClassId) (q : Nat → Nat) (hq : CUQ q) (F : Nat) (I : Nat → Int32) (J : Nat → Int64) (a : Nat → Nat → Int32) (b : Nat → Nat → Int64) (x0 : Int32 × (Nat → Int32)) (h : f_X1_removeAll F I J a b = some x0) : Met l yX1_removeAll wsX1_removeAll ({ frames := 1, cells := 0, slots := 0, locals := 23 }) (CUPc D cI cJ q I J a b [.ref (q 3)]) (va_Qv (fun (u : Int32 × (Nat → Int32)) => u = x0) (fun (u : Int32 × (Nat → Int32)) t => va_P D vwCl (CUW cI cJ q (fu I 7 u.1) J (fu a 7 u.2) b) t.heap) (CUA q)) 0 0 (CUA q) := by
  refine mt_of (cc := cX1_removeAll) (maxL := 1) (ret := none) (by decide) rfl ?_
  intro p e s m args below meth c s₁ B0 hml hv R Q hR hQ
  obtain ⟨hargs, hP, hK, hN⟩ := hv
  have hx := B0.exec
  have hb := B0.bytes
  have hr := B0.returns
  have hts := atoms_spec (ws := wsX1_removeAll) B0.pre
  have hown : s.vm.findClass RX1 = some m.cls := findClass_of_methodNamed B0.named
  have hlocks := B0.notSynchronized
  have hS : va_S (CUA q) s.heap s.heap [] := va_S.rf
  have hl := lv_entry ([.ref (q 3)]) (n := 1) (Nat.le_of_ble_eq_true rfl)
  rw [hargs, lg_entry_eq]
  rw [← hargs]
  generalize (lg_sl ([.ref (q 3)]) ++ List.replicate (1 - (lg_sl ([.ref (q 3)])).length) Slot.unset).toArray = ls at hl ⊢
  have hl : lv_has ls 1 [(0, .ref (q 3))] := hl
  unfold f_X1_removeAll at h
  refine lv_aload_n hx hb dX1_removeAll_0 rfl (lv_at hl 0 rfl) ?_
  refine lv_iconst (v := 0) hx hb dX1_removeAll_1 (by decide) ?_
  refine va_put (D := D) (ci := 1) (v := .int 0) (ty := .int) (C := RX1) (T := TX1) (N := 3) hx hb hts in_X1_removeAll_X1 tyX1 tyX1_ok nmX1 hown hK hP (CUW_D hq) hS 3 rfl rfl 0 (by decide) (hts (.fieldLink RX1 18 "LearnedReasons$Learned" "size" "I") (by decide +kernel)) (fun _ h9 => h9) rfl (by decide +kernel) rfl rfl (Nat.le_of_ble_eq_true rfl) dX1_removeAll_2 (fun H locs hP _ hS => ?_)
  have hP : va_P D vwCl (CUW cI cJ q (fu I 7 0) J a b) H := hP
  refine lv_aload_n hx hb dX1_removeAll_5 rfl (lv_at hl 0 rfl) ?_
  refine va_get (D := D) (ci := 1) (v := .ref (q 14)) (C := RX1) (T := TX1) (N := 3) hx hb hts in_X1_removeAll_X1 hown hK hP 3 rfl rfl 2 (by decide) (hts (.fieldLink RX1 15 "LearnedReasons$Learned" "barred" "[I") (by decide +kernel)) (fun _ h9 => h9) rfl dX1_removeAll_6 ?_
  refine lv_iconst (v := 0) hx hb dX1_removeAll_9 (by decide) ?_
  obtain ⟨x_1, hx_1, h⟩ := ob_some h
  refine va_callv (va_runS (As := [.ref (q 14), .int 0]) (rest := []) ⟨hx, hb, hml, hown, hts⟩ (c_J7_fill_53178_c14 l D cI cJ q hq F (fu I 7 0) J a b 0 x_1 hx_1) (va_cwS 2 hts gX1_removeAll_J7_fill_53178 rfl rfl rfl (by decide +kernel) (by rw [hR]; exact ⟨Nat.le_of_ble_eq_true rfl, Nat.le_of_ble_eq_true rfl⟩)) ⟨CUPc_blind, fun U hU hW => ⟨rfl, by rw [hU]; exact hP, va_K.moved hW.alike hK, va_Nw.warmM hW hN⟩⟩ rfl rfl hl.1 rfl (lv_room (Nat.le_of_ble_eq_true rfl)) dX1_removeAll_10 ⟨Nat.zero_le _, Nat.zero_le _⟩) hS (fun _ _ h => h) (fun _ h => h) (fun u t H1 locs ht hvm hw hB hz1 hk1 hS => ?_)
  obtain rfl := hw.symm
  rw [ht] at hB
  have hP : va_P D vwCl (CUW cI cJ q (fu I 7 0) J (fu a 7 x_1) b) H1 := hB
  clear hB hz1 hk1 ht hvm
  generalize H1 = H at hP hS ⊢
  have hx0 := Option.some.inj h
  rw [hQ]
  exact W.vret hx hb hr (fun t ht hW => ⟨⟨(0, x_1), rfl, hx0, by show va_P _ _ _ t.heap; rw [ht]; exact hP⟩, hS.F ht⟩) hS.2.2 dX1_removeAll_13
theorem in_X4_start_X4 : ∀ w ∈ wsX40, w ∈ wsX4_start := by decide +kernel
set_option maxHeartbeats 4000000 in
set_option maxRecDepth 100000 in
theorem c_X4_start (l : Launch) (D : va_G) (cI cJ : ClassId) (q : Nat → Nat) (hq : CUQ q) (F : Nat) (I : Nat → Int32) (J : Nat → Int64) (a : Nat → Nat → Int32) (b : Nat → Nat → Int64) (x0 : Int32 × Int32 × Int32 × Int32 × Int32 × Int32 × (Nat → Int32)) (h : f_X4_start F I J a b = some x0) : Met l yX4_start wsX4_start ({ frames := 2, cells := 0, slots := 0, locals := 43 }) (CUPc D cI cJ q I J a b [.ref (q 5)]) (va_Qv (fun (u : Int32 × Int32 × Int32 × Int32 × Int32 × Int32 × (Nat → Int32)) => u = x0) (fun (u : Int32 × Int32 × Int32 × Int32 × Int32 × Int32 × (Nat → Int32)) t => va_P D vwCl (CUW cI cJ q (fu (fu (fu (fu (fu (fu I 7 u.1) 12 u.2.1) 13 u.2.2.1) 14 u.2.2.2.1) 15 u.2.2.2.2.1) 16 u.2.2.2.2.2.1) J (fu a 7 u.2.2.2.2.2.2) b) t.heap) (CUA q)) 0 0 (CUA q) := by
  refine mt_of (cc := cX4_start) (maxL := 1) (ret := none) (by decide) rfl ?_
  intro p e s m args below meth c s₁ B0 hml hv R Q hR hQ
  obtain ⟨hargs, hP, hK, hN⟩ := hv
  have hx := B0.exec
  have hb := B0.bytes
  have hr := B0.returns
  have hts := atoms_spec (ws := wsX4_start) B0.pre
  have hown : s.vm.findClass RX4 = some m.cls := findClass_of_methodNamed B0.named
  have hlocks := B0.notSynchronized
  have hS : va_S (CUA q) s.heap s.heap [] := va_S.rf
  have hl := lv_entry ([.ref (q 5)]) (n := 1) (Nat.le_of_ble_eq_true rfl)
  rw [hargs, lg_entry_eq]
  rw [← hargs]
  generalize (lg_sl ([.ref (q 5)]) ++ List.replicate (1 - (lg_sl ([.ref (q 5)])).length) Slot.unset).toArray = ls at hl ⊢
  have hl : lv_has ls 1 [(0, .ref (q 5))] := hl
  unfold f_X4_start at h
  refine lv_aload_n hx hb dX4_start_0 rfl (lv_at hl 0 rfl) ?_
  refine va_get (D := D) (ci := 4) (v := .ref (q 3)) (C := RX4) (T := TX4) (N := 9) hx hb hts in_X4_start_X4 hown hK hP 5 rfl rfl 2 (by decide) (hts (.fieldLink RX4 19 "LearnedReasons$Search" "learnedClauses" "LLearnedReasons$Learned;") (by decide +kernel)) (fun _ h9 => h9) rfl dX4_start_1 ?_
  obtain ⟨x_1, hx_1, h⟩ := ob_some h
  refine va_callv (va_runV (As := []) (rest := []) ⟨hx, hb, hml, hown, hts⟩ (c_X1_removeAll l D cI cJ q hq F I J a b x_1 hx_1) (cwV 0 hts gX4_start_X1_removeAll rfl rfl rfl (by decide +kernel) (by rw [hR]; exact ⟨Nat.le_of_ble_eq_true rfl, Nat.le_of_ble_eq_true rfl⟩)) ⟨CUPc_blind, va_recv hK hP (ci := 1) (q0 := 3) rfl rfl, fun U hU hW => ⟨rfl, by rw [hU]; exact hP, va_K.moved hW.alike hK, va_Nw.warmM hW hN⟩⟩ rfl rfl hl.1 rfl (lv_room (Nat.le_of_ble_eq_true rfl)) dX4_start_4 ⟨Nat.zero_le _, Nat.zero_le _⟩) hS (fun _ _ h => h) (fun _ h => h) (fun u t H1 locs ht hvm hw hB hz1 hk1 hS => ?_)
  obtain rfl := hw.symm
  rw [ht] at hB
  have hP : va_P D vwCl (CUW cI cJ q (fu I 7 x_1.1) J (fu a 7 x_1.2) b) H1 := hB
  clear hB hz1 hk1 ht hvm
  generalize H1 = H at hP hS ⊢
  refine lv_aload_n hx hb dX4_start_7 rfl (lv_at hl 0 rfl) ?_
  refine lv_iconst (v := 0) hx hb dX4_start_8 (by decide) ?_
  refine va_put (D := D) (ci := 4) (v := .int 0) (ty := .boolean) (C := RX4) (T := TX4) (N := 9) hx hb hts in_X4_start_X4 tyX4 tyX4_ok nmX4 hown hK hP (CUW_D hq) hS 5 rfl rfl 4 (by decide) (hts (.fieldLink RX4 55 "LearnedReasons$Search" "found" "Z") (by decide +kernel)) (fun _ h9 => h9) rfl (by decide +kernel) rfl rfl (Nat.le_of_ble_eq_true rfl) dX4_start_9 (fun H locs hP _ hS => ?_)
  have hP : va_P D vwCl (CUW cI cJ q (fu (fu I 7 x_1.1) 12 0) J (fu a 7 x_1.2) b) H := hP
  refine lv_aload_n hx hb dX4_start_12 rfl (lv_at hl 0 rfl) ?_
  refine lv_iconst (v := 0) hx hb dX4_start_13 (by decide) ?_
  refine va_put (D := D) (ci := 4) (v := .int 0) (ty := .int) (C := RX4) (T := TX4) (N := 9) hx hb hts in_X4_start_X4 tyX4 tyX4_ok nmX4 hown hK hP (CUW_D hq) hS 5 rfl rfl 5 (by decide) (hts (.fieldLink RX4 58 "LearnedReasons$Search" "model" "I") (by decide +kernel)) (fun _ h9 => h9) rfl (by decide +kernel) rfl rfl (Nat.le_of_ble_eq_true rfl) dX4_start_14 (fun H locs hP _ hS => ?_)
  have hP : va_P D vwCl (CUW cI cJ q (fu (fu (fu I 7 x_1.1) 12 0) 13 0) J (fu a 7 x_1.2) b) H := hP
  refine lv_aload_n hx hb dX4_start_17 rfl (lv_at hl 0 rfl) ?_
  refine lv_iconst (v := 0) hx hb dX4_start_18 (by decide) ?_
  refine va_put (D := D) (ci := 4) (v := .int 0) (ty := .int) (C := RX4) (T := TX4) (N := 9) hx hb hts in_X4_start_X4 tyX4 tyX4_ok nmX4 hown hK hP (CUW_D hq) hS 5 rfl rfl 6 (by decide) (hts (.fieldLink RX4 44 "LearnedReasons$Search" "conflicts" "I") (by decide +kernel)) (fun _ h9 => h9) rfl (by decide +kernel) rfl rfl (Nat.le_of_ble_eq_true rfl) dX4_start_19 (fun H locs hP _ hS => ?_)
  have hP : va_P D vwCl (CUW cI cJ q (fu (fu (fu (fu I 7 x_1.1) 12 0) 13 0) 14 0) J (fu a 7 x_1.2) b) H := hP
  refine lv_aload_n hx hb dX4_start_22 rfl (lv_at hl 0 rfl) ?_
  refine lv_iconst (v := 0) hx hb dX4_start_23 (by decide) ?_
  refine va_put (D := D) (ci := 4) (v := .int 0) (ty := .int) (C := RX4) (T := TX4) (N := 9) hx hb hts in_X4_start_X4 tyX4 tyX4_ok nmX4 hown hK hP (CUW_D hq) hS 5 rfl rfl 7 (by decide) (hts (.fieldLink RX4 61 "LearnedReasons$Search" "choicesMade" "I") (by decide +kernel)) (fun _ h9 => h9) rfl (by decide +kernel) rfl rfl (Nat.le_of_ble_eq_true rfl) dX4_start_24 (fun H locs hP _ hS => ?_)
  have hP : va_P D vwCl (CUW cI cJ q (fu (fu (fu (fu (fu I 7 x_1.1) 12 0) 13 0) 14 0) 15 0) J (fu a 7 x_1.2) b) H := hP
  refine lv_aload_n hx hb dX4_start_27 rfl (lv_at hl 0 rfl) ?_
  refine lv_iconst (v := 0) hx hb dX4_start_28 (by decide) ?_
  refine va_put (D := D) (ci := 4) (v := .int 0) (ty := .int) (C := RX4) (T := TX4) (N := 9) hx hb hts in_X4_start_X4 tyX4 tyX4_ok nmX4 hown hK hP (CUW_D hq) hS 5 rfl rfl 8 (by decide) (hts (.fieldLink RX4 31 "LearnedReasons$Search" "choices" "I") (by decide +kernel)) (fun _ h9 => h9) rfl (by decide +kernel) rfl rfl (Nat.le_of_ble_eq_true rfl) dX4_start_29 (fun H locs hP _ hS => ?_)
  have hP : va_P D vwCl (CUW cI cJ q (fu (fu (fu (fu (fu (fu I 7 x_1.1) 12 0) 13 0) 14 0) 15 0) 16 0) J (fu a 7 x_1.2) b) H := hP
  have hx0 := Option.some.inj h
  rw [hQ]
  exact W.vret hx hb hr (fun t ht hW => ⟨⟨(x_1.1, 0, 0, 0, 0, 0, x_1.2), rfl, hx0, by show va_P _ _ _ t.heap; rw [ht]; exact hP⟩, hS.F ht⟩) hS.2.2 dX4_start_32
theorem in_X5_allNames_X5 : ∀ w ∈ wsX50, w ∈ wsX5_allNames := by decide +kernel
set_option maxHeartbeats 4000000 in
set_option maxRecDepth 100000 in
theorem c_X5_allNames (l : Launch) (D : va_G) (cI cJ : ClassId) (q : Nat → Nat) (hq : CUQ q) (F : Nat) (I : Nat → Int32) (J : Nat → Int64) (a : Nat → Nat → Int32) (b : Nat → Nat → Int64) (x0 : Int32) (h : f_X5_allNames F I J a b = some x0) : Met l yX5_allNames wsX5_allNames ({ frames := 0, cells := 0, slots := 0, locals := 0 }) (CUPc D cI cJ q I J a b [.ref (q 1)]) (va_Qi (fun (r : Int32) (u : Unit) => r = x0) (fun (u : Unit) t => va_P D vwCl (CUW cI cJ q I J a b) t.heap) (CUA q)) 0 0 (CUA q) := by
  refine mt_of (cc := cX5_allNames) (maxL := 1) (ret := (some .int)) (by decide) rfl ?_
  intro p e s m args below meth c s₁ B0 hml hv R Q hR hQ
  obtain ⟨hargs, hP, hK, hN⟩ := hv
  have hx := B0.exec
  have hb := B0.bytes
  have hr := B0.returns
  have hts := atoms_spec (ws := wsX5_allNames) B0.pre
  have hown : s.vm.findClass RX5 = some m.cls := findClass_of_methodNamed B0.named
  have hlocks := B0.notSynchronized
  have hS : va_S (CUA q) s.heap s.heap [] := va_S.rf
  have hl := lv_entry ([.ref (q 1)]) (n := 1) (Nat.le_of_ble_eq_true rfl)
  rw [hargs, lg_entry_eq]
  rw [← hargs]
  generalize (lg_sl ([.ref (q 1)]) ++ List.replicate (1 - (lg_sl ([.ref (q 1)])).length) Slot.unset).toArray = ls at hl ⊢
  have hl : lv_has ls 1 [(0, .ref (q 1))] := hl
  unfold f_X5_allNames at h
  refine lv_iconst (v := 1) hx hb dX5_allNames_0 (by decide) ?_
  refine lv_aload_n hx hb dX5_allNames_1 rfl (lv_at hl 0 rfl) ?_
  refine va_get (D := D) (ci := 5) (v := .int (I 4)) (C := RX5) (T := TX5) (N := 9) hx hb hts in_X5_allNames_X5 hown hK hP 1 rfl rfl 0 (by decide) (hts (.fieldLink RX5 24 "LearnedReasons$Things" "names" "I") (by decide +kernel)) (fun _ h9 => h9) rfl dX5_allNames_2 ?_
  refine lv_ishl hx hb dX5_allNames_5 ?_
  refine lv_iconst (v := 1) hx hb dX5_allNames_6 (by decide) ?_
  refine lv_isub hx hb dX5_allNames_7 ?_
  have hx0 := Option.some.inj h
  rw [hQ]
  exact W.iret (v := ((1 : Int32) <<< ((I 4) &&& 31)) - 1) hx hb hr (fun t ht hW => ⟨⟨(((1 : Int32) <<< ((I 4) &&& 31)) - 1), (), rfl, hx0, by show va_P _ _ _ t.heap; rw [ht]; exact hP⟩, hS.F ht⟩) hS.2.2 dX5_allNames_8
theorem in_X4_choose_X4 : ∀ w ∈ wsX40, w ∈ wsX4_choose := by decide +kernel
set_option maxHeartbeats 4000000 in
set_option maxRecDepth 100000 in
theorem c_X4_choose (l : Launch) (D : va_G) (cI cJ : ClassId) (q : Nat → Nat) (hq : CUQ q) (F : Nat) (I : Nat → Int32) (J : Nat → Int64) (a : Nat → Nat → Int32) (b : Nat → Nat → Int64) (x0 : Int32 × Int32 × Int32 × Int32 × Int32) (h : f_X4_choose F I J a b = some x0) : Met l yX4_choose wsX4_choose ({ frames := 1, cells := 0, slots := 0, locals := 20 }) (CUPc D cI cJ q I J a b [.ref (q 5)]) (va_Qv (fun (u : Int32 × Int32 × Int32 × Int32 × Int32) => u = x0) (fun (u : Int32 × Int32 × Int32 × Int32 × Int32) t => va_P D vwCl (CUW cI cJ q (fu (fu (fu (fu (fu I 11 u.1) 12 u.2.1) 13 u.2.2.1) 15 u.2.2.2.1) 16 u.2.2.2.2) J a b) t.heap) (CUA q)) 0 0 (CUA q) := by
  refine mt_of (cc := cX4_choose) (maxL := 2) (ret := none) (by decide) rfl ?_
  intro p e s m args below meth c s₁ B0 hml hv R Q hR hQ
  obtain ⟨hargs, hP, hK, hN⟩ := hv
  have hx := B0.exec
  have hb := B0.bytes
  have hr := B0.returns
  have hts := atoms_spec (ws := wsX4_choose) B0.pre
  have hown : s.vm.findClass RX4 = some m.cls := findClass_of_methodNamed B0.named
  have hlocks := B0.notSynchronized
  have hS : va_S (CUA q) s.heap s.heap [] := va_S.rf
  have hl := lv_entry ([.ref (q 5)]) (n := 2) (Nat.le_of_ble_eq_true rfl)
  rw [hargs, lg_entry_eq]
  rw [← hargs]
  generalize (lg_sl ([.ref (q 5)]) ++ List.replicate (2 - (lg_sl ([.ref (q 5)])).length) Slot.unset).toArray = ls at hl ⊢
  have hl : lv_has ls 2 [(0, .ref (q 5))] := hl
  unfold f_X4_choose at h
  refine lv_aload_n hx hb dX4_choose_0 rfl (lv_at hl 0 rfl) ?_
  refine va_get (D := D) (ci := 4) (v := .ref (q 1)) (C := RX4) (T := TX4) (N := 9) hx hb hts in_X4_choose_X4 hown hK hP 5 rfl rfl 0 (by decide) (hts (.fieldLink RX4 9 "LearnedReasons$Search" "things" "LLearnedReasons$Things;") (by decide +kernel)) (fun _ h9 => h9) rfl dX4_choose_1 ?_
  obtain ⟨x_1, hx_1, h⟩ := ob_some h
  refine va_calli (va_runV (As := []) (rest := []) ⟨hx, hb, hml, hown, hts⟩ (c_X5_allNames l D cI cJ q hq F I J a b x_1 hx_1) (cwV 0 hts gX4_choose_X5_allNames rfl rfl rfl (by decide +kernel) (by rw [hR]; exact ⟨Nat.le_of_ble_eq_true rfl, Nat.le_of_ble_eq_true rfl⟩)) ⟨CUPc_blind, va_recv hK hP (ci := 5) (q0 := 1) rfl rfl, fun U hU hW => ⟨rfl, by rw [hU]; exact hP, va_K.moved hW.alike hK, va_Nw.warmM hW hN⟩⟩ rfl rfl hl.1 rfl (lv_room (Nat.le_of_ble_eq_true rfl)) dX4_choose_4 ⟨Nat.zero_le _, Nat.zero_le _⟩) hS (fun _ _ h => h) (fun _ h => h) (fun r u t H1 locs ht hvm hw hB hz1 hk1 hS => ?_)
  obtain rfl := hw.symm
  rw [ht] at hB
  have hP : va_P D vwCl (CUW cI cJ q I J a b) H1 := hB
  clear hB hz1 hk1 ht hvm
  generalize H1 = H at hP hS ⊢
  refine lv_aload_n hx hb dX4_choose_7 rfl (lv_at hl 0 rfl) ?_
  refine va_get (D := D) (ci := 4) (v := .ref (q 4)) (C := RX4) (T := TX4) (N := 9) hx hb hts in_X4_choose_X4 hown hK hP 5 rfl rfl 1 (by decide) (hts (.fieldLink RX4 15 "LearnedReasons$Search" "atOnce" "LLearnedReasons$AtOnce;") (by decide +kernel)) (fun _ h9 => h9) rfl dX4_choose_8 ?_
  obtain ⟨x_2, hx_2, h⟩ := ob_some h
  refine va_calli (va_runV (As := []) (rest := [.int x_1]) ⟨hx, hb, hml, hown, hts⟩ (c_X0_trueNames l D cI cJ q hq F I J a b x_2 hx_2) (cwV 0 hts gX4_choose_X0_trueNames rfl rfl rfl (by decide +kernel) (by rw [hR]; exact ⟨Nat.le_of_ble_eq_true rfl, Nat.le_of_ble_eq_true rfl⟩)) ⟨CUPc_blind, va_recv hK hP (ci := 0) (q0 := 4) rfl rfl, fun U hU hW => ⟨rfl, by rw [hU]; exact hP, va_K.moved hW.alike hK, va_Nw.warmM hW hN⟩⟩ rfl rfl hl.1 rfl (lv_room (Nat.le_of_ble_eq_true rfl)) dX4_choose_11 ⟨Nat.zero_le _, Nat.zero_le _⟩) hS (fun _ _ h => h) (fun _ h => h) (fun r u t H1 locs ht hvm hw hB hz1 hk1 hS => ?_)
  obtain rfl := hw.symm
  rw [ht] at hB
  have hP : va_P D vwCl (CUW cI cJ q I J a b) H1 := hB
  clear hB hz1 hk1 ht hvm
  generalize H1 = H at hP hS ⊢
  refine lv_aload_n hx hb dX4_choose_14 rfl (lv_at hl 0 rfl) ?_
  refine va_get (D := D) (ci := 4) (v := .ref (q 4)) (C := RX4) (T := TX4) (N := 9) hx hb hts in_X4_choose_X4 hown hK hP 5 rfl rfl 1 (by decide) (hts (.fieldLink RX4 15 "LearnedReasons$Search" "atOnce" "LLearnedReasons$AtOnce;") (by decide +kernel)) (fun _ h9 => h9) rfl dX4_choose_15 ?_
  obtain ⟨x_3, hx_3, h⟩ := ob_some h
  refine va_calli (va_runV (As := []) (rest := [.int x_2, .int x_1]) ⟨hx, hb, hml, hown, hts⟩ (c_X0_falseNames l D cI cJ q hq F I J a b x_3 hx_3) (cwV 0 hts gX4_choose_X0_falseNames rfl rfl rfl (by decide +kernel) (by rw [hR]; exact ⟨Nat.le_of_ble_eq_true rfl, Nat.le_of_ble_eq_true rfl⟩)) ⟨CUPc_blind, va_recv hK hP (ci := 0) (q0 := 4) rfl rfl, fun U hU hW => ⟨rfl, by rw [hU]; exact hP, va_K.moved hW.alike hK, va_Nw.warmM hW hN⟩⟩ rfl rfl hl.1 rfl (lv_room (Nat.le_of_ble_eq_true rfl)) dX4_choose_18 ⟨Nat.zero_le _, Nat.zero_le _⟩) hS (fun _ _ h => h) (fun _ h => h) (fun r u t H1 locs ht hvm hw hB hz1 hk1 hS => ?_)
  obtain rfl := hw.symm
  rw [ht] at hB
  have hP : va_P D vwCl (CUW cI cJ q I J a b) H1 := hB
  clear hB hz1 hk1 ht hvm
  generalize H1 = H at hP hS ⊢
  refine lv_ior hx hb dX4_choose_21 ?_
  refine lv_iconst (v := (-1)) hx hb dX4_choose_22 (by decide) ?_
  refine lv_ixor hx hb dX4_choose_23 ?_
  refine lv_iand hx hb dX4_choose_24 ?_
  refine lv_topi (fun v_4 ev_4 => ?_)
  have h := nmI_at ev_4 h
  refine lv_istore_n (lv' := [(1, .int v_4), (0, .ref (q 5))]) hx hb dX4_choose_25 rfl hl (by decide) rfl (fun ls hl => ?_)
  refine lv_iload_n hx hb dX4_choose_26 rfl (lv_at hl 0 rfl) ?_
  refine lv_if_ne (tgt := 54) hx hb dX4_choose_27 (by decide) (fun c_5 => ?_) (fun c_5 => ?_)
  · have h := if_f c_5 h
    refine lv_aload_n hx hb dX4_choose_54 rfl (lv_at hl 1 rfl) ?_
    refine lv_dup hx hb dX4_choose_55 rfl ?_
    refine va_get (D := D) (ci := 4) (v := .int (I 16)) (C := RX4) (T := TX4) (N := 9) hx hb hts in_X4_choose_X4 hown hK hP 5 rfl rfl 8 (by decide) (hts (.fieldLink RX4 31 "LearnedReasons$Search" "choices" "I") (by decide +kernel)) (fun _ h9 => h9) rfl dX4_choose_56 ?_
    refine lv_iload_n hx hb dX4_choose_59 rfl (lv_at hl 0 rfl) ?_
    refine lv_iload_n hx hb dX4_choose_60 rfl (lv_at hl 0 rfl) ?_
    refine lv_ineg hx hb dX4_choose_61 ?_
    refine lv_iand hx hb dX4_choose_62 ?_
    refine lv_ior hx hb dX4_choose_63 ?_
    refine lv_topi (fun v_6 ev_6 => ?_)
    have h := nmI_at ev_6 h
    refine va_put (D := D) (ci := 4) (v := .int v_6) (ty := .int) (C := RX4) (T := TX4) (N := 9) hx hb hts in_X4_choose_X4 tyX4 tyX4_ok nmX4 hown hK hP (CUW_D hq) hS 5 rfl rfl 8 (by decide) (hts (.fieldLink RX4 31 "LearnedReasons$Search" "choices" "I") (by decide +kernel)) (fun _ h9 => h9) rfl (by decide +kernel) rfl rfl (Nat.le_of_ble_eq_true rfl) dX4_choose_64 (fun H locs hP _ hS => ?_)
    have hP : va_P D vwCl (CUW cI cJ q (fu I 16 v_6) J a b) H := hP
    refine lv_aload_n hx hb dX4_choose_67 rfl (lv_at hl 1 rfl) ?_
    refine lv_dup hx hb dX4_choose_68 rfl ?_
    refine va_get (D := D) (ci := 4) (v := .int (I 15)) (C := RX4) (T := TX4) (N := 9) hx hb hts in_X4_choose_X4 hown hK hP 5 rfl rfl 7 (by decide) (hts (.fieldLink RX4 61 "LearnedReasons$Search" "choicesMade" "I") (by decide +kernel)) (fun _ h9 => h9) rfl dX4_choose_69 ?_
    refine lv_iconst (v := 1) hx hb dX4_choose_72 (by decide) ?_
    refine lv_iadd hx hb dX4_choose_73 ?_
    refine lv_topi (fun v_7 ev_7 => ?_)
    have h := nmI_at ev_7 h
    refine va_put (D := D) (ci := 4) (v := .int v_7) (ty := .int) (C := RX4) (T := TX4) (N := 9) hx hb hts in_X4_choose_X4 tyX4 tyX4_ok nmX4 hown hK hP (CUW_D hq) hS 5 rfl rfl 7 (by decide) (hts (.fieldLink RX4 61 "LearnedReasons$Search" "choicesMade" "I") (by decide +kernel)) (fun _ h9 => h9) rfl (by decide +kernel) rfl rfl (Nat.le_of_ble_eq_true rfl) dX4_choose_74 (fun H locs hP _ hS => ?_)
    have hP : va_P D vwCl (CUW cI cJ q (fu (fu I 15 v_7) 16 v_6) J a b) H := hP
    have hx0 := Option.some.inj h
    rw [hQ]
    exact W.vret hx hb hr (fun t ht hW => ⟨⟨((I 11), (I 12), (I 13), v_7, v_6), rfl, hx0, by show va_P _ _ _ t.heap; rw [ht]; exact hP⟩, hS.F ht⟩) hS.2.2 dX4_choose_77
  · have h := if_t c_5 h
    refine lv_aload_n hx hb dX4_choose_30 rfl (lv_at hl 1 rfl) ?_
    refine lv_iconst (v := 1) hx hb dX4_choose_31 (by decide) ?_
    refine va_put (D := D) (ci := 4) (v := .int 1) (ty := .boolean) (C := RX4) (T := TX4) (N := 9) hx hb hts in_X4_choose_X4 tyX4 tyX4_ok nmX4 hown hK hP (CUW_D hq) hS 5 rfl rfl 4 (by decide) (hts (.fieldLink RX4 55 "LearnedReasons$Search" "found" "Z") (by decide +kernel)) (fun _ h9 => h9) rfl (by decide +kernel) rfl rfl (Nat.le_of_ble_eq_true rfl) dX4_choose_32 (fun H locs hP _ hS => ?_)
    have hP : va_P D vwCl (CUW cI cJ q (fu I 12 1) J a b) H := hP
    refine lv_aload_n hx hb dX4_choose_35 rfl (lv_at hl 1 rfl) ?_
    refine lv_aload_n hx hb dX4_choose_36 rfl (lv_at hl 1 rfl) ?_
    refine va_get (D := D) (ci := 4) (v := .ref (q 4)) (C := RX4) (T := TX4) (N := 9) hx hb hts in_X4_choose_X4 hown hK hP 5 rfl rfl 1 (by decide) (hts (.fieldLink RX4 15 "LearnedReasons$Search" "atOnce" "LLearnedReasons$AtOnce;") (by decide +kernel)) (fun _ h9 => h9) rfl dX4_choose_37 ?_
    obtain ⟨x_8, hx_8, h⟩ := ob_some h
    refine va_calli (va_runV (As := []) (rest := [.ref (q 5)]) ⟨hx, hb, hml, hown, hts⟩ (c_X0_trueNames l D cI cJ q hq F (fu I 12 1) J a b x_8 hx_8) (cwV 0 hts gX4_choose_X0_trueNames rfl rfl rfl (by decide +kernel) (by rw [hR]; exact ⟨Nat.le_of_ble_eq_true rfl, Nat.le_of_ble_eq_true rfl⟩)) ⟨CUPc_blind, va_recv hK hP (ci := 0) (q0 := 4) rfl rfl, fun U hU hW => ⟨rfl, by rw [hU]; exact hP, va_K.moved hW.alike hK, va_Nw.warmM hW hN⟩⟩ rfl rfl hl.1 rfl (lv_room (Nat.le_of_ble_eq_true rfl)) dX4_choose_40 ⟨Nat.zero_le _, Nat.zero_le _⟩) hS (fun _ _ h => h) (fun _ h => h) (fun r u t H1 locs ht hvm hw hB hz1 hk1 hS => ?_)
    obtain rfl := hw.symm
    rw [ht] at hB
    have hP : va_P D vwCl (CUW cI cJ q (fu I 12 1) J a b) H1 := hB
    clear hB hz1 hk1 ht hvm
    generalize H1 = H at hP hS ⊢
    refine va_put (D := D) (ci := 4) (v := .int x_8) (ty := .int) (C := RX4) (T := TX4) (N := 9) hx hb hts in_X4_choose_X4 tyX4 tyX4_ok nmX4 hown hK hP (CUW_D hq) hS 5 rfl rfl 5 (by decide) (hts (.fieldLink RX4 58 "LearnedReasons$Search" "model" "I") (by decide +kernel)) (fun _ h9 => h9) rfl (by decide +kernel) rfl rfl (Nat.le_of_ble_eq_true rfl) dX4_choose_43 (fun H locs hP _ hS => ?_)
    have hP : va_P D vwCl (CUW cI cJ q (fu (fu I 12 1) 13 x_8) J a b) H := hP
    refine lv_aload_n hx hb dX4_choose_46 rfl (lv_at hl 1 rfl) ?_
    refine lv_iconst (v := 1) hx hb dX4_choose_47 (by decide) ?_
    refine va_put (D := D) (ci := 4) (v := .int 1) (ty := .boolean) (C := RX4) (T := TX4) (N := 9) hx hb hts in_X4_choose_X4 tyX4 tyX4_ok nmX4 hown hK hP (CUW_D hq) hS 5 rfl rfl 3 (by decide) (hts (.fieldLink RX4 23 "LearnedReasons$Search" "isDone" "Z") (by decide +kernel)) (fun _ h9 => h9) rfl (by decide +kernel) rfl rfl (Nat.le_of_ble_eq_true rfl) dX4_choose_48 (fun H locs hP _ hS => ?_)
    have hP : va_P D vwCl (CUW cI cJ q (fu (fu (fu I 11 1) 12 1) 13 x_8) J a b) H := hP
    refine lv_goto (tgt := 77) hx hb dX4_choose_51 (by decide) ?_
    have hx0 := Option.some.inj h
    rw [hQ]
    exact W.vret hx hb hr (fun t ht hW => ⟨⟨(1, 1, x_8, (I 15), (I 16)), rfl, hx0, by show va_P _ _ _ t.heap; rw [ht]; exact hP⟩, hS.F ht⟩) hS.2.2 dX4_choose_77
theorem in_X4_reason_X4 : ∀ w ∈ wsX40, w ∈ wsX4_reason := by decide +kernel
set_option maxHeartbeats 4000000 in
set_option maxRecDepth 100000 in
theorem c_X4_reason (l : Launch) (D : va_G) (cI cJ : ClassId) (q : Nat → Nat) (hq : CUQ q) (F : Nat) (I : Nat → Int32) (J : Nat → Int64) (a : Nat → Nat → Int32) (b : Nat → Nat → Int64) (x0 : Int32 × Int32 × Int32 × Int32) (h : f_X4_reason F I J a b = some x0) : Met l yX4_reason wsX4_reason ({ frames := 5, cells := 0, slots := 0, locals := 120 }) (CUPc D cI cJ q I J a b [.ref (q 5)]) (va_Qi (fun (r : Int32) (u : Int32 × Int32 × Int32) => r = x0.1 ∧ u = x0.2) (fun (u : Int32 × Int32 × Int32) t => va_P D vwCl (CUW cI cJ q (fu (fu (fu I 8 u.1) 9 u.2.1) 10 u.2.2) J a b) t.heap) (CUA q)) 0 0 (CUA q) := by
  refine mt_of (cc := cX4_reason) (maxL := 4) (ret := (some .int)) (by decide) rfl ?_
  intro p e s m args below meth c s₁ B0 hml hv R Q hR hQ
  obtain ⟨hargs, hP, hK, hN⟩ := hv
  have hx := B0.exec
  have hb := B0.bytes
  have hr := B0.returns
  have hts := atoms_spec (ws := wsX4_reason) B0.pre
  have hown : s.vm.findClass RX4 = some m.cls := findClass_of_methodNamed B0.named
  have hlocks := B0.notSynchronized
  have hS : va_S (CUA q) s.heap s.heap [] := va_S.rf
  have hl := lv_entry ([.ref (q 5)]) (n := 4) (Nat.le_of_ble_eq_true rfl)
  rw [hargs, lg_entry_eq]
  rw [← hargs]
  generalize (lg_sl ([.ref (q 5)]) ++ List.replicate (4 - (lg_sl ([.ref (q 5)])).length) Slot.unset).toArray = ls at hl ⊢
  have hl : lv_has ls 4 [(0, .ref (q 5))] := hl
  unfold f_X4_reason at h
  have C8 : ∀ (n8 : Nat) (v1 : Int32) (v2 : Int32) (I8 : Int32) (I9 : Int32) (I10 : Int32), k_X4_reason_8 F I J a b n8 v1 v2 I8 I9 I10 = some x0 → ∀ (H : Heap) (locs : List Loc), va_P D vwCl (CUW cI cJ q (fu (fu (fu I 8 I8) 9 I9) 10 I10) J a b) H → va_S (CUA q) s.heap H locs → ∀ ls : Array Slot, lv_has ls 4 [(0, .ref (q 5)), (1, .int v1), (2, .int v2)] → W p l e R s m args below meth c H locs 0 0 Q (F0 m 8 ls []) := by
    intro n8
    induction n8 with
    | zero => intro v1 v2 I8 I9 I10 h; rw [k_X4_reason_8] at h; cases h
    | succ n8 ih8 =>
      intro v1 v2 I8 I9 I10 h H locs hP hS ls hl
      rw [k_X4_reason_8] at h
      refine lv_iload_n hx hb dX4_reason_8 rfl (lv_at hl 2 rfl) ?_
      refine lv_if_lt (tgt := 46) hx hb dX4_reason_9 (by decide) (fun c_1 => ?_) (fun c_1 => ?_)
      · have h := if_t c_1 h
        refine lv_iload_n hx hb dX4_reason_46 rfl (lv_at hl 1 rfl) ?_
        have hx0 := Option.some.inj h
        rw [hQ]
        exact W.iret (v := v1) hx hb hr (fun t ht hW => ⟨⟨v1, (I8, I9, I10), rfl, ⟨congrArg (fun z => z.1) hx0, congrArg (fun z => z.2) hx0⟩, by show va_P _ _ _ t.heap; rw [ht]; exact hP⟩, hS.F ht⟩) hS.2.2 dX4_reason_47
      · have h := if_f c_1 h
        refine lv_iload_n hx hb dX4_reason_12 rfl (lv_at hl 1 rfl) ?_
        refine lv_iconst (v := 1) hx hb dX4_reason_13 (by decide) ?_
        refine lv_iload_n hx hb dX4_reason_14 rfl (lv_at hl 2 rfl) ?_
        refine lv_ishl hx hb dX4_reason_15 ?_
        refine lv_iconst (v := (-1)) hx hb dX4_reason_16 (by decide) ?_
        refine lv_ixor hx hb dX4_reason_17 ?_
        refine lv_iand hx hb dX4_reason_18 ?_
        refine lv_topi (fun v_2 ev_2 => ?_)
        have h := nmI_at ev_2 h
        refine lv_istore_n (lv' := [(3, .int v_2), (0, .ref (q 5)), (1, .int v1), (2, .int v2)]) hx hb dX4_reason_19 rfl hl (by decide) rfl (fun ls hl => ?_)
        refine lv_iload_n hx hb dX4_reason_20 rfl (lv_at hl 0 rfl) ?_
        refine lv_iload_n hx hb dX4_reason_21 rfl (lv_at hl 2 rfl) ?_
        refine lv_icmp_eq (tgt := 40) hx hb dX4_reason_22 (by decide) (fun c_3 => ?_) (fun c_3 => ?_)
        · have h := if_t c_3 h
          refine lv_iinc (v := v2 + (-1)) (lv' := [(2, .int (v2 + (-1))), (3, .int v_2), (0, .ref (q 5)), (1, .int v1)]) hx hb dX4_reason_40 hl (k := 3) rfl rfl (by decide) rfl (fun ls hl => ?_)
          refine lv_goto (tgt := 8) hx hb dX4_reason_43 (by decide) ?_
          exact ih8 v1 (v2 + (-1)) I8 I9 I10 h _ _ hP hS ls (lv_sub hl [2, 3, 0] rfl)
        · have h := if_f c_3 h
          refine lv_aload_n hx hb dX4_reason_25 rfl (lv_at hl 1 rfl) ?_
          refine va_get (D := D) (ci := 4) (v := .ref (q 4)) (C := RX4) (T := TX4) (N := 9) hx hb hts in_X4_reason_X4 hown hK hP 5 rfl rfl 1 (by decide) (hts (.fieldLink RX4 15 "LearnedReasons$Search" "atOnce" "LLearnedReasons$AtOnce;") (by decide +kernel)) (fun _ h9 => h9) rfl dX4_reason_26 ?_
          refine lv_iconst (v := 0) hx hb dX4_reason_29 (by decide) ?_
          refine lv_iload_n hx hb dX4_reason_30 rfl (lv_at hl 0 rfl) ?_
          refine lv_iconst (v := 2) hx hb dX4_reason_31 (by decide) ?_
          obtain ⟨x_4, hx_4, h⟩ := ob_some h
          refine va_calli (va_runV (As := [.int 0, .int v_2, .int 2]) (rest := []) ⟨hx, hb, hml, hown, hts⟩ (c_X0_clashes l D cI cJ q hq F (fu (fu (fu I 8 I8) 9 I9) 10 I10) J a b 0 v_2 2 x_4 hx_4) (cwV 3 hts gX4_reason_X0_clashes rfl rfl rfl (by decide +kernel) (by rw [hR]; exact ⟨Nat.le_of_ble_eq_true rfl, Nat.le_of_ble_eq_true rfl⟩)) ⟨CUPc_blind, va_recv hK hP (ci := 0) (q0 := 4) rfl rfl, fun U hU hW => ⟨rfl, by rw [hU]; exact hP, va_K.moved hW.alike hK, va_Nw.warmM hW hN⟩⟩ rfl rfl hl.1 rfl (lv_room (Nat.le_of_ble_eq_true rfl)) dX4_reason_32 ⟨Nat.zero_le _, Nat.zero_le _⟩) hS (fun _ _ h => h) (fun _ h => h) (fun r u t H1 locs ht hvm hw hB hz1 hk1 hS => ?_)
          obtain ⟨rfl, rfl⟩ := hw
          rw [ht] at hB
          have hP : va_P D vwCl (CUW cI cJ q (fu (fu (fu I 8 x_4.2.1) 9 x_4.2.2.1) 10 x_4.2.2.2) J a b) H1 := hB
          clear hB hz1 hk1 ht hvm
          generalize H1 = H at hP hS ⊢
          refine lv_if_eq (tgt := 40) hx hb dX4_reason_35 (by decide) (fun c_5 => ?_) (fun c_5 => ?_)
          · have h := if_t c_5 h
            refine lv_iinc (v := v2 + (-1)) (lv' := [(2, .int (v2 + (-1))), (3, .int v_2), (0, .ref (q 5)), (1, .int v1)]) hx hb dX4_reason_40 hl (k := 3) rfl rfl (by decide) rfl (fun ls hl => ?_)
            refine lv_goto (tgt := 8) hx hb dX4_reason_43 (by decide) ?_
            exact ih8 v1 (v2 + (-1)) x_4.2.1 x_4.2.2.1 x_4.2.2.2 h _ _ hP hS ls (lv_sub hl [2, 3, 0] rfl)
          · have h := if_f c_5 h
            refine lv_iload_n hx hb dX4_reason_38 rfl (lv_at hl 0 rfl) ?_
            refine lv_istore_n (lv' := [(1, .int v_2), (3, .int v_2), (0, .ref (q 5)), (2, .int v2)]) hx hb dX4_reason_39 rfl hl (by decide) rfl (fun ls hl => ?_)
            refine lv_iinc (v := v2 + (-1)) (lv' := [(2, .int (v2 + (-1))), (1, .int v_2), (3, .int v_2), (0, .ref (q 5))]) hx hb dX4_reason_40 hl (k := 3) rfl rfl (by decide) rfl (fun ls hl => ?_)
            refine lv_goto (tgt := 8) hx hb dX4_reason_43 (by decide) ?_
            exact ih8 v_2 (v2 + (-1)) x_4.2.1 x_4.2.2.1 x_4.2.2.2 h _ _ hP hS ls (lv_sub hl [3, 1, 0] rfl)
  refine lv_aload_n hx hb dX4_reason_0 rfl (lv_at hl 0 rfl) ?_
  refine va_get (D := D) (ci := 4) (v := .int (I 16)) (C := RX4) (T := TX4) (N := 9) hx hb hts in_X4_reason_X4 hown hK hP 5 rfl rfl 8 (by decide) (hts (.fieldLink RX4 31 "LearnedReasons$Search" "choices" "I") (by decide +kernel)) (fun _ h9 => h9) rfl dX4_reason_1 ?_
  refine lv_istore_n (lv' := [(1, .int (I 16)), (0, .ref (q 5))]) hx hb dX4_reason_4 rfl hl (by decide) rfl (fun ls hl => ?_)
  refine lv_bipush (v := 13) hx hb dX4_reason_5 (by decide) ?_
  refine lv_istore_n (lv' := [(2, .int 13), (1, .int (I 16)), (0, .ref (q 5))]) hx hb dX4_reason_7 rfl hl (by decide) rfl (fun ls hl => ?_)
  exact C8 F (I 16) 13 (I 8) (I 9) (I 10) h _ _ hP hS ls (lv_sub hl [2, 1, 0] rfl)
