theorem in_X7_value_X7 : ∀ w ∈ wsX70, w ∈ wsX7_value := by decide +kernel
set_option maxHeartbeats 4000000 in
set_option maxRecDepth 100000 in
theorem c_X7_value (l : Launch) (D : va_G) (cI cJ cZ : ClassId) (q : Nat → Nat) (hq : MUQ q) (F : Nat) (I : Nat → Int32) (J : Nat → Int64) (a : Nat → Nat → Int32) (b : Nat → Nat → Int64) (v1 : Int32) (x0 : Int32 × Int32 × Int32 × Int32 × Int32 × Int32 × Int32 × Int32 × Int64 × (Nat → Int64)) (h : f_X7_value F I J a b v1 = some x0) : Met l yX7_value wsX7_value ({ frames := 3, cells := 0, slots := 0, locals := 73 }) (MUPc D cI cJ cZ q I J a b [.ref (q 0), .int v1]) (va_Qi (fun (r : Int32) (u : Int32 × Int32 × Int32 × Int32 × Int32 × Int32 × Int32 × Int64 × (Nat → Int64)) => r = x0.1 ∧ u = x0.2) (fun (u : Int32 × Int32 × Int32 × Int32 × Int32 × Int32 × Int32 × Int64 × (Nat → Int64)) t => va_P D vwCl (MUW cI cJ cZ q (fu (fu (fu (fu (fu (fu (fu I 8 u.1) 19 u.2.1) 20 u.2.2.1) 21 u.2.2.2.1) 22 u.2.2.2.2.1) 23 u.2.2.2.2.2.1) 24 u.2.2.2.2.2.2.1) (fu J 0 u.2.2.2.2.2.2.2.1) a (fu b 0 u.2.2.2.2.2.2.2.2)) t.heap) (MUA q)) 0 0 (MUA q) := by
  refine mt_of (cc := cX7_value) (maxL := 2) (ret := (some .int)) (by decide) rfl ?_
  intro p e s m args below meth c s₁ B0 hml hv R Q hR hQ
  obtain ⟨hargs, hP, hK, hN⟩ := hv
  have hx := B0.exec
  have hb := B0.bytes
  have hr := B0.returns
  have hts := atoms_spec (ws := wsX7_value) B0.pre
  have hown : s.vm.findClass RX7 = some m.cls := findClass_of_methodNamed B0.named
  have hlocks := B0.notSynchronized
  have hS : va_S (MUA q) s.heap s.heap [] := va_S.rf
  have hl := lv_entry ([.ref (q 0), .int v1]) (n := 2) (Nat.le_of_ble_eq_true rfl)
  rw [hargs, lg_entry_eq]
  rw [← hargs]
  generalize (lg_sl ([.ref (q 0), .int v1]) ++ List.replicate (2 - (lg_sl ([.ref (q 0), .int v1])).length) Slot.unset).toArray = ls at hl ⊢
  have hl : lv_has ls 2 [(0, .ref (q 0)), (1, .int v1)] := hl
  unfold f_X7_value at h
  refine lv_aload_n hx hb dX7_value_0 rfl (lv_at hl 0 rfl) ?_
  refine lv_iload_n hx hb dX7_value_1 rfl (lv_at hl 1 rfl) ?_
  obtain ⟨x_1, hx_1, h⟩ := ob_some h
  refine va_calli (va_runV (As := [.int v1]) (rest := []) ⟨hx, hb, hml, hown, hts⟩ (c_X7_isName l D cI cJ cZ q hq F I J a b v1 x_1 hx_1) (cwV 1 hts gX7_value_X7_isName rfl rfl rfl (by decide +kernel) (by rw [hR]; exact ⟨Nat.le_of_ble_eq_true rfl, Nat.le_of_ble_eq_true rfl⟩)) ⟨MUPc_blind, va_recv hK hP (ci := 7) (q0 := 0) rfl rfl, fun U hU hW => ⟨rfl, by rw [hU]; exact hP, va_K.moved hW.alike hK, trivial⟩⟩ rfl rfl hl.1 rfl (lv_room (Nat.le_of_ble_eq_true rfl)) dX7_value_2 ⟨Nat.zero_le _, Nat.zero_le _⟩) hS (fun _ _ h => h) (fun _ h => h) (fun r u t H1 locs ht hvm hw hB hz1 hk1 hS => ?_)
  obtain rfl := hw.symm
  rw [ht] at hB
  have hP : va_P D vwCl (MUW cI cJ cZ q I J a b) H1 := hB
  clear hB hz1 hk1 ht hvm
  generalize H1 = H at hP hS ⊢
  refine lv_if_ne (tgt := 10) hx hb dX7_value_5 (by decide) (fun c_2 => ?_) (fun c_2 => ?_)
  · have h := if_f c_2 h
    refine lv_aload_n hx hb dX7_value_10 rfl (lv_at hl 0 rfl) ?_
    obtain ⟨x_3, hx_3, h⟩ := ob_some h
    refine va_callv (va_runV (As := []) (rest := []) ⟨hx, hb, hml, hown, hts⟩ (c_X7_know l D cI cJ cZ q hq F I J a b x_3 hx_3) (cwV 0 hts gX7_value_X7_know rfl rfl rfl (by decide +kernel) (by rw [hR]; exact ⟨Nat.le_of_ble_eq_true rfl, Nat.le_of_ble_eq_true rfl⟩)) ⟨MUPc_blind, va_recv hK hP (ci := 7) (q0 := 0) rfl rfl, fun U hU hW => ⟨rfl, by rw [hU]; exact hP, va_K.moved hW.alike hK, trivial⟩⟩ rfl rfl hl.1 rfl (lv_room (Nat.le_of_ble_eq_true rfl)) dX7_value_11 ⟨Nat.zero_le _, Nat.zero_le _⟩) hS (fun _ _ h => h) (fun _ h => h) (fun u t H1 locs ht hvm hw hB hz1 hk1 hS => ?_)
    obtain rfl := hw.symm
    rw [ht] at hB
    have hP : va_P D vwCl (MUW cI cJ cZ q (fu (fu (fu (fu (fu (fu (fu I 8 x_3.1) 19 x_3.2.1) 20 x_3.2.2.1) 21 x_3.2.2.2.1) 22 x_3.2.2.2.2.1) 23 x_3.2.2.2.2.2.1) 24 x_3.2.2.2.2.2.2.1) (fu J 0 x_3.2.2.2.2.2.2.2.1) a (fu b 0 x_3.2.2.2.2.2.2.2.2)) H1 := hB
    clear hB hz1 hk1 ht hvm
    generalize H1 = H at hP hS ⊢
    refine lv_aload_n hx hb dX7_value_14 rfl (lv_at hl 0 rfl) ?_
    refine va_get (D := D) (ci := 7) (v := .int x_3.2.1) (C := RX7) (T := TX7) (N := 38) hx hb hts in_X7_value_X7 hown hK hP 0 rfl rfl 31 (by decide) (hts (.fieldLink RX7 118 "LearnedReasonsModel" "models" "I") (by decide +kernel)) (fun _ h9 => h9) rfl dX7_value_15 ?_
    refine lv_if_ne (tgt := 26) hx hb dX7_value_18 (by decide) (fun c_4 => ?_) (fun c_4 => ?_)
    · have h := if_f c_4 h
      refine lv_aload_n hx hb dX7_value_26 rfl (lv_at hl 0 rfl) ?_
      refine lv_aload_n hx hb dX7_value_27 rfl (lv_at hl 0 rfl) ?_
      refine va_get (D := D) (ci := 7) (v := .int x_3.2.2.2.2.1) (C := RX7) (T := TX7) (N := 38) hx hb hts in_X7_value_X7 hown hK hP 0 rfl rfl 34 (by decide) (hts (.fieldLink RX7 130 "LearnedReasonsModel" "firstRow" "I") (by decide +kernel)) (fun _ h9 => h9) rfl dX7_value_28 ?_
      refine lv_iload_n hx hb dX7_value_31 rfl (lv_at hl 1 rfl) ?_
      obtain ⟨x_5, hx_5, h⟩ := ob_some h
      refine va_calli (va_runV (As := [.int x_3.2.2.2.2.1, .int v1]) (rest := []) ⟨hx, hb, hml, hown, hts⟩ (c_X7_isTrue l D cI cJ cZ q hq F (fu (fu (fu (fu (fu (fu (fu I 8 x_3.1) 19 x_3.2.1) 20 x_3.2.2.1) 21 x_3.2.2.2.1) 22 x_3.2.2.2.2.1) 23 x_3.2.2.2.2.2.1) 24 x_3.2.2.2.2.2.2.1) (fu J 0 x_3.2.2.2.2.2.2.2.1) a (fu b 0 x_3.2.2.2.2.2.2.2.2) x_3.2.2.2.2.1 v1 x_5 hx_5) (cwV 2 hts gX7_value_X7_isTrue rfl rfl rfl (by decide +kernel) (by rw [hR]; exact ⟨Nat.le_of_ble_eq_true rfl, Nat.le_of_ble_eq_true rfl⟩)) ⟨MUPc_blind, va_recv hK hP (ci := 7) (q0 := 0) rfl rfl, fun U hU hW => ⟨rfl, by rw [hU]; exact hP, va_K.moved hW.alike hK, trivial⟩⟩ rfl rfl hl.1 rfl (lv_room (Nat.le_of_ble_eq_true rfl)) dX7_value_32 ⟨Nat.zero_le _, Nat.zero_le _⟩) hS (fun _ _ h => h) (fun _ h => h) (fun r u t H1 locs ht hvm hw hB hz1 hk1 hS => ?_)
      obtain rfl := hw.symm
      rw [ht] at hB
      have hP : va_P D vwCl (MUW cI cJ cZ q (fu (fu (fu (fu (fu (fu (fu I 8 x_3.1) 19 x_3.2.1) 20 x_3.2.2.1) 21 x_3.2.2.2.1) 22 x_3.2.2.2.2.1) 23 x_3.2.2.2.2.2.1) 24 x_3.2.2.2.2.2.2.1) (fu J 0 x_3.2.2.2.2.2.2.2.1) a (fu b 0 x_3.2.2.2.2.2.2.2.2)) H1 := hB
      clear hB hz1 hk1 ht hvm
      generalize H1 = H at hP hS ⊢
      refine lv_if_eq (tgt := 42) hx hb dX7_value_35 (by decide) (fun c_6 => ?_) (fun c_6 => ?_)
      · have h := if_t c_6 h
        refine lv_iconst (v := 0) hx hb dX7_value_42 (by decide) ?_
        have hx0 := Option.some.inj h
        rw [hQ]
        exact W.iret (v := 0) hx hb hr (fun t ht hW => ⟨⟨0, (x_3.1, x_3.2.1, x_3.2.2.1, x_3.2.2.2.1, x_3.2.2.2.2.1, x_3.2.2.2.2.2.1, x_3.2.2.2.2.2.2.1, x_3.2.2.2.2.2.2.2.1, x_3.2.2.2.2.2.2.2.2), rfl, ⟨congrArg (fun z => z.1) hx0, congrArg (fun z => z.2) hx0⟩, by show va_P _ _ _ t.heap; rw [ht]; exact hP⟩, hS.F ht⟩) hS.2.2 dX7_value_43
      · have h := if_f c_6 h
        refine lv_iconst (v := 1) hx hb dX7_value_38 (by decide) ?_
        refine lv_goto (tgt := 43) hx hb dX7_value_39 (by decide) ?_
        have hx0 := Option.some.inj h
        rw [hQ]
        exact W.iret (v := 1) hx hb hr (fun t ht hW => ⟨⟨1, (x_3.1, x_3.2.1, x_3.2.2.1, x_3.2.2.2.1, x_3.2.2.2.2.1, x_3.2.2.2.2.2.1, x_3.2.2.2.2.2.2.1, x_3.2.2.2.2.2.2.2.1, x_3.2.2.2.2.2.2.2.2), rfl, ⟨congrArg (fun z => z.1) hx0, congrArg (fun z => z.2) hx0⟩, by show va_P _ _ _ t.heap; rw [ht]; exact hP⟩, hS.F ht⟩) hS.2.2 dX7_value_43
    · have h := if_t c_4 h
      refine lv_bipush (v := (-3)) hx hb dX7_value_21 (by decide) ?_
      refine lv_goto (tgt := 43) hx hb dX7_value_23 (by decide) ?_
      have hx0 := Option.some.inj h
      rw [hQ]
      exact W.iret (v := (-3)) hx hb hr (fun t ht hW => ⟨⟨(-3), (x_3.1, x_3.2.1, x_3.2.2.1, x_3.2.2.2.1, x_3.2.2.2.2.1, x_3.2.2.2.2.2.1, x_3.2.2.2.2.2.2.1, x_3.2.2.2.2.2.2.2.1, x_3.2.2.2.2.2.2.2.2), rfl, ⟨congrArg (fun z => z.1) hx0, congrArg (fun z => z.2) hx0⟩, by show va_P _ _ _ t.heap; rw [ht]; exact hP⟩, hS.F ht⟩) hS.2.2 dX7_value_43
  · have h := if_t c_2 h
    refine lv_iconst (v := (-1)) hx hb dX7_value_8 (by decide) ?_
    have hx0 := Option.some.inj h
    rw [hQ]
    exact W.iret (v := (-1)) hx hb hr (fun t ht hW => ⟨⟨(-1), ((I 8), (I 19), (I 20), (I 21), (I 22), (I 23), (I 24), (J 0), (b 0)), rfl, ⟨congrArg (fun z => z.1) hx0, congrArg (fun z => z.2) hx0⟩, by show va_P _ _ _ t.heap; rw [ht]; exact hP⟩, hS.F ht⟩) hS.2.2 dX7_value_9
theorem in_X7_told_X7 : ∀ w ∈ wsX70, w ∈ wsX7_told := by decide +kernel
set_option maxHeartbeats 4000000 in
set_option maxRecDepth 100000 in
theorem c_X7_told (l : Launch) (D : va_G) (cI cJ cZ : ClassId) (q : Nat → Nat) (hq : MUQ q) (F : Nat) (I : Nat → Int32) (J : Nat → Int64) (a : Nat → Nat → Int32) (b : Nat → Nat → Int64) (v1 : Int32) (x0 : Int32 × Int32 × Int32 × Int32 × Int32 × Int32 × Int32 × Int32 × Int32 × Int32 × Int32 × (Nat → Int32) × (Nat → Int32)) (h : f_X7_told F I J a b v1 = some x0) : Met l yX7_told wsX7_told ({ frames := 5, cells := 0, slots := 0, locals := 119 }) (MUPc D cI cJ cZ q I J a b [.ref (q 0), .int v1]) (va_Qi (fun (r : Int32) (u : Int32 × Int32 × Int32 × Int32 × Int32 × Int32 × Int32 × Int32 × Int32 × Int32 × (Nat → Int32) × (Nat → Int32)) => r = x0.1 ∧ u = x0.2) (fun (u : Int32 × Int32 × Int32 × Int32 × Int32 × Int32 × Int32 × Int32 × Int32 × Int32 × (Nat → Int32) × (Nat → Int32)) t => va_P D vwCl (MUW cI cJ cZ q (fu (fu (fu (fu (fu (fu (fu (fu (fu (fu I 9 u.1) 10 u.2.1) 11 u.2.2.1) 12 u.2.2.2.1) 13 u.2.2.2.2.1) 14 u.2.2.2.2.2.1) 15 u.2.2.2.2.2.2.1) 16 u.2.2.2.2.2.2.2.1) 17 u.2.2.2.2.2.2.2.2.1) 18 u.2.2.2.2.2.2.2.2.2.1) J (fu (fu a 9 u.2.2.2.2.2.2.2.2.2.2.1) 10 u.2.2.2.2.2.2.2.2.2.2.2) b) t.heap) (MUA q)) 0 0 (MUA q) := by
  refine mt_of (cc := cX7_told) (maxL := 2) (ret := (some .int)) (by decide) rfl ?_
  intro p e s m args below meth c s₁ B0 hml hv R Q hR hQ
  obtain ⟨hargs, hP, hK, hN⟩ := hv
  have hx := B0.exec
  have hb := B0.bytes
  have hr := B0.returns
  have hts := atoms_spec (ws := wsX7_told) B0.pre
  have hown : s.vm.findClass RX7 = some m.cls := findClass_of_methodNamed B0.named
  have hlocks := B0.notSynchronized
  have hS : va_S (MUA q) s.heap s.heap [] := va_S.rf
  have hl := lv_entry ([.ref (q 0), .int v1]) (n := 2) (Nat.le_of_ble_eq_true rfl)
  rw [hargs, lg_entry_eq]
  rw [← hargs]
  generalize (lg_sl ([.ref (q 0), .int v1]) ++ List.replicate (2 - (lg_sl ([.ref (q 0), .int v1])).length) Slot.unset).toArray = ls at hl ⊢
  have hl : lv_has ls 2 [(0, .ref (q 0)), (1, .int v1)] := hl
  unfold f_X7_told at h
  refine lv_iload_n hx hb dX7_told_0 rfl (lv_at hl 1 rfl) ?_
  refine lv_if_lt (tgt := 9) hx hb dX7_told_1 (by decide) (fun c_1 => ?_) (fun c_1 => ?_)
  · have h := if_t c_1 h
    refine lv_bipush (v := (-2)) hx hb dX7_told_9 (by decide) ?_
    have hx0 := Option.some.inj h
    rw [hQ]
    exact W.iret (v := (-2)) hx hb hr (fun t ht hW => ⟨⟨(-2), ((I 9), (I 10), (I 11), (I 12), (I 13), (I 14), (I 15), (I 16), (I 17), (I 18), (a 9), (a 10)), rfl, ⟨congrArg (fun z => z.1) hx0, congrArg (fun z => z.2) hx0⟩, by show va_P _ _ _ t.heap; rw [ht]; exact hP⟩, hS.F ht⟩) hS.2.2 dX7_told_11
  · have h := if_f c_1 h
    refine lv_iload_n hx hb dX7_told_4 rfl (lv_at hl 1 rfl) ?_
    refine lv_iconst (v := 2) hx hb dX7_told_5 (by decide) ?_
    refine lv_icmp_le (tgt := 12) hx hb dX7_told_6 (by decide) (fun c_2 => ?_) (fun c_2 => ?_)
    · have h := if_t c_2 h
      refine lv_aload_n hx hb dX7_told_12 rfl (lv_at hl 0 rfl) ?_
      obtain ⟨x_3, hx_3, h⟩ := ob_some h
      refine va_callv (va_runV (As := []) (rest := []) ⟨hx, hb, hml, hown, hts⟩ (c_X7_runSearch l D cI cJ cZ q hq F I J a b x_3 hx_3) (cwV 0 hts gX7_told_X7_runSearch rfl rfl rfl (by decide +kernel) (by rw [hR]; exact ⟨Nat.le_of_ble_eq_true rfl, Nat.le_of_ble_eq_true rfl⟩)) ⟨MUPc_blind, va_recv hK hP (ci := 7) (q0 := 0) rfl rfl, fun U hU hW => ⟨rfl, by rw [hU]; exact hP, va_K.moved hW.alike hK, trivial⟩⟩ rfl rfl hl.1 rfl (lv_room (Nat.le_of_ble_eq_true rfl)) dX7_told_13 ⟨Nat.zero_le _, Nat.zero_le _⟩) hS (fun _ _ h => h) (fun _ h => h) (fun u t H1 locs ht hvm hw hB hz1 hk1 hS => ?_)
      obtain rfl := hw.symm
      rw [ht] at hB
      have hP : va_P D vwCl (MUW cI cJ cZ q (fu (fu (fu (fu (fu (fu (fu (fu (fu (fu I 9 x_3.1) 10 x_3.2.1) 11 x_3.2.2.1) 12 x_3.2.2.2.1) 13 x_3.2.2.2.2.1) 14 x_3.2.2.2.2.2.1) 15 x_3.2.2.2.2.2.2.1) 16 x_3.2.2.2.2.2.2.2.1) 17 x_3.2.2.2.2.2.2.2.2.1) 18 x_3.2.2.2.2.2.2.2.2.2.1) J (fu (fu a 9 x_3.2.2.2.2.2.2.2.2.2.2.1) 10 x_3.2.2.2.2.2.2.2.2.2.2.2) b) H1 := hB
      clear hB hz1 hk1 ht hvm
      generalize H1 = H at hP hS ⊢
      refine lv_iload_n hx hb dX7_told_16 rfl (lv_at hl 1 rfl) ?_
      refine lv_if_ne (tgt := 27) hx hb dX7_told_17 (by decide) (fun c_4 => ?_) (fun c_4 => ?_)
      · have h := if_f c_4 h
        refine lv_iload_n hx hb dX7_told_27 rfl (lv_at hl 1 rfl) ?_
        refine lv_iconst (v := 1) hx hb dX7_told_28 (by decide) ?_
        refine lv_icmp_ne (tgt := 39) hx hb dX7_told_29 (by decide) (fun c_5 => ?_) (fun c_5 => ?_)
        · have h := if_f c_5 h
          refine lv_aload_n hx hb dX7_told_39 rfl (lv_at hl 0 rfl) ?_
          refine va_get (D := D) (ci := 7) (v := .int x_3.2.2.2.2.2.1) (C := RX7) (T := TX7) (N := 38) hx hb hts in_X7_told_X7 hown hK hP 0 rfl rfl 25 (by decide) (hts (.fieldLink RX7 77 "LearnedReasonsModel" "learnedCount" "I") (by decide +kernel)) (fun _ h9 => h9) rfl dX7_told_40 ?_
          have hx0 := Option.some.inj h
          rw [hQ]
          exact W.iret (v := x_3.2.2.2.2.2.1) hx hb hr (fun t ht hW => ⟨⟨x_3.2.2.2.2.2.1, (x_3.1, x_3.2.1, x_3.2.2.1, x_3.2.2.2.1, x_3.2.2.2.2.1, x_3.2.2.2.2.2.1, x_3.2.2.2.2.2.2.1, x_3.2.2.2.2.2.2.2.1, x_3.2.2.2.2.2.2.2.2.1, x_3.2.2.2.2.2.2.2.2.2.1, x_3.2.2.2.2.2.2.2.2.2.2.1, x_3.2.2.2.2.2.2.2.2.2.2.2), rfl, ⟨congrArg (fun z => z.1) hx0, congrArg (fun z => z.2) hx0⟩, by show va_P _ _ _ t.heap; rw [ht]; exact hP⟩, hS.F ht⟩) hS.2.2 dX7_told_43
        · have h := if_t c_5 h
          refine lv_aload_n hx hb dX7_told_32 rfl (lv_at hl 0 rfl) ?_
          refine va_get (D := D) (ci := 7) (v := .int x_3.2.2.2.2.2.2.2.1) (C := RX7) (T := TX7) (N := 38) hx hb hts in_X7_told_X7 hown hK hP 0 rfl rfl 27 (by decide) (hts (.fieldLink RX7 100 "LearnedReasonsModel" "chosen" "I") (by decide +kernel)) (fun _ h9 => h9) rfl dX7_told_33 ?_
          refine lv_goto (tgt := 43) hx hb dX7_told_36 (by decide) ?_
          have hx0 := Option.some.inj h
          rw [hQ]
          exact W.iret (v := x_3.2.2.2.2.2.2.2.1) hx hb hr (fun t ht hW => ⟨⟨x_3.2.2.2.2.2.2.2.1, (x_3.1, x_3.2.1, x_3.2.2.1, x_3.2.2.2.1, x_3.2.2.2.2.1, x_3.2.2.2.2.2.1, x_3.2.2.2.2.2.2.1, x_3.2.2.2.2.2.2.2.1, x_3.2.2.2.2.2.2.2.2.1, x_3.2.2.2.2.2.2.2.2.2.1, x_3.2.2.2.2.2.2.2.2.2.2.1, x_3.2.2.2.2.2.2.2.2.2.2.2), rfl, ⟨congrArg (fun z => z.1) hx0, congrArg (fun z => z.2) hx0⟩, by show va_P _ _ _ t.heap; rw [ht]; exact hP⟩, hS.F ht⟩) hS.2.2 dX7_told_43
      · have h := if_t c_4 h
        refine lv_aload_n hx hb dX7_told_20 rfl (lv_at hl 0 rfl) ?_
        refine va_get (D := D) (ci := 7) (v := .int x_3.2.2.2.2.2.2.1) (C := RX7) (T := TX7) (N := 38) hx hb hts in_X7_told_X7 hown hK hP 0 rfl rfl 26 (by decide) (hts (.fieldLink RX7 97 "LearnedReasonsModel" "conflictCount" "I") (by decide +kernel)) (fun _ h9 => h9) rfl dX7_told_21 ?_
        refine lv_goto (tgt := 43) hx hb dX7_told_24 (by decide) ?_
        have hx0 := Option.some.inj h
        rw [hQ]
        exact W.iret (v := x_3.2.2.2.2.2.2.1) hx hb hr (fun t ht hW => ⟨⟨x_3.2.2.2.2.2.2.1, (x_3.1, x_3.2.1, x_3.2.2.1, x_3.2.2.2.1, x_3.2.2.2.2.1, x_3.2.2.2.2.2.1, x_3.2.2.2.2.2.2.1, x_3.2.2.2.2.2.2.2.1, x_3.2.2.2.2.2.2.2.2.1, x_3.2.2.2.2.2.2.2.2.2.1, x_3.2.2.2.2.2.2.2.2.2.2.1, x_3.2.2.2.2.2.2.2.2.2.2.2), rfl, ⟨congrArg (fun z => z.1) hx0, congrArg (fun z => z.2) hx0⟩, by show va_P _ _ _ t.heap; rw [ht]; exact hP⟩, hS.F ht⟩) hS.2.2 dX7_told_43
    · have h := if_f c_2 h
      refine lv_bipush (v := (-2)) hx hb dX7_told_9 (by decide) ?_
      have hx0 := Option.some.inj h
      rw [hQ]
      exact W.iret (v := (-2)) hx hb hr (fun t ht hW => ⟨⟨(-2), ((I 9), (I 10), (I 11), (I 12), (I 13), (I 14), (I 15), (I 16), (I 17), (I 18), (a 9), (a 10)), rfl, ⟨congrArg (fun z => z.1) hx0, congrArg (fun z => z.2) hx0⟩, by show va_P _ _ _ t.heap; rw [ht]; exact hP⟩, hS.F ht⟩) hS.2.2 dX7_told_11
theorem in_X7_learned_X7 : ∀ w ∈ wsX70, w ∈ wsX7_learned := by decide +kernel
set_option maxHeartbeats 4000000 in
set_option maxRecDepth 100000 in
theorem c_X7_learned (l : Launch) (D : va_G) (cI cJ cZ : ClassId) (q : Nat → Nat) (hq : MUQ q) (F : Nat) (I : Nat → Int32) (J : Nat → Int64) (a : Nat → Nat → Int32) (b : Nat → Nat → Int64) (v1 : Int32) (v2 : Int32) (x0 : Int32 × Int32 × Int32 × Int32 × Int32 × Int32 × Int32 × Int32 × Int32 × Int32 × Int32 × (Nat → Int32) × (Nat → Int32)) (h : f_X7_learned F I J a b v1 v2 = some x0) : Met l yX7_learned wsX7_learned ({ frames := 5, cells := 0, slots := 0, locals := 119 }) (MUPc D cI cJ cZ q I J a b [.ref (q 0), .int v1, .int v2]) (va_Qi (fun (r : Int32) (u : Int32 × Int32 × Int32 × Int32 × Int32 × Int32 × Int32 × Int32 × Int32 × Int32 × (Nat → Int32) × (Nat → Int32)) => r = x0.1 ∧ u = x0.2) (fun (u : Int32 × Int32 × Int32 × Int32 × Int32 × Int32 × Int32 × Int32 × Int32 × Int32 × (Nat → Int32) × (Nat → Int32)) t => va_P D vwCl (MUW cI cJ cZ q (fu (fu (fu (fu (fu (fu (fu (fu (fu (fu I 9 u.1) 10 u.2.1) 11 u.2.2.1) 12 u.2.2.2.1) 13 u.2.2.2.2.1) 14 u.2.2.2.2.2.1) 15 u.2.2.2.2.2.2.1) 16 u.2.2.2.2.2.2.2.1) 17 u.2.2.2.2.2.2.2.2.1) 18 u.2.2.2.2.2.2.2.2.2.1) J (fu (fu a 9 u.2.2.2.2.2.2.2.2.2.2.1) 10 u.2.2.2.2.2.2.2.2.2.2.2) b) t.heap) (MUA q)) 0 0 (MUA q) := by
  refine mt_of (cc := cX7_learned) (maxL := 5) (ret := (some .int)) (by decide) rfl ?_
  intro p e s m args below meth c s₁ B0 hml hv R Q hR hQ
  obtain ⟨hargs, hP, hK, hN⟩ := hv
  have hx := B0.exec
  have hb := B0.bytes
  have hr := B0.returns
  have hts := atoms_spec (ws := wsX7_learned) B0.pre
  have hown : s.vm.findClass RX7 = some m.cls := findClass_of_methodNamed B0.named
  have hlocks := B0.notSynchronized
  have hS : va_S (MUA q) s.heap s.heap [] := va_S.rf
  have hl := lv_entry ([.ref (q 0), .int v1, .int v2]) (n := 5) (Nat.le_of_ble_eq_true rfl)
  rw [hargs, lg_entry_eq]
  rw [← hargs]
  generalize (lg_sl ([.ref (q 0), .int v1, .int v2]) ++ List.replicate (5 - (lg_sl ([.ref (q 0), .int v1, .int v2])).length) Slot.unset).toArray = ls at hl ⊢
  have hl : lv_has ls 5 [(0, .ref (q 0)), (1, .int v1), (2, .int v2)] := hl
  unfold f_X7_learned at h
  have C23 : ∀ (n23 : Nat) (v1 : Int32) (v3 : Int32) (v4 : Int32) (I9 : Int32) (I10 : Int32) (I11 : Int32) (I12 : Int32) (I13 : Int32) (I14 : Int32) (I15 : Int32) (I16 : Int32) (I17 : Int32) (I18 : Int32) (a9 : Nat → Int32) (a10 : Nat → Int32), k_X7_learned_23 F I J a b n23 v1 v3 v4 I9 I10 I11 I12 I13 I14 I15 I16 I17 I18 a9 a10 = some x0 → ∀ (H : Heap) (locs : List Loc), va_P D vwCl (MUW cI cJ cZ q (fu (fu (fu (fu (fu (fu (fu (fu (fu (fu I 9 I9) 10 I10) 11 I11) 12 I12) 13 I13) 14 I14) 15 I15) 16 I16) 17 I17) 18 I18) J (fu (fu a 9 a9) 10 a10) b) H → va_S (MUA q) s.heap H locs → ∀ ls : Array Slot, lv_has ls 5 [(0, .ref (q 0)), (1, .int v1), (3, .int v3), (4, .int v4)] → W p l e R s m args below meth c H locs 0 0 Q (F0 m 23 ls []) := by
    intro n23
    induction n23 with
    | zero => intro v1 v3 v4 I9 I10 I11 I12 I13 I14 I15 I16 I17 I18 a9 a10 h; rw [k_X7_learned_23] at h; cases h
    | succ n23 ih23 =>
      intro v1 v3 v4 I9 I10 I11 I12 I13 I14 I15 I16 I17 I18 a9 a10 h H locs hP hS ls hl
      rw [k_X7_learned_23] at h
      refine lv_iload hx hb dX7_learned_23 (lv_at hl 3 rfl) ?_
      refine lv_aload_n hx hb dX7_learned_25 rfl (lv_at hl 0 rfl) ?_
      refine va_get (D := D) (ci := 7) (v := .int (I 0)) (C := RX7) (T := TX7) (N := 38) hx hb hts in_X7_learned_X7 hown hK hP 0 rfl rfl 0 (by decide) (hts (.fieldLink RX7 63 "LearnedReasonsModel" "names" "I") (by decide +kernel)) (fun _ h9 => h9) rfl dX7_learned_26 ?_
      refine lv_icmp_ge (tgt := 65) hx hb dX7_learned_29 (by decide) (fun c_1 => ?_) (fun c_1 => ?_)
      · have h := if_t c_1 h
        refine lv_iconst (v := (-1)) hx hb dX7_learned_65 (by decide) ?_
        have hx0 := Option.some.inj h
        rw [hQ]
        exact W.iret (v := (-1)) hx hb hr (fun t ht hW => ⟨⟨(-1), (I9, I10, I11, I12, I13, I14, I15, I16, I17, I18, a9, a10), rfl, ⟨congrArg (fun z => z.1) hx0, congrArg (fun z => z.2) hx0⟩, by show va_P _ _ _ t.heap; rw [ht]; exact hP⟩, hS.F ht⟩) hS.2.2 dX7_learned_66
      · have h := if_f c_1 h
        refine lv_aload_n hx hb dX7_learned_32 rfl (lv_at hl 0 rfl) ?_
        refine va_get (D := D) (ci := 7) (v := .ref (q 11)) (C := RX7) (T := TX7) (N := 38) hx hb hts in_X7_learned_X7 hown hK hP 0 rfl rfl 24 (by decide) (hts (.fieldLink RX7 41 "LearnedReasonsModel" "learnedYes" "[I") (by decide +kernel)) (fun _ h9 => h9) rfl dX7_learned_33 ?_
        refine lv_iload_n hx hb dX7_learned_36 rfl (lv_at hl 1 rfl) ?_
        obtain ⟨g_2, h⟩ := gd_some h
        refine va_iald hx hb hK hP 11 0 rfl rfl g_2 dX7_learned_37 ?_
        refine lv_iload hx hb dX7_learned_38 (lv_at hl 3 rfl) ?_
        refine lv_ishr hx hb dX7_learned_40 ?_
        refine lv_iconst (v := 1) hx hb dX7_learned_41 (by decide) ?_
        refine lv_iand hx hb dX7_learned_42 ?_
        refine lv_iconst (v := 1) hx hb dX7_learned_43 (by decide) ?_
        refine lv_icmp_ne (tgt := 59) hx hb dX7_learned_44 (by decide) (fun c_3 => ?_) (fun c_3 => ?_)
        · have h := if_f c_3 h
          refine lv_iinc (v := v4 + 1) (lv' := [(4, .int (v4 + 1)), (0, .ref (q 0)), (1, .int v1), (3, .int v3)]) hx hb dX7_learned_59 hl (k := 3) rfl rfl (by decide) rfl (fun ls hl => ?_)
          refine lv_goto (tgt := 23) hx hb dX7_learned_62 (by decide) ?_
          exact ih23 v1 v3 (v4 + 1) I9 I10 I11 I12 I13 I14 I15 I16 I17 I18 a9 a10 h _ _ hP hS ls (lv_sub hl [1, 2, 3, 0] rfl)
        · have h := if_t c_3 h
          refine lv_iload_n hx hb dX7_learned_47 rfl (lv_at hl 2 rfl) ?_
          refine lv_if_ne (tgt := 56) hx hb dX7_learned_48 (by decide) (fun c_4 => ?_) (fun c_4 => ?_)
          · have h := if_f c_4 h
            refine lv_iinc (v := v3 + (-1)) (lv' := [(3, .int (v3 + (-1))), (0, .ref (q 0)), (1, .int v1), (4, .int v4)]) hx hb dX7_learned_56 hl (k := 2) rfl rfl (by decide) rfl (fun ls hl => ?_)
            refine lv_iinc (v := v4 + 1) (lv' := [(4, .int (v4 + 1)), (3, .int (v3 + (-1))), (0, .ref (q 0)), (1, .int v1)]) hx hb dX7_learned_59 hl (k := 3) rfl rfl (by decide) rfl (fun ls hl => ?_)
            refine lv_goto (tgt := 23) hx hb dX7_learned_62 (by decide) ?_
            exact ih23 v1 (v3 + (-1)) (v4 + 1) I9 I10 I11 I12 I13 I14 I15 I16 I17 I18 a9 a10 h _ _ hP hS ls (lv_sub hl [2, 3, 1, 0] rfl)
          · have h := if_t c_4 h
            refine lv_iconst (v := 2) hx hb dX7_learned_51 (by decide) ?_
            refine lv_iload hx hb dX7_learned_52 (lv_at hl 3 rfl) ?_
            refine lv_imul hx hb dX7_learned_54 ?_
            have hx0 := Option.some.inj h
            rw [hQ]
            exact W.iret (v := (2 : Int32) * v4) hx hb hr (fun t ht hW => ⟨⟨((2 : Int32) * v4), (I9, I10, I11, I12, I13, I14, I15, I16, I17, I18, a9, a10), rfl, ⟨congrArg (fun z => z.1) hx0, congrArg (fun z => z.2) hx0⟩, by show va_P _ _ _ t.heap; rw [ht]; exact hP⟩, hS.F ht⟩) hS.2.2 dX7_learned_55
  refine lv_aload_n hx hb dX7_learned_0 rfl (lv_at hl 0 rfl) ?_
  obtain ⟨x_5, hx_5, h⟩ := ob_some h
  refine va_callv (va_runV (As := []) (rest := []) ⟨hx, hb, hml, hown, hts⟩ (c_X7_runSearch l D cI cJ cZ q hq F I J a b x_5 hx_5) (cwV 0 hts gX7_learned_X7_runSearch rfl rfl rfl (by decide +kernel) (by rw [hR]; exact ⟨Nat.le_of_ble_eq_true rfl, Nat.le_of_ble_eq_true rfl⟩)) ⟨MUPc_blind, va_recv hK hP (ci := 7) (q0 := 0) rfl rfl, fun U hU hW => ⟨rfl, by rw [hU]; exact hP, va_K.moved hW.alike hK, trivial⟩⟩ rfl rfl hl.1 rfl (lv_room (Nat.le_of_ble_eq_true rfl)) dX7_learned_1 ⟨Nat.zero_le _, Nat.zero_le _⟩) hS (fun _ _ h => h) (fun _ h => h) (fun u t H1 locs ht hvm hw hB hz1 hk1 hS => ?_)
  obtain rfl := hw.symm
  rw [ht] at hB
  have hP : va_P D vwCl (MUW cI cJ cZ q (fu (fu (fu (fu (fu (fu (fu (fu (fu (fu I 9 x_5.1) 10 x_5.2.1) 11 x_5.2.2.1) 12 x_5.2.2.2.1) 13 x_5.2.2.2.2.1) 14 x_5.2.2.2.2.2.1) 15 x_5.2.2.2.2.2.2.1) 16 x_5.2.2.2.2.2.2.2.1) 17 x_5.2.2.2.2.2.2.2.2.1) 18 x_5.2.2.2.2.2.2.2.2.2.1) J (fu (fu a 9 x_5.2.2.2.2.2.2.2.2.2.2.1) 10 x_5.2.2.2.2.2.2.2.2.2.2.2) b) H1 := hB
  clear hB hz1 hk1 ht hvm
  generalize H1 = H at hP hS ⊢
  refine lv_iload_n hx hb dX7_learned_4 rfl (lv_at hl 1 rfl) ?_
  refine lv_if_lt (tgt := 16) hx hb dX7_learned_5 (by decide) (fun c_6 => ?_) (fun c_6 => ?_)
  · have h := if_t c_6 h
    refine lv_iconst (v := (-1)) hx hb dX7_learned_16 (by decide) ?_
    have hx0 := Option.some.inj h
    rw [hQ]
    exact W.iret (v := (-1)) hx hb hr (fun t ht hW => ⟨⟨(-1), (x_5.1, x_5.2.1, x_5.2.2.1, x_5.2.2.2.1, x_5.2.2.2.2.1, x_5.2.2.2.2.2.1, x_5.2.2.2.2.2.2.1, x_5.2.2.2.2.2.2.2.1, x_5.2.2.2.2.2.2.2.2.1, x_5.2.2.2.2.2.2.2.2.2.1, x_5.2.2.2.2.2.2.2.2.2.2.1, x_5.2.2.2.2.2.2.2.2.2.2.2), rfl, ⟨congrArg (fun z => z.1) hx0, congrArg (fun z => z.2) hx0⟩, by show va_P _ _ _ t.heap; rw [ht]; exact hP⟩, hS.F ht⟩) hS.2.2 dX7_learned_17
  · have h := if_f c_6 h
    refine lv_iload_n hx hb dX7_learned_8 rfl (lv_at hl 1 rfl) ?_
    refine lv_aload_n hx hb dX7_learned_9 rfl (lv_at hl 0 rfl) ?_
    refine va_get (D := D) (ci := 7) (v := .int x_5.2.2.2.2.2.1) (C := RX7) (T := TX7) (N := 38) hx hb hts in_X7_learned_X7 hown hK hP 0 rfl rfl 25 (by decide) (hts (.fieldLink RX7 77 "LearnedReasonsModel" "learnedCount" "I") (by decide +kernel)) (fun _ h9 => h9) rfl dX7_learned_10 ?_
    refine lv_icmp_lt (tgt := 18) hx hb dX7_learned_13 (by decide) (fun c_7 => ?_) (fun c_7 => ?_)
    · have h := if_t c_7 h
      refine lv_iload_n hx hb dX7_learned_18 rfl (lv_at hl 2 rfl) ?_
      refine lv_istore_n (lv' := [(3, .int v2), (0, .ref (q 0)), (1, .int v1), (2, .int v2)]) hx hb dX7_learned_19 rfl hl (by decide) rfl (fun ls hl => ?_)
      refine lv_iconst (v := 0) hx hb dX7_learned_20 (by decide) ?_
      refine lv_istore (lv' := [(4, .int 0), (3, .int v2), (0, .ref (q 0)), (1, .int v1), (2, .int v2)]) hx hb dX7_learned_21 hl (by decide) rfl (fun ls hl => ?_)
      exact C23 F v1 v2 0 x_5.1 x_5.2.1 x_5.2.2.1 x_5.2.2.2.1 x_5.2.2.2.2.1 x_5.2.2.2.2.2.1 x_5.2.2.2.2.2.2.1 x_5.2.2.2.2.2.2.2.1 x_5.2.2.2.2.2.2.2.2.1 x_5.2.2.2.2.2.2.2.2.2.1 x_5.2.2.2.2.2.2.2.2.2.2.1 x_5.2.2.2.2.2.2.2.2.2.2.2 h _ _ hP hS ls (lv_sub hl [2, 3, 1, 0] rfl)
    · have h := if_f c_7 h
      refine lv_iconst (v := (-1)) hx hb dX7_learned_16 (by decide) ?_
      have hx0 := Option.some.inj h
      rw [hQ]
      exact W.iret (v := (-1)) hx hb hr (fun t ht hW => ⟨⟨(-1), (x_5.1, x_5.2.1, x_5.2.2.1, x_5.2.2.2.1, x_5.2.2.2.2.1, x_5.2.2.2.2.2.1, x_5.2.2.2.2.2.2.1, x_5.2.2.2.2.2.2.2.1, x_5.2.2.2.2.2.2.2.2.1, x_5.2.2.2.2.2.2.2.2.2.1, x_5.2.2.2.2.2.2.2.2.2.2.1, x_5.2.2.2.2.2.2.2.2.2.2.2), rfl, ⟨congrArg (fun z => z.1) hx0, congrArg (fun z => z.2) hx0⟩, by show va_P _ _ _ t.heap; rw [ht]; exact hP⟩, hS.F ht⟩) hS.2.2 dX7_learned_17
theorem in_X7_count_X7 : ∀ w ∈ wsX70, w ∈ wsX7_count := by decide +kernel
set_option maxHeartbeats 4000000 in
set_option maxRecDepth 100000 in
theorem c_X7_count (l : Launch) (D : va_G) (cI cJ cZ : ClassId) (q : Nat → Nat) (hq : MUQ q) (F : Nat) (I : Nat → Int32) (J : Nat → Int64) (a : Nat → Nat → Int32) (b : Nat → Nat → Int64) (x0 : Int32 × Int32 × Int32 × Int32 × Int32 × Int32 × Int32 × Int32 × Int64 × (Nat → Int64)) (h : f_X7_count F I J a b = some x0) : Met l yX7_count wsX7_count ({ frames := 3, cells := 0, slots := 0, locals := 73 }) (MUPc D cI cJ cZ q I J a b [.ref (q 0)]) (va_Qi (fun (r : Int32) (u : Int32 × Int32 × Int32 × Int32 × Int32 × Int32 × Int32 × Int64 × (Nat → Int64)) => r = x0.1 ∧ u = x0.2) (fun (u : Int32 × Int32 × Int32 × Int32 × Int32 × Int32 × Int32 × Int64 × (Nat → Int64)) t => va_P D vwCl (MUW cI cJ cZ q (fu (fu (fu (fu (fu (fu (fu I 8 u.1) 19 u.2.1) 20 u.2.2.1) 21 u.2.2.2.1) 22 u.2.2.2.2.1) 23 u.2.2.2.2.2.1) 24 u.2.2.2.2.2.2.1) (fu J 0 u.2.2.2.2.2.2.2.1) a (fu b 0 u.2.2.2.2.2.2.2.2)) t.heap) (MUA q)) 0 0 (MUA q) := by
  refine mt_of (cc := cX7_count) (maxL := 1) (ret := (some .int)) (by decide) rfl ?_
  intro p e s m args below meth c s₁ B0 hml hv R Q hR hQ
  obtain ⟨hargs, hP, hK, hN⟩ := hv
  have hx := B0.exec
  have hb := B0.bytes
  have hr := B0.returns
  have hts := atoms_spec (ws := wsX7_count) B0.pre
  have hown : s.vm.findClass RX7 = some m.cls := findClass_of_methodNamed B0.named
  have hlocks := B0.notSynchronized
  have hS : va_S (MUA q) s.heap s.heap [] := va_S.rf
  have hl := lv_entry ([.ref (q 0)]) (n := 1) (Nat.le_of_ble_eq_true rfl)
  rw [hargs, lg_entry_eq]
  rw [← hargs]
  generalize (lg_sl ([.ref (q 0)]) ++ List.replicate (1 - (lg_sl ([.ref (q 0)])).length) Slot.unset).toArray = ls at hl ⊢
  have hl : lv_has ls 1 [(0, .ref (q 0))] := hl
  unfold f_X7_count at h
  refine lv_aload_n hx hb dX7_count_0 rfl (lv_at hl 0 rfl) ?_
  obtain ⟨x_1, hx_1, h⟩ := ob_some h
  refine va_callv (va_runV (As := []) (rest := []) ⟨hx, hb, hml, hown, hts⟩ (c_X7_know l D cI cJ cZ q hq F I J a b x_1 hx_1) (cwV 0 hts gX7_count_X7_know rfl rfl rfl (by decide +kernel) (by rw [hR]; exact ⟨Nat.le_of_ble_eq_true rfl, Nat.le_of_ble_eq_true rfl⟩)) ⟨MUPc_blind, va_recv hK hP (ci := 7) (q0 := 0) rfl rfl, fun U hU hW => ⟨rfl, by rw [hU]; exact hP, va_K.moved hW.alike hK, trivial⟩⟩ rfl rfl hl.1 rfl (lv_room (Nat.le_of_ble_eq_true rfl)) dX7_count_1 ⟨Nat.zero_le _, Nat.zero_le _⟩) hS (fun _ _ h => h) (fun _ h => h) (fun u t H1 locs ht hvm hw hB hz1 hk1 hS => ?_)
  obtain rfl := hw.symm
  rw [ht] at hB
  have hP : va_P D vwCl (MUW cI cJ cZ q (fu (fu (fu (fu (fu (fu (fu I 8 x_1.1) 19 x_1.2.1) 20 x_1.2.2.1) 21 x_1.2.2.2.1) 22 x_1.2.2.2.2.1) 23 x_1.2.2.2.2.2.1) 24 x_1.2.2.2.2.2.2.1) (fu J 0 x_1.2.2.2.2.2.2.2.1) a (fu b 0 x_1.2.2.2.2.2.2.2.2)) H1 := hB
  clear hB hz1 hk1 ht hvm
  generalize H1 = H at hP hS ⊢
  refine lv_aload_n hx hb dX7_count_4 rfl (lv_at hl 0 rfl) ?_
  refine va_get (D := D) (ci := 7) (v := .int x_1.2.1) (C := RX7) (T := TX7) (N := 38) hx hb hts in_X7_count_X7 hown hK hP 0 rfl rfl 31 (by decide) (hts (.fieldLink RX7 118 "LearnedReasonsModel" "models" "I") (by decide +kernel)) (fun _ h9 => h9) rfl dX7_count_5 ?_
  have hx0 := Option.some.inj h
  rw [hQ]
  exact W.iret (v := x_1.2.1) hx hb hr (fun t ht hW => ⟨⟨x_1.2.1, (x_1.1, x_1.2.1, x_1.2.2.1, x_1.2.2.2.1, x_1.2.2.2.2.1, x_1.2.2.2.2.2.1, x_1.2.2.2.2.2.2.1, x_1.2.2.2.2.2.2.2.1, x_1.2.2.2.2.2.2.2.2), rfl, ⟨congrArg (fun z => z.1) hx0, congrArg (fun z => z.2) hx0⟩, by show va_P _ _ _ t.heap; rw [ht]; exact hP⟩, hS.F ht⟩) hS.2.2 dX7_count_8
theorem in_X7_fixed_X7 : ∀ w ∈ wsX70, w ∈ wsX7_fixed := by decide +kernel
set_option maxHeartbeats 4000000 in
set_option maxRecDepth 100000 in
theorem c_X7_fixed (l : Launch) (D : va_G) (cI cJ cZ : ClassId) (q : Nat → Nat) (hq : MUQ q) (F : Nat) (I : Nat → Int32) (J : Nat → Int64) (a : Nat → Nat → Int32) (b : Nat → Nat → Int64) (v1 : Int32) (x0 : Int32 × Int32 × Int32 × Int32 × Int32 × Int32 × Int32 × Int32 × Int64 × (Nat → Int64)) (h : f_X7_fixed F I J a b v1 = some x0) : Met l yX7_fixed wsX7_fixed ({ frames := 3, cells := 0, slots := 0, locals := 73 }) (MUPc D cI cJ cZ q I J a b [.ref (q 0), .int v1]) (va_Qi (fun (r : Int32) (u : Int32 × Int32 × Int32 × Int32 × Int32 × Int32 × Int32 × Int64 × (Nat → Int64)) => r = x0.1 ∧ u = x0.2) (fun (u : Int32 × Int32 × Int32 × Int32 × Int32 × Int32 × Int32 × Int64 × (Nat → Int64)) t => va_P D vwCl (MUW cI cJ cZ q (fu (fu (fu (fu (fu (fu (fu I 8 u.1) 19 u.2.1) 20 u.2.2.1) 21 u.2.2.2.1) 22 u.2.2.2.2.1) 23 u.2.2.2.2.2.1) 24 u.2.2.2.2.2.2.1) (fu J 0 u.2.2.2.2.2.2.2.1) a (fu b 0 u.2.2.2.2.2.2.2.2)) t.heap) (MUA q)) 0 0 (MUA q) := by
  refine mt_of (cc := cX7_fixed) (maxL := 2) (ret := (some .int)) (by decide) rfl ?_
  intro p e s m args below meth c s₁ B0 hml hv R Q hR hQ
  obtain ⟨hargs, hP, hK, hN⟩ := hv
  have hx := B0.exec
  have hb := B0.bytes
  have hr := B0.returns
  have hts := atoms_spec (ws := wsX7_fixed) B0.pre
  have hown : s.vm.findClass RX7 = some m.cls := findClass_of_methodNamed B0.named
  have hlocks := B0.notSynchronized
  have hS : va_S (MUA q) s.heap s.heap [] := va_S.rf
  have hl := lv_entry ([.ref (q 0), .int v1]) (n := 2) (Nat.le_of_ble_eq_true rfl)
  rw [hargs, lg_entry_eq]
  rw [← hargs]
  generalize (lg_sl ([.ref (q 0), .int v1]) ++ List.replicate (2 - (lg_sl ([.ref (q 0), .int v1])).length) Slot.unset).toArray = ls at hl ⊢
  have hl : lv_has ls 2 [(0, .ref (q 0)), (1, .int v1)] := hl
  unfold f_X7_fixed at h
  refine lv_aload_n hx hb dX7_fixed_0 rfl (lv_at hl 0 rfl) ?_
  refine lv_iload_n hx hb dX7_fixed_1 rfl (lv_at hl 1 rfl) ?_
  obtain ⟨x_1, hx_1, h⟩ := ob_some h
  refine va_calli (va_runV (As := [.int v1]) (rest := []) ⟨hx, hb, hml, hown, hts⟩ (c_X7_isName l D cI cJ cZ q hq F I J a b v1 x_1 hx_1) (cwV 1 hts gX7_fixed_X7_isName rfl rfl rfl (by decide +kernel) (by rw [hR]; exact ⟨Nat.le_of_ble_eq_true rfl, Nat.le_of_ble_eq_true rfl⟩)) ⟨MUPc_blind, va_recv hK hP (ci := 7) (q0 := 0) rfl rfl, fun U hU hW => ⟨rfl, by rw [hU]; exact hP, va_K.moved hW.alike hK, trivial⟩⟩ rfl rfl hl.1 rfl (lv_room (Nat.le_of_ble_eq_true rfl)) dX7_fixed_2 ⟨Nat.zero_le _, Nat.zero_le _⟩) hS (fun _ _ h => h) (fun _ h => h) (fun r u t H1 locs ht hvm hw hB hz1 hk1 hS => ?_)
  obtain rfl := hw.symm
  rw [ht] at hB
  have hP : va_P D vwCl (MUW cI cJ cZ q I J a b) H1 := hB
  clear hB hz1 hk1 ht hvm
  generalize H1 = H at hP hS ⊢
  refine lv_if_ne (tgt := 10) hx hb dX7_fixed_5 (by decide) (fun c_2 => ?_) (fun c_2 => ?_)
  · have h := if_f c_2 h
    refine lv_aload_n hx hb dX7_fixed_10 rfl (lv_at hl 0 rfl) ?_
    obtain ⟨x_3, hx_3, h⟩ := ob_some h
    refine va_callv (va_runV (As := []) (rest := []) ⟨hx, hb, hml, hown, hts⟩ (c_X7_know l D cI cJ cZ q hq F I J a b x_3 hx_3) (cwV 0 hts gX7_fixed_X7_know rfl rfl rfl (by decide +kernel) (by rw [hR]; exact ⟨Nat.le_of_ble_eq_true rfl, Nat.le_of_ble_eq_true rfl⟩)) ⟨MUPc_blind, va_recv hK hP (ci := 7) (q0 := 0) rfl rfl, fun U hU hW => ⟨rfl, by rw [hU]; exact hP, va_K.moved hW.alike hK, trivial⟩⟩ rfl rfl hl.1 rfl (lv_room (Nat.le_of_ble_eq_true rfl)) dX7_fixed_11 ⟨Nat.zero_le _, Nat.zero_le _⟩) hS (fun _ _ h => h) (fun _ h => h) (fun u t H1 locs ht hvm hw hB hz1 hk1 hS => ?_)
    obtain rfl := hw.symm
    rw [ht] at hB
    have hP : va_P D vwCl (MUW cI cJ cZ q (fu (fu (fu (fu (fu (fu (fu I 8 x_3.1) 19 x_3.2.1) 20 x_3.2.2.1) 21 x_3.2.2.2.1) 22 x_3.2.2.2.2.1) 23 x_3.2.2.2.2.2.1) 24 x_3.2.2.2.2.2.2.1) (fu J 0 x_3.2.2.2.2.2.2.2.1) a (fu b 0 x_3.2.2.2.2.2.2.2.2)) H1 := hB
    clear hB hz1 hk1 ht hvm
    generalize H1 = H at hP hS ⊢
    refine lv_aload_n hx hb dX7_fixed_14 rfl (lv_at hl 0 rfl) ?_
    refine va_get (D := D) (ci := 7) (v := .int x_3.2.1) (C := RX7) (T := TX7) (N := 38) hx hb hts in_X7_fixed_X7 hown hK hP 0 rfl rfl 31 (by decide) (hts (.fieldLink RX7 118 "LearnedReasonsModel" "models" "I") (by decide +kernel)) (fun _ h9 => h9) rfl dX7_fixed_15 ?_
    refine lv_if_ne (tgt := 26) hx hb dX7_fixed_18 (by decide) (fun c_4 => ?_) (fun c_4 => ?_)
    · have h := if_f c_4 h
      refine lv_aload_n hx hb dX7_fixed_26 rfl (lv_at hl 0 rfl) ?_
      refine va_get (D := D) (ci := 7) (v := .int x_3.2.2.1) (C := RX7) (T := TX7) (N := 38) hx hb hts in_X7_fixed_X7 hown hK hP 0 rfl rfl 32 (by decide) (hts (.fieldLink RX7 121 "LearnedReasonsModel" "inAll" "I") (by decide +kernel)) (fun _ h9 => h9) rfl dX7_fixed_27 ?_
      refine lv_iload_n hx hb dX7_fixed_30 rfl (lv_at hl 1 rfl) ?_
      refine lv_ishr hx hb dX7_fixed_31 ?_
      refine lv_iconst (v := 1) hx hb dX7_fixed_32 (by decide) ?_
      refine lv_iand hx hb dX7_fixed_33 ?_
      refine lv_iconst (v := 1) hx hb dX7_fixed_34 (by decide) ?_
      refine lv_icmp_ne (tgt := 42) hx hb dX7_fixed_35 (by decide) (fun c_5 => ?_) (fun c_5 => ?_)
      · have h := if_f c_5 h
        refine lv_aload_n hx hb dX7_fixed_42 rfl (lv_at hl 0 rfl) ?_
        refine va_get (D := D) (ci := 7) (v := .int x_3.2.2.2.1) (C := RX7) (T := TX7) (N := 38) hx hb hts in_X7_fixed_X7 hown hK hP 0 rfl rfl 33 (by decide) (hts (.fieldLink RX7 124 "LearnedReasonsModel" "inNone" "I") (by decide +kernel)) (fun _ h9 => h9) rfl dX7_fixed_43 ?_
        refine lv_iload_n hx hb dX7_fixed_46 rfl (lv_at hl 1 rfl) ?_
        refine lv_ishr hx hb dX7_fixed_47 ?_
        refine lv_iconst (v := 1) hx hb dX7_fixed_48 (by decide) ?_
        refine lv_iand hx hb dX7_fixed_49 ?_
        refine lv_iconst (v := 1) hx hb dX7_fixed_50 (by decide) ?_
        refine lv_icmp_ne (tgt := 58) hx hb dX7_fixed_51 (by decide) (fun c_6 => ?_) (fun c_6 => ?_)
        · have h := if_f c_6 h
          refine lv_iconst (v := 2) hx hb dX7_fixed_58 (by decide) ?_
          have hx0 := Option.some.inj h
          rw [hQ]
          exact W.iret (v := 2) hx hb hr (fun t ht hW => ⟨⟨2, (x_3.1, x_3.2.1, x_3.2.2.1, x_3.2.2.2.1, x_3.2.2.2.2.1, x_3.2.2.2.2.2.1, x_3.2.2.2.2.2.2.1, x_3.2.2.2.2.2.2.2.1, x_3.2.2.2.2.2.2.2.2), rfl, ⟨congrArg (fun z => z.1) hx0, congrArg (fun z => z.2) hx0⟩, by show va_P _ _ _ t.heap; rw [ht]; exact hP⟩, hS.F ht⟩) hS.2.2 dX7_fixed_59
        · have h := if_t c_6 h
          refine lv_iconst (v := 0) hx hb dX7_fixed_54 (by decide) ?_
          refine lv_goto (tgt := 59) hx hb dX7_fixed_55 (by decide) ?_
          have hx0 := Option.some.inj h
          rw [hQ]
          exact W.iret (v := 0) hx hb hr (fun t ht hW => ⟨⟨0, (x_3.1, x_3.2.1, x_3.2.2.1, x_3.2.2.2.1, x_3.2.2.2.2.1, x_3.2.2.2.2.2.1, x_3.2.2.2.2.2.2.1, x_3.2.2.2.2.2.2.2.1, x_3.2.2.2.2.2.2.2.2), rfl, ⟨congrArg (fun z => z.1) hx0, congrArg (fun z => z.2) hx0⟩, by show va_P _ _ _ t.heap; rw [ht]; exact hP⟩, hS.F ht⟩) hS.2.2 dX7_fixed_59
      · have h := if_t c_5 h
        refine lv_iconst (v := 1) hx hb dX7_fixed_38 (by decide) ?_
        refine lv_goto (tgt := 59) hx hb dX7_fixed_39 (by decide) ?_
        have hx0 := Option.some.inj h
        rw [hQ]
        exact W.iret (v := 1) hx hb hr (fun t ht hW => ⟨⟨1, (x_3.1, x_3.2.1, x_3.2.2.1, x_3.2.2.2.1, x_3.2.2.2.2.1, x_3.2.2.2.2.2.1, x_3.2.2.2.2.2.2.1, x_3.2.2.2.2.2.2.2.1, x_3.2.2.2.2.2.2.2.2), rfl, ⟨congrArg (fun z => z.1) hx0, congrArg (fun z => z.2) hx0⟩, by show va_P _ _ _ t.heap; rw [ht]; exact hP⟩, hS.F ht⟩) hS.2.2 dX7_fixed_59
    · have h := if_t c_4 h
      refine lv_bipush (v := (-3)) hx hb dX7_fixed_21 (by decide) ?_
      refine lv_goto (tgt := 59) hx hb dX7_fixed_23 (by decide) ?_
      have hx0 := Option.some.inj h
      rw [hQ]
      exact W.iret (v := (-3)) hx hb hr (fun t ht hW => ⟨⟨(-3), (x_3.1, x_3.2.1, x_3.2.2.1, x_3.2.2.2.1, x_3.2.2.2.2.1, x_3.2.2.2.2.2.1, x_3.2.2.2.2.2.2.1, x_3.2.2.2.2.2.2.2.1, x_3.2.2.2.2.2.2.2.2), rfl, ⟨congrArg (fun z => z.1) hx0, congrArg (fun z => z.2) hx0⟩, by show va_P _ _ _ t.heap; rw [ht]; exact hP⟩, hS.F ht⟩) hS.2.2 dX7_fixed_59
  · have h := if_t c_2 h
    refine lv_iconst (v := (-1)) hx hb dX7_fixed_8 (by decide) ?_
    have hx0 := Option.some.inj h
    rw [hQ]
    exact W.iret (v := (-1)) hx hb hr (fun t ht hW => ⟨⟨(-1), ((I 8), (I 19), (I 20), (I 21), (I 22), (I 23), (I 24), (J 0), (b 0)), rfl, ⟨congrArg (fun z => z.1) hx0, congrArg (fun z => z.2) hx0⟩, by show va_P _ _ _ t.heap; rw [ht]; exact hP⟩, hS.F ht⟩) hS.2.2 dX7_fixed_9
theorem in_X7_best_X7 : ∀ w ∈ wsX70, w ∈ wsX7_best := by decide +kernel
set_option maxHeartbeats 4000000 in
set_option maxRecDepth 100000 in
theorem c_X7_best (l : Launch) (D : va_G) (cI cJ cZ : ClassId) (q : Nat → Nat) (hq : MUQ q) (F : Nat) (I : Nat → Int32) (J : Nat → Int64) (a : Nat → Nat → Int32) (b : Nat → Nat → Int64) (x0 : Int32 × Int32 × Int32 × Int32 × Int32 × Int32 × Int32 × Int32 × Int64 × (Nat → Int64)) (h : f_X7_best F I J a b = some x0) : Met l yX7_best wsX7_best ({ frames := 3, cells := 0, slots := 0, locals := 73 }) (MUPc D cI cJ cZ q I J a b [.ref (q 0)]) (va_Qi (fun (r : Int32) (u : Int32 × Int32 × Int32 × Int32 × Int32 × Int32 × Int32 × Int64 × (Nat → Int64)) => r = x0.1 ∧ u = x0.2) (fun (u : Int32 × Int32 × Int32 × Int32 × Int32 × Int32 × Int32 × Int64 × (Nat → Int64)) t => va_P D vwCl (MUW cI cJ cZ q (fu (fu (fu (fu (fu (fu (fu I 8 u.1) 19 u.2.1) 20 u.2.2.1) 21 u.2.2.2.1) 22 u.2.2.2.2.1) 23 u.2.2.2.2.2.1) 24 u.2.2.2.2.2.2.1) (fu J 0 u.2.2.2.2.2.2.2.1) a (fu b 0 u.2.2.2.2.2.2.2.2)) t.heap) (MUA q)) 0 0 (MUA q) := by
  refine mt_of (cc := cX7_best) (maxL := 1) (ret := (some .int)) (by decide) rfl ?_
  intro p e s m args below meth c s₁ B0 hml hv R Q hR hQ
  obtain ⟨hargs, hP, hK, hN⟩ := hv
  have hx := B0.exec
  have hb := B0.bytes
  have hr := B0.returns
  have hts := atoms_spec (ws := wsX7_best) B0.pre
  have hown : s.vm.findClass RX7 = some m.cls := findClass_of_methodNamed B0.named
  have hlocks := B0.notSynchronized
  have hS : va_S (MUA q) s.heap s.heap [] := va_S.rf
  have hl := lv_entry ([.ref (q 0)]) (n := 1) (Nat.le_of_ble_eq_true rfl)
  rw [hargs, lg_entry_eq]
  rw [← hargs]
  generalize (lg_sl ([.ref (q 0)]) ++ List.replicate (1 - (lg_sl ([.ref (q 0)])).length) Slot.unset).toArray = ls at hl ⊢
  have hl : lv_has ls 1 [(0, .ref (q 0))] := hl
  unfold f_X7_best at h
  refine lv_aload_n hx hb dX7_best_0 rfl (lv_at hl 0 rfl) ?_
  obtain ⟨x_1, hx_1, h⟩ := ob_some h
  refine va_callv (va_runV (As := []) (rest := []) ⟨hx, hb, hml, hown, hts⟩ (c_X7_know l D cI cJ cZ q hq F I J a b x_1 hx_1) (cwV 0 hts gX7_best_X7_know rfl rfl rfl (by decide +kernel) (by rw [hR]; exact ⟨Nat.le_of_ble_eq_true rfl, Nat.le_of_ble_eq_true rfl⟩)) ⟨MUPc_blind, va_recv hK hP (ci := 7) (q0 := 0) rfl rfl, fun U hU hW => ⟨rfl, by rw [hU]; exact hP, va_K.moved hW.alike hK, trivial⟩⟩ rfl rfl hl.1 rfl (lv_room (Nat.le_of_ble_eq_true rfl)) dX7_best_1 ⟨Nat.zero_le _, Nat.zero_le _⟩) hS (fun _ _ h => h) (fun _ h => h) (fun u t H1 locs ht hvm hw hB hz1 hk1 hS => ?_)
  obtain rfl := hw.symm
  rw [ht] at hB
  have hP : va_P D vwCl (MUW cI cJ cZ q (fu (fu (fu (fu (fu (fu (fu I 8 x_1.1) 19 x_1.2.1) 20 x_1.2.2.1) 21 x_1.2.2.2.1) 22 x_1.2.2.2.2.1) 23 x_1.2.2.2.2.2.1) 24 x_1.2.2.2.2.2.2.1) (fu J 0 x_1.2.2.2.2.2.2.2.1) a (fu b 0 x_1.2.2.2.2.2.2.2.2)) H1 := hB
  clear hB hz1 hk1 ht hvm
  generalize H1 = H at hP hS ⊢
  refine lv_aload_n hx hb dX7_best_4 rfl (lv_at hl 0 rfl) ?_
  refine va_get (D := D) (ci := 7) (v := .int x_1.2.1) (C := RX7) (T := TX7) (N := 38) hx hb hts in_X7_best_X7 hown hK hP 0 rfl rfl 31 (by decide) (hts (.fieldLink RX7 118 "LearnedReasonsModel" "models" "I") (by decide +kernel)) (fun _ h9 => h9) rfl dX7_best_5 ?_
  refine lv_if_ne (tgt := 16) hx hb dX7_best_8 (by decide) (fun c_2 => ?_) (fun c_2 => ?_)
  · have h := if_f c_2 h
    refine lv_aload_n hx hb dX7_best_16 rfl (lv_at hl 0 rfl) ?_
    refine va_get (D := D) (ci := 7) (v := .int x_1.2.2.2.2.2.2.1) (C := RX7) (T := TX7) (N := 38) hx hb hts in_X7_best_X7 hown hK hP 0 rfl rfl 36 (by decide) (hts (.fieldLink RX7 136 "LearnedReasonsModel" "bestCost" "I") (by decide +kernel)) (fun _ h9 => h9) rfl dX7_best_17 ?_
    have hx0 := Option.some.inj h
    rw [hQ]
    exact W.iret (v := x_1.2.2.2.2.2.2.1) hx hb hr (fun t ht hW => ⟨⟨x_1.2.2.2.2.2.2.1, (x_1.1, x_1.2.1, x_1.2.2.1, x_1.2.2.2.1, x_1.2.2.2.2.1, x_1.2.2.2.2.2.1, x_1.2.2.2.2.2.2.1, x_1.2.2.2.2.2.2.2.1, x_1.2.2.2.2.2.2.2.2), rfl, ⟨congrArg (fun z => z.1) hx0, congrArg (fun z => z.2) hx0⟩, by show va_P _ _ _ t.heap; rw [ht]; exact hP⟩, hS.F ht⟩) hS.2.2 dX7_best_20
  · have h := if_t c_2 h
    refine lv_bipush (v := (-3)) hx hb dX7_best_11 (by decide) ?_
    refine lv_goto (tgt := 20) hx hb dX7_best_13 (by decide) ?_
    have hx0 := Option.some.inj h
    rw [hQ]
    exact W.iret (v := (-3)) hx hb hr (fun t ht hW => ⟨⟨(-3), (x_1.1, x_1.2.1, x_1.2.2.1, x_1.2.2.2.1, x_1.2.2.2.2.1, x_1.2.2.2.2.2.1, x_1.2.2.2.2.2.2.1, x_1.2.2.2.2.2.2.2.1, x_1.2.2.2.2.2.2.2.2), rfl, ⟨congrArg (fun z => z.1) hx0, congrArg (fun z => z.2) hx0⟩, by show va_P _ _ _ t.heap; rw [ht]; exact hP⟩, hS.F ht⟩) hS.2.2 dX7_best_20
theorem in_X7_bestValue_X7 : ∀ w ∈ wsX70, w ∈ wsX7_bestValue := by decide +kernel
set_option maxHeartbeats 4000000 in
set_option maxRecDepth 100000 in
theorem c_X7_bestValue (l : Launch) (D : va_G) (cI cJ cZ : ClassId) (q : Nat → Nat) (hq : MUQ q) (F : Nat) (I : Nat → Int32) (J : Nat → Int64) (a : Nat → Nat → Int32) (b : Nat → Nat → Int64) (v1 : Int32) (x0 : Int32 × Int32 × Int32 × Int32 × Int32 × Int32 × Int32 × Int32 × Int64 × (Nat → Int64)) (h : f_X7_bestValue F I J a b v1 = some x0) : Met l yX7_bestValue wsX7_bestValue ({ frames := 3, cells := 0, slots := 0, locals := 73 }) (MUPc D cI cJ cZ q I J a b [.ref (q 0), .int v1]) (va_Qi (fun (r : Int32) (u : Int32 × Int32 × Int32 × Int32 × Int32 × Int32 × Int32 × Int64 × (Nat → Int64)) => r = x0.1 ∧ u = x0.2) (fun (u : Int32 × Int32 × Int32 × Int32 × Int32 × Int32 × Int32 × Int64 × (Nat → Int64)) t => va_P D vwCl (MUW cI cJ cZ q (fu (fu (fu (fu (fu (fu (fu I 8 u.1) 19 u.2.1) 20 u.2.2.1) 21 u.2.2.2.1) 22 u.2.2.2.2.1) 23 u.2.2.2.2.2.1) 24 u.2.2.2.2.2.2.1) (fu J 0 u.2.2.2.2.2.2.2.1) a (fu b 0 u.2.2.2.2.2.2.2.2)) t.heap) (MUA q)) 0 0 (MUA q) := by
  refine mt_of (cc := cX7_bestValue) (maxL := 2) (ret := (some .int)) (by decide) rfl ?_
  intro p e s m args below meth c s₁ B0 hml hv R Q hR hQ
  obtain ⟨hargs, hP, hK, hN⟩ := hv
  have hx := B0.exec
  have hb := B0.bytes
  have hr := B0.returns
  have hts := atoms_spec (ws := wsX7_bestValue) B0.pre
  have hown : s.vm.findClass RX7 = some m.cls := findClass_of_methodNamed B0.named
  have hlocks := B0.notSynchronized
  have hS : va_S (MUA q) s.heap s.heap [] := va_S.rf
  have hl := lv_entry ([.ref (q 0), .int v1]) (n := 2) (Nat.le_of_ble_eq_true rfl)
  rw [hargs, lg_entry_eq]
  rw [← hargs]
  generalize (lg_sl ([.ref (q 0), .int v1]) ++ List.replicate (2 - (lg_sl ([.ref (q 0), .int v1])).length) Slot.unset).toArray = ls at hl ⊢
  have hl : lv_has ls 2 [(0, .ref (q 0)), (1, .int v1)] := hl
  unfold f_X7_bestValue at h
  refine lv_aload_n hx hb dX7_bestValue_0 rfl (lv_at hl 0 rfl) ?_
  refine lv_iload_n hx hb dX7_bestValue_1 rfl (lv_at hl 1 rfl) ?_
  obtain ⟨x_1, hx_1, h⟩ := ob_some h
  refine va_calli (va_runV (As := [.int v1]) (rest := []) ⟨hx, hb, hml, hown, hts⟩ (c_X7_isName l D cI cJ cZ q hq F I J a b v1 x_1 hx_1) (cwV 1 hts gX7_bestValue_X7_isName rfl rfl rfl (by decide +kernel) (by rw [hR]; exact ⟨Nat.le_of_ble_eq_true rfl, Nat.le_of_ble_eq_true rfl⟩)) ⟨MUPc_blind, va_recv hK hP (ci := 7) (q0 := 0) rfl rfl, fun U hU hW => ⟨rfl, by rw [hU]; exact hP, va_K.moved hW.alike hK, trivial⟩⟩ rfl rfl hl.1 rfl (lv_room (Nat.le_of_ble_eq_true rfl)) dX7_bestValue_2 ⟨Nat.zero_le _, Nat.zero_le _⟩) hS (fun _ _ h => h) (fun _ h => h) (fun r u t H1 locs ht hvm hw hB hz1 hk1 hS => ?_)
  obtain rfl := hw.symm
  rw [ht] at hB
  have hP : va_P D vwCl (MUW cI cJ cZ q I J a b) H1 := hB
  clear hB hz1 hk1 ht hvm
  generalize H1 = H at hP hS ⊢
  refine lv_if_ne (tgt := 10) hx hb dX7_bestValue_5 (by decide) (fun c_2 => ?_) (fun c_2 => ?_)
  · have h := if_f c_2 h
    refine lv_aload_n hx hb dX7_bestValue_10 rfl (lv_at hl 0 rfl) ?_
    obtain ⟨x_3, hx_3, h⟩ := ob_some h
    refine va_callv (va_runV (As := []) (rest := []) ⟨hx, hb, hml, hown, hts⟩ (c_X7_know l D cI cJ cZ q hq F I J a b x_3 hx_3) (cwV 0 hts gX7_bestValue_X7_know rfl rfl rfl (by decide +kernel) (by rw [hR]; exact ⟨Nat.le_of_ble_eq_true rfl, Nat.le_of_ble_eq_true rfl⟩)) ⟨MUPc_blind, va_recv hK hP (ci := 7) (q0 := 0) rfl rfl, fun U hU hW => ⟨rfl, by rw [hU]; exact hP, va_K.moved hW.alike hK, trivial⟩⟩ rfl rfl hl.1 rfl (lv_room (Nat.le_of_ble_eq_true rfl)) dX7_bestValue_11 ⟨Nat.zero_le _, Nat.zero_le _⟩) hS (fun _ _ h => h) (fun _ h => h) (fun u t H1 locs ht hvm hw hB hz1 hk1 hS => ?_)
    obtain rfl := hw.symm
    rw [ht] at hB
    have hP : va_P D vwCl (MUW cI cJ cZ q (fu (fu (fu (fu (fu (fu (fu I 8 x_3.1) 19 x_3.2.1) 20 x_3.2.2.1) 21 x_3.2.2.2.1) 22 x_3.2.2.2.2.1) 23 x_3.2.2.2.2.2.1) 24 x_3.2.2.2.2.2.2.1) (fu J 0 x_3.2.2.2.2.2.2.2.1) a (fu b 0 x_3.2.2.2.2.2.2.2.2)) H1 := hB
    clear hB hz1 hk1 ht hvm
    generalize H1 = H at hP hS ⊢
    refine lv_aload_n hx hb dX7_bestValue_14 rfl (lv_at hl 0 rfl) ?_
    refine va_get (D := D) (ci := 7) (v := .int x_3.2.1) (C := RX7) (T := TX7) (N := 38) hx hb hts in_X7_bestValue_X7 hown hK hP 0 rfl rfl 31 (by decide) (hts (.fieldLink RX7 118 "LearnedReasonsModel" "models" "I") (by decide +kernel)) (fun _ h9 => h9) rfl dX7_bestValue_15 ?_
    refine lv_if_ne (tgt := 26) hx hb dX7_bestValue_18 (by decide) (fun c_4 => ?_) (fun c_4 => ?_)
    · have h := if_f c_4 h
      refine lv_aload_n hx hb dX7_bestValue_26 rfl (lv_at hl 0 rfl) ?_
      refine lv_aload_n hx hb dX7_bestValue_27 rfl (lv_at hl 0 rfl) ?_
      refine va_get (D := D) (ci := 7) (v := .int x_3.2.2.2.2.2.1) (C := RX7) (T := TX7) (N := 38) hx hb hts in_X7_bestValue_X7 hown hK hP 0 rfl rfl 35 (by decide) (hts (.fieldLink RX7 139 "LearnedReasonsModel" "bestRow" "I") (by decide +kernel)) (fun _ h9 => h9) rfl dX7_bestValue_28 ?_
      refine lv_iload_n hx hb dX7_bestValue_31 rfl (lv_at hl 1 rfl) ?_
      obtain ⟨x_5, hx_5, h⟩ := ob_some h
      refine va_calli (va_runV (As := [.int x_3.2.2.2.2.2.1, .int v1]) (rest := []) ⟨hx, hb, hml, hown, hts⟩ (c_X7_isTrue l D cI cJ cZ q hq F (fu (fu (fu (fu (fu (fu (fu I 8 x_3.1) 19 x_3.2.1) 20 x_3.2.2.1) 21 x_3.2.2.2.1) 22 x_3.2.2.2.2.1) 23 x_3.2.2.2.2.2.1) 24 x_3.2.2.2.2.2.2.1) (fu J 0 x_3.2.2.2.2.2.2.2.1) a (fu b 0 x_3.2.2.2.2.2.2.2.2) x_3.2.2.2.2.2.1 v1 x_5 hx_5) (cwV 2 hts gX7_bestValue_X7_isTrue rfl rfl rfl (by decide +kernel) (by rw [hR]; exact ⟨Nat.le_of_ble_eq_true rfl, Nat.le_of_ble_eq_true rfl⟩)) ⟨MUPc_blind, va_recv hK hP (ci := 7) (q0 := 0) rfl rfl, fun U hU hW => ⟨rfl, by rw [hU]; exact hP, va_K.moved hW.alike hK, trivial⟩⟩ rfl rfl hl.1 rfl (lv_room (Nat.le_of_ble_eq_true rfl)) dX7_bestValue_32 ⟨Nat.zero_le _, Nat.zero_le _⟩) hS (fun _ _ h => h) (fun _ h => h) (fun r u t H1 locs ht hvm hw hB hz1 hk1 hS => ?_)
      obtain rfl := hw.symm
      rw [ht] at hB
      have hP : va_P D vwCl (MUW cI cJ cZ q (fu (fu (fu (fu (fu (fu (fu I 8 x_3.1) 19 x_3.2.1) 20 x_3.2.2.1) 21 x_3.2.2.2.1) 22 x_3.2.2.2.2.1) 23 x_3.2.2.2.2.2.1) 24 x_3.2.2.2.2.2.2.1) (fu J 0 x_3.2.2.2.2.2.2.2.1) a (fu b 0 x_3.2.2.2.2.2.2.2.2)) H1 := hB
      clear hB hz1 hk1 ht hvm
      generalize H1 = H at hP hS ⊢
      refine lv_if_eq (tgt := 42) hx hb dX7_bestValue_35 (by decide) (fun c_6 => ?_) (fun c_6 => ?_)
      · have h := if_t c_6 h
        refine lv_iconst (v := 0) hx hb dX7_bestValue_42 (by decide) ?_
        have hx0 := Option.some.inj h
        rw [hQ]
        exact W.iret (v := 0) hx hb hr (fun t ht hW => ⟨⟨0, (x_3.1, x_3.2.1, x_3.2.2.1, x_3.2.2.2.1, x_3.2.2.2.2.1, x_3.2.2.2.2.2.1, x_3.2.2.2.2.2.2.1, x_3.2.2.2.2.2.2.2.1, x_3.2.2.2.2.2.2.2.2), rfl, ⟨congrArg (fun z => z.1) hx0, congrArg (fun z => z.2) hx0⟩, by show va_P _ _ _ t.heap; rw [ht]; exact hP⟩, hS.F ht⟩) hS.2.2 dX7_bestValue_43
      · have h := if_f c_6 h
        refine lv_iconst (v := 1) hx hb dX7_bestValue_38 (by decide) ?_
        refine lv_goto (tgt := 43) hx hb dX7_bestValue_39 (by decide) ?_
        have hx0 := Option.some.inj h
        rw [hQ]
        exact W.iret (v := 1) hx hb hr (fun t ht hW => ⟨⟨1, (x_3.1, x_3.2.1, x_3.2.2.1, x_3.2.2.2.1, x_3.2.2.2.2.1, x_3.2.2.2.2.2.1, x_3.2.2.2.2.2.2.1, x_3.2.2.2.2.2.2.2.1, x_3.2.2.2.2.2.2.2.2), rfl, ⟨congrArg (fun z => z.1) hx0, congrArg (fun z => z.2) hx0⟩, by show va_P _ _ _ t.heap; rw [ht]; exact hP⟩, hS.F ht⟩) hS.2.2 dX7_bestValue_43
    · have h := if_t c_4 h
      refine lv_bipush (v := (-3)) hx hb dX7_bestValue_21 (by decide) ?_
      refine lv_goto (tgt := 43) hx hb dX7_bestValue_23 (by decide) ?_
      have hx0 := Option.some.inj h
      rw [hQ]
      exact W.iret (v := (-3)) hx hb hr (fun t ht hW => ⟨⟨(-3), (x_3.1, x_3.2.1, x_3.2.2.1, x_3.2.2.2.1, x_3.2.2.2.2.1, x_3.2.2.2.2.2.1, x_3.2.2.2.2.2.2.1, x_3.2.2.2.2.2.2.2.1, x_3.2.2.2.2.2.2.2.2), rfl, ⟨congrArg (fun z => z.1) hx0, congrArg (fun z => z.2) hx0⟩, by show va_P _ _ _ t.heap; rw [ht]; exact hP⟩, hS.F ht⟩) hS.2.2 dX7_bestValue_43
  · have h := if_t c_2 h
    refine lv_iconst (v := (-1)) hx hb dX7_bestValue_8 (by decide) ?_
    have hx0 := Option.some.inj h
    rw [hQ]
    exact W.iret (v := (-1)) hx hb hr (fun t ht hW => ⟨⟨(-1), ((I 8), (I 19), (I 20), (I 21), (I 22), (I 23), (I 24), (J 0), (b 0)), rfl, ⟨congrArg (fun z => z.1) hx0, congrArg (fun z => z.2) hx0⟩, by show va_P _ _ _ t.heap; rw [ht]; exact hP⟩, hS.F ht⟩) hS.2.2 dX7_bestValue_9
theorem in_X7_core_X7 : ∀ w ∈ wsX70, w ∈ wsX7_core := by decide +kernel
set_option maxHeartbeats 4000000 in
set_option maxRecDepth 100000 in
theorem c_X7_core (l : Launch) (D : va_G) (cI cJ cZ : ClassId) (q : Nat → Nat) (hq : MUQ q) (F : Nat) (I : Nat → Int32) (J : Nat → Int64) (a : Nat → Nat → Int32) (b : Nat → Nat → Int64) (v1 : Int32) (x0 : Int32 × Int32 × Int32 × Int32 × Int32 × Int32 × Int32 × Int32 × Int64 × (Nat → Int64)) (h : f_X7_core F I J a b v1 = some x0) : Met l yX7_core wsX7_core ({ frames := 3, cells := 0, slots := 0, locals := 73 }) (MUPc D cI cJ cZ q I J a b [.ref (q 0), .int v1]) (va_Qi (fun (r : Int32) (u : Int32 × Int32 × Int32 × Int32 × Int32 × Int32 × Int32 × Int64 × (Nat → Int64)) => r = x0.1 ∧ u = x0.2) (fun (u : Int32 × Int32 × Int32 × Int32 × Int32 × Int32 × Int32 × Int64 × (Nat → Int64)) t => va_P D vwCl (MUW cI cJ cZ q (fu (fu (fu (fu (fu (fu (fu I 8 u.1) 19 u.2.1) 20 u.2.2.1) 21 u.2.2.2.1) 22 u.2.2.2.2.1) 23 u.2.2.2.2.2.1) 24 u.2.2.2.2.2.2.1) (fu J 0 u.2.2.2.2.2.2.2.1) a (fu b 0 u.2.2.2.2.2.2.2.2)) t.heap) (MUA q)) 0 0 (MUA q) := by
  refine mt_of (cc := cX7_core) (maxL := 4) (ret := (some .int)) (by decide) rfl ?_
  intro p e s m args below meth c s₁ B0 hml hv R Q hR hQ
  obtain ⟨hargs, hP, hK, hN⟩ := hv
  have hx := B0.exec
  have hb := B0.bytes
  have hr := B0.returns
  have hts := atoms_spec (ws := wsX7_core) B0.pre
  have hown : s.vm.findClass RX7 = some m.cls := findClass_of_methodNamed B0.named
  have hlocks := B0.notSynchronized
  have hS : va_S (MUA q) s.heap s.heap [] := va_S.rf
  have hl := lv_entry ([.ref (q 0), .int v1]) (n := 4) (Nat.le_of_ble_eq_true rfl)
  rw [hargs, lg_entry_eq]
  rw [← hargs]
  generalize (lg_sl ([.ref (q 0), .int v1]) ++ List.replicate (4 - (lg_sl ([.ref (q 0), .int v1])).length) Slot.unset).toArray = ls at hl ⊢
  have hl : lv_has ls 4 [(0, .ref (q 0)), (1, .int v1)] := hl
  unfold f_X7_core at h
  have C18 : ∀ (n18 : Nat) (v2 : Int32) (v3 : Int32) (I8 : Int32) (I19 : Int32) (I20 : Int32) (I21 : Int32) (I22 : Int32) (I23 : Int32) (I24 : Int32) (J0 : Int64) (b0 : Nat → Int64), k_X7_core_18 F I J a b n18 v2 v3 I8 I19 I20 I21 I22 I23 I24 J0 b0 = some x0 → ∀ (H : Heap) (locs : List Loc), va_P D vwCl (MUW cI cJ cZ q (fu (fu (fu (fu (fu (fu (fu I 8 I8) 19 I19) 20 I20) 21 I21) 22 I22) 23 I23) 24 I24) (fu J 0 J0) a (fu b 0 b0)) H → va_S (MUA q) s.heap H locs → ∀ ls : Array Slot, lv_has ls 4 [(0, .ref (q 0)), (2, .int v2), (3, .int v3)] → W p l e R s m args below meth c H locs 0 0 Q (F0 m 18 ls []) := by
    intro n18
    induction n18 with
    | zero => intro v2 v3 I8 I19 I20 I21 I22 I23 I24 J0 b0 h; rw [k_X7_core_18] at h; cases h
    | succ n18 ih18 =>
      intro v2 v3 I8 I19 I20 I21 I22 I23 I24 J0 b0 h H locs hP hS ls hl
      rw [k_X7_core_18] at h
      refine lv_iload_n hx hb dX7_core_18 rfl (lv_at hl 2 rfl) ?_
      refine lv_aload_n hx hb dX7_core_19 rfl (lv_at hl 0 rfl) ?_
      refine va_get (D := D) (ci := 7) (v := .int (I 1)) (C := RX7) (T := TX7) (N := 38) hx hb hts in_X7_core_X7 hown hK hP 0 rfl rfl 1 (by decide) (hts (.fieldLink RX7 66 "LearnedReasonsModel" "things" "I") (by decide +kernel)) (fun _ h9 => h9) rfl dX7_core_20 ?_
      refine lv_icmp_ge (tgt := 54) hx hb dX7_core_23 (by decide) (fun c_1 => ?_) (fun c_1 => ?_)
      · have h := if_t c_1 h
        refine lv_iconst (v := (-1)) hx hb dX7_core_54 (by decide) ?_
        have hx0 := Option.some.inj h
        rw [hQ]
        exact W.iret (v := (-1)) hx hb hr (fun t ht hW => ⟨⟨(-1), (I8, I19, I20, I21, I22, I23, I24, J0, b0), rfl, ⟨congrArg (fun z => z.1) hx0, congrArg (fun z => z.2) hx0⟩, by show va_P _ _ _ t.heap; rw [ht]; exact hP⟩, hS.F ht⟩) hS.2.2 dX7_core_55
      · have h := if_f c_1 h
        refine lv_aload_n hx hb dX7_core_26 rfl (lv_at hl 0 rfl) ?_
        refine va_get (D := D) (ci := 7) (v := .long J0) (C := RX7) (T := TX7) (N := 38) hx hb hts in_X7_core_X7 hown hK hP 0 rfl rfl 37 (by decide) (hts (.fieldLink RX7 142 "LearnedReasonsModel" "core" "J") (by decide +kernel)) (fun _ h9 => h9) rfl dX7_core_27 ?_
        refine lv_iload_n hx hb dX7_core_30 rfl (lv_at hl 2 rfl) ?_
        refine lv_lshr hx hb dX7_core_31 rfl ?_
        refine lv_lconst (v := 1) hx hb dX7_core_32 (by decide) ?_
        refine lv_land hx hb dX7_core_33 ?_
        refine lv_lconst (v := 1) hx hb dX7_core_34 (by decide) ?_
        refine W.lcmp hx hb dX7_core_35 ?_
        refine lv_if_ne (tgt := 48) hx hb dX7_core_36 (by decide) (fun c_2 => ?_) (fun c_2 => ?_)
        · have h := if_f c_2 h
          refine lv_iinc (v := v3 + 1) (lv' := [(3, .int (v3 + 1)), (0, .ref (q 0)), (2, .int v2)]) hx hb dX7_core_48 hl (k := 2) rfl rfl (by decide) rfl (fun ls hl => ?_)
          refine lv_goto (tgt := 18) hx hb dX7_core_51 (by decide) ?_
          exact ih18 v2 (v3 + 1) I8 I19 I20 I21 I22 I23 I24 J0 b0 h _ _ hP hS ls (lv_sub hl [1, 2, 0] rfl)
        · have h := if_t c_2 h
          refine lv_iload_n hx hb dX7_core_39 rfl (lv_at hl 1 rfl) ?_
          refine lv_if_ne (tgt := 45) hx hb dX7_core_40 (by decide) (fun c_3 => ?_) (fun c_3 => ?_)
          · have h := if_f c_3 h
            refine lv_iinc (v := v2 + (-1)) (lv' := [(2, .int (v2 + (-1))), (0, .ref (q 0)), (3, .int v3)]) hx hb dX7_core_45 hl (k := 1) rfl rfl (by decide) rfl (fun ls hl => ?_)
            refine lv_iinc (v := v3 + 1) (lv' := [(3, .int (v3 + 1)), (2, .int (v2 + (-1))), (0, .ref (q 0))]) hx hb dX7_core_48 hl (k := 2) rfl rfl (by decide) rfl (fun ls hl => ?_)
            refine lv_goto (tgt := 18) hx hb dX7_core_51 (by decide) ?_
            exact ih18 (v2 + (-1)) (v3 + 1) I8 I19 I20 I21 I22 I23 I24 J0 b0 h _ _ hP hS ls (lv_sub hl [2, 1, 0] rfl)
          · have h := if_t c_3 h
            refine lv_iload_n hx hb dX7_core_43 rfl (lv_at hl 2 rfl) ?_
            have hx0 := Option.some.inj h
            rw [hQ]
            exact W.iret (v := v3) hx hb hr (fun t ht hW => ⟨⟨v3, (I8, I19, I20, I21, I22, I23, I24, J0, b0), rfl, ⟨congrArg (fun z => z.1) hx0, congrArg (fun z => z.2) hx0⟩, by show va_P _ _ _ t.heap; rw [ht]; exact hP⟩, hS.F ht⟩) hS.2.2 dX7_core_44
  refine lv_aload_n hx hb dX7_core_0 rfl (lv_at hl 0 rfl) ?_
  obtain ⟨x_4, hx_4, h⟩ := ob_some h
  refine va_callv (va_runV (As := []) (rest := []) ⟨hx, hb, hml, hown, hts⟩ (c_X7_know l D cI cJ cZ q hq F I J a b x_4 hx_4) (cwV 0 hts gX7_core_X7_know rfl rfl rfl (by decide +kernel) (by rw [hR]; exact ⟨Nat.le_of_ble_eq_true rfl, Nat.le_of_ble_eq_true rfl⟩)) ⟨MUPc_blind, va_recv hK hP (ci := 7) (q0 := 0) rfl rfl, fun U hU hW => ⟨rfl, by rw [hU]; exact hP, va_K.moved hW.alike hK, trivial⟩⟩ rfl rfl hl.1 rfl (lv_room (Nat.le_of_ble_eq_true rfl)) dX7_core_1 ⟨Nat.zero_le _, Nat.zero_le _⟩) hS (fun _ _ h => h) (fun _ h => h) (fun u t H1 locs ht hvm hw hB hz1 hk1 hS => ?_)
  obtain rfl := hw.symm
  rw [ht] at hB
  have hP : va_P D vwCl (MUW cI cJ cZ q (fu (fu (fu (fu (fu (fu (fu I 8 x_4.1) 19 x_4.2.1) 20 x_4.2.2.1) 21 x_4.2.2.2.1) 22 x_4.2.2.2.2.1) 23 x_4.2.2.2.2.2.1) 24 x_4.2.2.2.2.2.2.1) (fu J 0 x_4.2.2.2.2.2.2.2.1) a (fu b 0 x_4.2.2.2.2.2.2.2.2)) H1 := hB
  clear hB hz1 hk1 ht hvm
  generalize H1 = H at hP hS ⊢
  refine lv_aload_n hx hb dX7_core_4 rfl (lv_at hl 0 rfl) ?_
  refine va_get (D := D) (ci := 7) (v := .int x_4.2.1) (C := RX7) (T := TX7) (N := 38) hx hb hts in_X7_core_X7 hown hK hP 0 rfl rfl 31 (by decide) (hts (.fieldLink RX7 118 "LearnedReasonsModel" "models" "I") (by decide +kernel)) (fun _ h9 => h9) rfl dX7_core_5 ?_
  refine lv_if_le (tgt := 14) hx hb dX7_core_8 (by decide) (fun c_5 => ?_) (fun c_5 => ?_)
  · have h := if_t c_5 h
    refine lv_iload_n hx hb dX7_core_14 rfl (lv_at hl 1 rfl) ?_
    refine lv_istore_n (lv' := [(2, .int v1), (0, .ref (q 0)), (1, .int v1)]) hx hb dX7_core_15 rfl hl (by decide) rfl (fun ls hl => ?_)
    refine lv_iconst (v := 0) hx hb dX7_core_16 (by decide) ?_
    refine lv_istore_n (lv' := [(3, .int 0), (2, .int v1), (0, .ref (q 0)), (1, .int v1)]) hx hb dX7_core_17 rfl hl (by decide) rfl (fun ls hl => ?_)
    exact C18 F v1 0 x_4.1 x_4.2.1 x_4.2.2.1 x_4.2.2.2.1 x_4.2.2.2.2.1 x_4.2.2.2.2.2.1 x_4.2.2.2.2.2.2.1 x_4.2.2.2.2.2.2.2.1 x_4.2.2.2.2.2.2.2.2 h _ _ hP hS ls (lv_sub hl [2, 1, 0] rfl)
  · have h := if_f c_5 h
    refine lv_bipush (v := (-2)) hx hb dX7_core_11 (by decide) ?_
    have hx0 := Option.some.inj h
    rw [hQ]
    exact W.iret (v := (-2)) hx hb hr (fun t ht hW => ⟨⟨(-2), (x_4.1, x_4.2.1, x_4.2.2.1, x_4.2.2.2.1, x_4.2.2.2.2.1, x_4.2.2.2.2.2.1, x_4.2.2.2.2.2.2.1, x_4.2.2.2.2.2.2.2.1, x_4.2.2.2.2.2.2.2.2), rfl, ⟨congrArg (fun z => z.1) hx0, congrArg (fun z => z.2) hx0⟩, by show va_P _ _ _ t.heap; rw [ht]; exact hP⟩, hS.F ht⟩) hS.2.2 dX7_core_13
