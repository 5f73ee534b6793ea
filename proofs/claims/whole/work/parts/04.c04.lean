theorem in_X2_howMany_X2 : ∀ w ∈ wsX20, w ∈ wsX2_howMany := by decide +kernel
set_option maxHeartbeats 4000000 in
set_option maxRecDepth 100000 in
theorem c_X2_howMany (l : Launch) (D : va_G) (cI cJ : ClassId) (q : Nat → Nat) (hq : CUQ q) (F : Nat) (I : Nat → Int32) (J : Nat → Int64) (a : Nat → Nat → Int32) (b : Nat → Nat → Int64) (x0 : Int32) (h : f_X2_howMany F I J a b = some x0) : Met l yX2_howMany wsX2_howMany ({ frames := 0, cells := 0, slots := 0, locals := 0 }) (CUPc D cI cJ q I J a b [.ref (q 2)]) (va_Qi (fun (r : Int32) (u : Unit) => r = x0) (fun (u : Unit) t => va_P D vwCl (CUW cI cJ q I J a b) t.heap) (CUA q)) 0 0 (CUA q) := by
  refine mt_of (cc := cX2_howMany) (maxL := 1) (ret := (some .int)) (by decide) rfl ?_
  intro p e s m args below meth c s₁ B0 hml hv R Q hR hQ
  obtain ⟨hargs, hP, hK, hN⟩ := hv
  have hx := B0.exec
  have hb := B0.bytes
  have hr := B0.returns
  have hts := atoms_spec (ws := wsX2_howMany) B0.pre
  have hown : s.vm.findClass RX2 = some m.cls := findClass_of_methodNamed B0.named
  have hlocks := B0.notSynchronized
  have hS : va_S (CUA q) s.heap s.heap [] := va_S.rf
  have hl := lv_entry ([.ref (q 2)]) (n := 1) (Nat.le_of_ble_eq_true rfl)
  rw [hargs, lg_entry_eq]
  rw [← hargs]
  generalize (lg_sl ([.ref (q 2)]) ++ List.replicate (1 - (lg_sl ([.ref (q 2)])).length) Slot.unset).toArray = ls at hl ⊢
  have hl : lv_has ls 1 [(0, .ref (q 2))] := hl
  unfold f_X2_howMany at h
  refine lv_aload_n hx hb dX2_howMany_0 rfl (lv_at hl 0 rfl) ?_
  refine va_get (D := D) (ci := 2) (v := .int (I 6)) (C := RX2) (T := TX2) (N := 3) hx hb hts in_X2_howMany_X2 hown hK hP 2 rfl rfl 0 (by decide) (hts (.fieldLink RX2 18 "LearnedReasons$Lemmas" "size" "I") (by decide +kernel)) (fun _ h9 => h9) rfl dX2_howMany_1 ?_
  have hx0 := Option.some.inj h
  rw [hQ]
  exact W.iret (v := I 6) hx hb hr (fun t ht hW => ⟨⟨(I 6), (), rfl, hx0, by show va_P _ _ _ t.heap; rw [ht]; exact hP⟩, hS.F ht⟩) hS.2.2 dX2_howMany_4
theorem in_X2_wantedTrue_X2 : ∀ w ∈ wsX20, w ∈ wsX2_wantedTrue := by decide +kernel
set_option maxHeartbeats 4000000 in
set_option maxRecDepth 100000 in
theorem c_X2_wantedTrue (l : Launch) (D : va_G) (cI cJ : ClassId) (q : Nat → Nat) (hq : CUQ q) (F : Nat) (I : Nat → Int32) (J : Nat → Int64) (a : Nat → Nat → Int32) (b : Nat → Nat → Int64) (v1 : Int32) (x0 : Int32) (h : f_X2_wantedTrue F I J a b v1 = some x0) : Met l yX2_wantedTrue wsX2_wantedTrue ({ frames := 0, cells := 0, slots := 0, locals := 0 }) (CUPc D cI cJ q I J a b [.ref (q 2), .int v1]) (va_Qi (fun (r : Int32) (u : Unit) => r = x0) (fun (u : Unit) t => va_P D vwCl (CUW cI cJ q I J a b) t.heap) (CUA q)) 0 0 (CUA q) := by
  refine mt_of (cc := cX2_wantedTrue) (maxL := 2) (ret := (some .int)) (by decide) rfl ?_
  intro p e s m args below meth c s₁ B0 hml hv R Q hR hQ
  obtain ⟨hargs, hP, hK, hN⟩ := hv
  have hx := B0.exec
  have hb := B0.bytes
  have hr := B0.returns
  have hts := atoms_spec (ws := wsX2_wantedTrue) B0.pre
  have hown : s.vm.findClass RX2 = some m.cls := findClass_of_methodNamed B0.named
  have hlocks := B0.notSynchronized
  have hS : va_S (CUA q) s.heap s.heap [] := va_S.rf
  have hl := lv_entry ([.ref (q 2), .int v1]) (n := 2) (Nat.le_of_ble_eq_true rfl)
  rw [hargs, lg_entry_eq]
  rw [← hargs]
  generalize (lg_sl ([.ref (q 2), .int v1]) ++ List.replicate (2 - (lg_sl ([.ref (q 2), .int v1])).length) Slot.unset).toArray = ls at hl ⊢
  have hl : lv_has ls 2 [(0, .ref (q 2)), (1, .int v1)] := hl
  unfold f_X2_wantedTrue at h
  refine lv_aload_n hx hb dX2_wantedTrue_0 rfl (lv_at hl 0 rfl) ?_
  refine va_get (D := D) (ci := 2) (v := .ref (q 11)) (C := RX2) (T := TX2) (N := 3) hx hb hts in_X2_wantedTrue_X2 hown hK hP 2 rfl rfl 1 (by decide) (hts (.fieldLink RX2 9 "LearnedReasons$Lemmas" "wantTrue" "[I") (by decide +kernel)) (fun _ h9 => h9) rfl dX2_wantedTrue_1 ?_
  refine lv_iload_n hx hb dX2_wantedTrue_4 rfl (lv_at hl 1 rfl) ?_
  obtain ⟨g_1, h⟩ := gd_some h
  refine va_iald hx hb hK hP 11 0 rfl rfl g_1 dX2_wantedTrue_5 ?_
  have hx0 := Option.some.inj h
  rw [hQ]
  exact W.iret (v := (a 4) v1.toNatClampNeg) hx hb hr (fun t ht hW => ⟨⟨((a 4) v1.toNatClampNeg), (), rfl, hx0, by show va_P _ _ _ t.heap; rw [ht]; exact hP⟩, hS.F ht⟩) hS.2.2 dX2_wantedTrue_6
theorem in_X2_wantedFalse_X2 : ∀ w ∈ wsX20, w ∈ wsX2_wantedFalse := by decide +kernel
set_option maxHeartbeats 4000000 in
set_option maxRecDepth 100000 in
theorem c_X2_wantedFalse (l : Launch) (D : va_G) (cI cJ : ClassId) (q : Nat → Nat) (hq : CUQ q) (F : Nat) (I : Nat → Int32) (J : Nat → Int64) (a : Nat → Nat → Int32) (b : Nat → Nat → Int64) (v1 : Int32) (x0 : Int32) (h : f_X2_wantedFalse F I J a b v1 = some x0) : Met l yX2_wantedFalse wsX2_wantedFalse ({ frames := 0, cells := 0, slots := 0, locals := 0 }) (CUPc D cI cJ q I J a b [.ref (q 2), .int v1]) (va_Qi (fun (r : Int32) (u : Unit) => r = x0) (fun (u : Unit) t => va_P D vwCl (CUW cI cJ q I J a b) t.heap) (CUA q)) 0 0 (CUA q) := by
  refine mt_of (cc := cX2_wantedFalse) (maxL := 2) (ret := (some .int)) (by decide) rfl ?_
  intro p e s m args below meth c s₁ B0 hml hv R Q hR hQ
  obtain ⟨hargs, hP, hK, hN⟩ := hv
  have hx := B0.exec
  have hb := B0.bytes
  have hr := B0.returns
  have hts := atoms_spec (ws := wsX2_wantedFalse) B0.pre
  have hown : s.vm.findClass RX2 = some m.cls := findClass_of_methodNamed B0.named
  have hlocks := B0.notSynchronized
  have hS : va_S (CUA q) s.heap s.heap [] := va_S.rf
  have hl := lv_entry ([.ref (q 2), .int v1]) (n := 2) (Nat.le_of_ble_eq_true rfl)
  rw [hargs, lg_entry_eq]
  rw [← hargs]
  generalize (lg_sl ([.ref (q 2), .int v1]) ++ List.replicate (2 - (lg_sl ([.ref (q 2), .int v1])).length) Slot.unset).toArray = ls at hl ⊢
  have hl : lv_has ls 2 [(0, .ref (q 2)), (1, .int v1)] := hl
  unfold f_X2_wantedFalse at h
  refine lv_aload_n hx hb dX2_wantedFalse_0 rfl (lv_at hl 0 rfl) ?_
  refine va_get (D := D) (ci := 2) (v := .ref (q 12)) (C := RX2) (T := TX2) (N := 3) hx hb hts in_X2_wantedFalse_X2 hown hK hP 2 rfl rfl 2 (by decide) (hts (.fieldLink RX2 15 "LearnedReasons$Lemmas" "wantFalse" "[I") (by decide +kernel)) (fun _ h9 => h9) rfl dX2_wantedFalse_1 ?_
  refine lv_iload_n hx hb dX2_wantedFalse_4 rfl (lv_at hl 1 rfl) ?_
  obtain ⟨g_1, h⟩ := gd_some h
  refine va_iald hx hb hK hP 12 0 rfl rfl g_1 dX2_wantedFalse_5 ?_
  have hx0 := Option.some.inj h
  rw [hQ]
  exact W.iret (v := (a 5) v1.toNatClampNeg) hx hb hr (fun t ht hW => ⟨⟨((a 5) v1.toNatClampNeg), (), rfl, hx0, by show va_P _ _ _ t.heap; rw [ht]; exact hP⟩, hS.F ht⟩) hS.2.2 dX2_wantedFalse_6
theorem in_X0_followLemmas_X0 : ∀ w ∈ wsX00, w ∈ wsX0_followLemmas := by decide +kernel
set_option maxHeartbeats 4000000 in
set_option maxRecDepth 100000 in
theorem c_X0_followLemmas (l : Launch) (D : va_G) (cI cJ : ClassId) (q : Nat → Nat) (hq : CUQ q) (F : Nat) (I : Nat → Int32) (J : Nat → Int64) (a : Nat → Nat → Int32) (b : Nat → Nat → Int64) (x0 : Int32 × Int32 × Int32) (h : f_X0_followLemmas F I J a b = some x0) : Met l yX0_followLemmas wsX0_followLemmas ({ frames := 3, cells := 0, slots := 0, locals := 66 }) (CUPc D cI cJ q I J a b [.ref (q 4)]) (va_Qv (fun (u : Int32 × Int32 × Int32) => u = x0) (fun (u : Int32 × Int32 × Int32) t => va_P D vwCl (CUW cI cJ q (fu (fu (fu I 8 u.1) 9 u.2.1) 10 u.2.2) J a b) t.heap) (CUA q)) 0 0 (CUA q) := by
  refine mt_of (cc := cX0_followLemmas) (maxL := 3) (ret := none) (by decide) rfl ?_
  intro p e s m args below meth c s₁ B0 hml hv R Q hR hQ
  obtain ⟨hargs, hP, hK, hN⟩ := hv
  have hx := B0.exec
  have hb := B0.bytes
  have hr := B0.returns
  have hts := atoms_spec (ws := wsX0_followLemmas) B0.pre
  have hown : s.vm.findClass RX0 = some m.cls := findClass_of_methodNamed B0.named
  have hlocks := B0.notSynchronized
  have hS : va_S (CUA q) s.heap s.heap [] := va_S.rf
  have hl := lv_entry ([.ref (q 4)]) (n := 3) (Nat.le_of_ble_eq_true rfl)
  rw [hargs, lg_entry_eq]
  rw [← hargs]
  generalize (lg_sl ([.ref (q 4)]) ++ List.replicate (3 - (lg_sl ([.ref (q 4)])).length) Slot.unset).toArray = ls at hl ⊢
  have hl : lv_has ls 3 [(0, .ref (q 4))] := hl
  unfold f_X0_followLemmas at h
  have C10 : ∀ (n10 : Nat) (v1 : Int32) (v2 : Int32) (I8 : Int32) (I9 : Int32) (I10 : Int32), k_X0_followLemmas_10 F I J a b n10 v1 v2 I8 I9 I10 = some x0 → ∀ (H : Heap) (locs : List Loc), va_P D vwCl (CUW cI cJ q (fu (fu (fu I 8 I8) 9 I9) 10 I10) J a b) H → va_S (CUA q) s.heap H locs → ∀ ls : Array Slot, lv_has ls 3 [(0, .ref (q 4)), (1, .int v1), (2, .int v2)] → W p l e R s m args below meth c H locs 0 0 Q (F0 m 10 ls []) := by
    intro n10
    induction n10 with
    | zero => intro v1 v2 I8 I9 I10 h; rw [k_X0_followLemmas_10] at h; cases h
    | succ n10 ih10 =>
      intro v1 v2 I8 I9 I10 h H locs hP hS ls hl
      rw [k_X0_followLemmas_10] at h
      refine lv_iload_n hx hb dX0_followLemmas_10 rfl (lv_at hl 2 rfl) ?_
      refine lv_iload_n hx hb dX0_followLemmas_11 rfl (lv_at hl 1 rfl) ?_
      refine lv_icmp_ge (tgt := 48) hx hb dX0_followLemmas_12 (by decide) (fun c_1 => ?_) (fun c_1 => ?_)
      · have h := if_t c_1 h
        have hx0 := Option.some.inj h
        rw [hQ]
        exact W.vret hx hb hr (fun t ht hW => ⟨⟨(I8, I9, I10), rfl, hx0, by show va_P _ _ _ t.heap; rw [ht]; exact hP⟩, hS.F ht⟩) hS.2.2 dX0_followLemmas_48
      · have h := if_f c_1 h
        refine lv_aload_n hx hb dX0_followLemmas_15 rfl (lv_at hl 0 rfl) ?_
        refine va_get (D := D) (ci := 0) (v := .int I10) (C := RX0) (T := TX0) (N := 6) hx hb hts in_X0_followLemmas_X0 hown hK hP 4 rfl rfl 5 (by decide) (hts (.fieldLink RX0 30 "LearnedReasons$AtOnce" "clash" "Z") (by decide +kernel)) (fun _ h9 => h9) rfl dX0_followLemmas_16 ?_
        refine lv_if_ne (tgt := 48) hx hb dX0_followLemmas_19 (by decide) (fun c_2 => ?_) (fun c_2 => ?_)
        · have h := if_f c_2 h
          have hx0 := Option.some.inj h
          rw [hQ]
          exact W.vret hx hb hr (fun t ht hW => ⟨⟨(I8, I9, I10), rfl, hx0, by show va_P _ _ _ t.heap; rw [ht]; exact hP⟩, hS.F ht⟩) hS.2.2 dX0_followLemmas_48
        · have h := if_t c_2 h
          refine lv_aload_n hx hb dX0_followLemmas_22 rfl (lv_at hl 0 rfl) ?_
          refine lv_aload_n hx hb dX0_followLemmas_23 rfl (lv_at hl 0 rfl) ?_
          refine va_get (D := D) (ci := 0) (v := .ref (q 2)) (C := RX0) (T := TX0) (N := 6) hx hb hts in_X0_followLemmas_X0 hown hK hP 4 rfl rfl 1 (by decide) (hts (.fieldLink RX0 15 "LearnedReasons$AtOnce" "heldLemmas" "LLearnedReasons$Lemmas;") (by decide +kernel)) (fun _ h9 => h9) rfl dX0_followLemmas_24 ?_
          refine lv_iload_n hx hb dX0_followLemmas_27 rfl (lv_at hl 2 rfl) ?_
          obtain ⟨x_3, hx_3, h⟩ := ob_some h
          refine va_calli (va_runV (As := [.int v2]) (rest := [.ref (q 4)]) ⟨hx, hb, hml, hown, hts⟩ (c_X2_wantedTrue l D cI cJ q hq F (fu (fu (fu I 8 I8) 9 I9) 10 I10) J a b v2 x_3 hx_3) (cwV 1 hts gX0_followLemmas_X2_wantedTrue rfl rfl rfl (by decide +kernel) (by rw [hR]; exact ⟨Nat.le_of_ble_eq_true rfl, Nat.le_of_ble_eq_true rfl⟩)) ⟨CUPc_blind, va_recv hK hP (ci := 2) (q0 := 2) rfl rfl, fun U hU hW => ⟨rfl, by rw [hU]; exact hP, va_K.moved hW.alike hK, va_Nw.warmM hW hN⟩⟩ rfl rfl hl.1 rfl (lv_room (Nat.le_of_ble_eq_true rfl)) dX0_followLemmas_28 ⟨Nat.zero_le _, Nat.zero_le _⟩) hS (fun _ _ h => h) (fun _ h => h) (fun r u t H1 locs ht hvm hw hB hz1 hk1 hS => ?_)
          obtain rfl := hw.symm
          rw [ht] at hB
          have hP : va_P D vwCl (CUW cI cJ q (fu (fu (fu I 8 I8) 9 I9) 10 I10) J a b) H1 := hB
          clear hB hz1 hk1 ht hvm
          generalize H1 = H at hP hS ⊢
          refine lv_aload_n hx hb dX0_followLemmas_31 rfl (lv_at hl 0 rfl) ?_
          refine va_get (D := D) (ci := 0) (v := .ref (q 2)) (C := RX0) (T := TX0) (N := 6) hx hb hts in_X0_followLemmas_X0 hown hK hP 4 rfl rfl 1 (by decide) (hts (.fieldLink RX0 15 "LearnedReasons$AtOnce" "heldLemmas" "LLearnedReasons$Lemmas;") (by decide +kernel)) (fun _ h9 => h9) rfl dX0_followLemmas_32 ?_
          refine lv_iload_n hx hb dX0_followLemmas_35 rfl (lv_at hl 2 rfl) ?_
          obtain ⟨x_4, hx_4, h⟩ := ob_some h
          refine va_calli (va_runV (As := [.int v2]) (rest := [.int x_3, .ref (q 4)]) ⟨hx, hb, hml, hown, hts⟩ (c_X2_wantedFalse l D cI cJ q hq F (fu (fu (fu I 8 I8) 9 I9) 10 I10) J a b v2 x_4 hx_4) (cwV 1 hts gX0_followLemmas_X2_wantedFalse rfl rfl rfl (by decide +kernel) (by rw [hR]; exact ⟨Nat.le_of_ble_eq_true rfl, Nat.le_of_ble_eq_true rfl⟩)) ⟨CUPc_blind, va_recv hK hP (ci := 2) (q0 := 2) rfl rfl, fun U hU hW => ⟨rfl, by rw [hU]; exact hP, va_K.moved hW.alike hK, va_Nw.warmM hW hN⟩⟩ rfl rfl hl.1 rfl (lv_room (Nat.le_of_ble_eq_true rfl)) dX0_followLemmas_36 ⟨Nat.zero_le _, Nat.zero_le _⟩) hS (fun _ _ h => h) (fun _ h => h) (fun r u t H1 locs ht hvm hw hB hz1 hk1 hS => ?_)
          obtain rfl := hw.symm
          rw [ht] at hB
          have hP : va_P D vwCl (CUW cI cJ q (fu (fu (fu I 8 I8) 9 I9) 10 I10) J a b) H1 := hB
          clear hB hz1 hk1 ht hvm
          generalize H1 = H at hP hS ⊢
          obtain ⟨x_5, hx_5, h⟩ := ob_some h
          refine va_callv (va_runV (As := [.int x_3, .int x_4]) (rest := []) ⟨hx, hb, hml, hown, hts⟩ (c_X0_followClause l D cI cJ q hq F (fu (fu (fu I 8 I8) 9 I9) 10 I10) J a b x_3 x_4 x_5 hx_5) (cwV 2 hts gX0_followLemmas_X0_followClause rfl rfl rfl (by decide +kernel) (by rw [hR]; exact ⟨Nat.le_of_ble_eq_true rfl, Nat.le_of_ble_eq_true rfl⟩)) ⟨CUPc_blind, va_recv hK hP (ci := 0) (q0 := 4) rfl rfl, fun U hU hW => ⟨rfl, by rw [hU]; exact hP, va_K.moved hW.alike hK, va_Nw.warmM hW hN⟩⟩ rfl rfl hl.1 rfl (lv_room (Nat.le_of_ble_eq_true rfl)) dX0_followLemmas_39 ⟨Nat.zero_le _, Nat.zero_le _⟩) hS (fun _ _ h => h) (fun _ h => h) (fun u t H1 locs ht hvm hw hB hz1 hk1 hS => ?_)
          obtain rfl := hw.symm
          rw [ht] at hB
          have hP : va_P D vwCl (CUW cI cJ q (fu (fu (fu I 8 x_5.1) 9 x_5.2.1) 10 x_5.2.2) J a b) H1 := hB
          clear hB hz1 hk1 ht hvm
          generalize H1 = H at hP hS ⊢
          refine lv_iinc (v := v2 + 1) (lv' := [(2, .int (v2 + 1)), (0, .ref (q 4)), (1, .int v1)]) hx hb dX0_followLemmas_42 hl (k := 2) rfl rfl (by decide) rfl (fun ls hl => ?_)
          refine lv_goto (tgt := 10) hx hb dX0_followLemmas_45 (by decide) ?_
          exact ih10 v1 (v2 + 1) x_5.1 x_5.2.1 x_5.2.2 h _ _ hP hS ls (lv_sub hl [1, 2, 0] rfl)
  refine lv_aload_n hx hb dX0_followLemmas_0 rfl (lv_at hl 0 rfl) ?_
  refine va_get (D := D) (ci := 0) (v := .ref (q 2)) (C := RX0) (T := TX0) (N := 6) hx hb hts in_X0_followLemmas_X0 hown hK hP 4 rfl rfl 1 (by decide) (hts (.fieldLink RX0 15 "LearnedReasons$AtOnce" "heldLemmas" "LLearnedReasons$Lemmas;") (by decide +kernel)) (fun _ h9 => h9) rfl dX0_followLemmas_1 ?_
  obtain ⟨x_6, hx_6, h⟩ := ob_some h
  refine va_calli (va_runV (As := []) (rest := []) ⟨hx, hb, hml, hown, hts⟩ (c_X2_howMany l D cI cJ q hq F I J a b x_6 hx_6) (cwV 0 hts gX0_followLemmas_X2_howMany rfl rfl rfl (by decide +kernel) (by rw [hR]; exact ⟨Nat.le_of_ble_eq_true rfl, Nat.le_of_ble_eq_true rfl⟩)) ⟨CUPc_blind, va_recv hK hP (ci := 2) (q0 := 2) rfl rfl, fun U hU hW => ⟨rfl, by rw [hU]; exact hP, va_K.moved hW.alike hK, va_Nw.warmM hW hN⟩⟩ rfl rfl hl.1 rfl (lv_room (Nat.le_of_ble_eq_true rfl)) dX0_followLemmas_4 ⟨Nat.zero_le _, Nat.zero_le _⟩) hS (fun _ _ h => h) (fun _ h => h) (fun r u t H1 locs ht hvm hw hB hz1 hk1 hS => ?_)
  obtain rfl := hw.symm
  rw [ht] at hB
  have hP : va_P D vwCl (CUW cI cJ q I J a b) H1 := hB
  clear hB hz1 hk1 ht hvm
  generalize H1 = H at hP hS ⊢
  refine lv_istore_n (lv' := [(1, .int x_6), (0, .ref (q 4))]) hx hb dX0_followLemmas_7 rfl hl (by decide) rfl (fun ls hl => ?_)
  refine lv_iconst (v := 0) hx hb dX0_followLemmas_8 (by decide) ?_
  refine lv_istore_n (lv' := [(2, .int 0), (1, .int x_6), (0, .ref (q 4))]) hx hb dX0_followLemmas_9 rfl hl (by decide) rfl (fun ls hl => ?_)
  exact C10 F x_6 0 (I 8) (I 9) (I 10) h _ _ hP hS ls (lv_sub hl [2, 1, 0] rfl)
theorem in_X1_howMany_X1 : ∀ w ∈ wsX10, w ∈ wsX1_howMany := by decide +kernel
set_option maxHeartbeats 4000000 in
set_option maxRecDepth 100000 in
theorem c_X1_howMany (l : Launch) (D : va_G) (cI cJ : ClassId) (q : Nat → Nat) (hq : CUQ q) (F : Nat) (I : Nat → Int32) (J : Nat → Int64) (a : Nat → Nat → Int32) (b : Nat → Nat → Int64) (x0 : Int32) (h : f_X1_howMany F I J a b = some x0) : Met l yX1_howMany wsX1_howMany ({ frames := 0, cells := 0, slots := 0, locals := 0 }) (CUPc D cI cJ q I J a b [.ref (q 3)]) (va_Qi (fun (r : Int32) (u : Unit) => r = x0) (fun (u : Unit) t => va_P D vwCl (CUW cI cJ q I J a b) t.heap) (CUA q)) 0 0 (CUA q) := by
  refine mt_of (cc := cX1_howMany) (maxL := 1) (ret := (some .int)) (by decide) rfl ?_
  intro p e s m args below meth c s₁ B0 hml hv R Q hR hQ
  obtain ⟨hargs, hP, hK, hN⟩ := hv
  have hx := B0.exec
  have hb := B0.bytes
  have hr := B0.returns
  have hts := atoms_spec (ws := wsX1_howMany) B0.pre
  have hown : s.vm.findClass RX1 = some m.cls := findClass_of_methodNamed B0.named
  have hlocks := B0.notSynchronized
  have hS : va_S (CUA q) s.heap s.heap [] := va_S.rf
  have hl := lv_entry ([.ref (q 3)]) (n := 1) (Nat.le_of_ble_eq_true rfl)
  rw [hargs, lg_entry_eq]
  rw [← hargs]
  generalize (lg_sl ([.ref (q 3)]) ++ List.replicate (1 - (lg_sl ([.ref (q 3)])).length) Slot.unset).toArray = ls at hl ⊢
  have hl : lv_has ls 1 [(0, .ref (q 3))] := hl
  unfold f_X1_howMany at h
  refine lv_aload_n hx hb dX1_howMany_0 rfl (lv_at hl 0 rfl) ?_
  refine va_get (D := D) (ci := 1) (v := .int (I 7)) (C := RX1) (T := TX1) (N := 3) hx hb hts in_X1_howMany_X1 hown hK hP 3 rfl rfl 0 (by decide) (hts (.fieldLink RX1 18 "LearnedReasons$Learned" "size" "I") (by decide +kernel)) (fun _ h9 => h9) rfl dX1_howMany_1 ?_
  have hx0 := Option.some.inj h
  rw [hQ]
  exact W.iret (v := I 7) hx hb hr (fun t ht hW => ⟨⟨(I 7), (), rfl, hx0, by show va_P _ _ _ t.heap; rw [ht]; exact hP⟩, hS.F ht⟩) hS.2.2 dX1_howMany_4
theorem in_X1_bars_X1 : ∀ w ∈ wsX10, w ∈ wsX1_bars := by decide +kernel
set_option maxHeartbeats 4000000 in
set_option maxRecDepth 100000 in
theorem c_X1_bars (l : Launch) (D : va_G) (cI cJ : ClassId) (q : Nat → Nat) (hq : CUQ q) (F : Nat) (I : Nat → Int32) (J : Nat → Int64) (a : Nat → Nat → Int32) (b : Nat → Nat → Int64) (v1 : Int32) (x0 : Int32) (h : f_X1_bars F I J a b v1 = some x0) : Met l yX1_bars wsX1_bars ({ frames := 0, cells := 0, slots := 0, locals := 0 }) (CUPc D cI cJ q I J a b [.ref (q 3), .int v1]) (va_Qi (fun (r : Int32) (u : Unit) => r = x0) (fun (u : Unit) t => va_P D vwCl (CUW cI cJ q I J a b) t.heap) (CUA q)) 0 0 (CUA q) := by
  refine mt_of (cc := cX1_bars) (maxL := 3) (ret := (some .boolean)) (by decide) rfl ?_
  intro p e s m args below meth c s₁ B0 hml hv R Q hR hQ
  obtain ⟨hargs, hP, hK, hN⟩ := hv
  have hx := B0.exec
  have hb := B0.bytes
  have hr := B0.returns
  have hts := atoms_spec (ws := wsX1_bars) B0.pre
  have hown : s.vm.findClass RX1 = some m.cls := findClass_of_methodNamed B0.named
  have hlocks := B0.notSynchronized
  have hS : va_S (CUA q) s.heap s.heap [] := va_S.rf
  have hl := lv_entry ([.ref (q 3), .int v1]) (n := 3) (Nat.le_of_ble_eq_true rfl)
  rw [hargs, lg_entry_eq]
  rw [← hargs]
  generalize (lg_sl ([.ref (q 3), .int v1]) ++ List.replicate (3 - (lg_sl ([.ref (q 3), .int v1])).length) Slot.unset).toArray = ls at hl ⊢
  have hl : lv_has ls 3 [(0, .ref (q 3)), (1, .int v1)] := hl
  unfold f_X1_bars at h
  refine lv_aload_n hx hb dX1_bars_0 rfl (lv_at hl 0 rfl) ?_
  refine va_get (D := D) (ci := 1) (v := .ref (q 14)) (C := RX1) (T := TX1) (N := 3) hx hb hts in_X1_bars_X1 hown hK hP 3 rfl rfl 2 (by decide) (hts (.fieldLink RX1 15 "LearnedReasons$Learned" "barred" "[I") (by decide +kernel)) (fun _ h9 => h9) rfl dX1_bars_1 ?_
  refine lv_iload_n hx hb dX1_bars_4 rfl (lv_at hl 1 rfl) ?_
  refine lv_iconst (v := 5) hx hb dX1_bars_5 (by decide) ?_
  refine lv_ishr hx hb dX1_bars_6 ?_
  refine lv_sipush (v := 511) hx hb dX1_bars_7 (by decide) ?_
  refine lv_iand hx hb dX1_bars_10 ?_
  obtain ⟨g_1, h⟩ := gd_some h
  refine va_iald hx hb hK hP 14 0 rfl rfl g_1 dX1_bars_11 ?_
  refine lv_topi (fun v_2 ev_2 => ?_)
  have h := nmI_at ev_2 h
  refine lv_istore_n (lv' := [(2, .int v_2), (0, .ref (q 3)), (1, .int v1)]) hx hb dX1_bars_12 rfl hl (by decide) rfl (fun ls hl => ?_)
  refine lv_iload_n hx hb dX1_bars_13 rfl (lv_at hl 0 rfl) ?_
  refine lv_iload_n hx hb dX1_bars_14 rfl (lv_at hl 2 rfl) ?_
  refine lv_bipush (v := 31) hx hb dX1_bars_15 (by decide) ?_
  refine lv_iand hx hb dX1_bars_17 ?_
  refine lv_ishr hx hb dX1_bars_18 ?_
  refine lv_iconst (v := 1) hx hb dX1_bars_19 (by decide) ?_
  refine lv_iand hx hb dX1_bars_20 ?_
  refine lv_iconst (v := 1) hx hb dX1_bars_21 (by decide) ?_
  refine lv_icmp_ne (tgt := 29) hx hb dX1_bars_22 (by decide) (fun c_3 => ?_) (fun c_3 => ?_)
  · have h := if_f c_3 h
    refine lv_iconst (v := 0) hx hb dX1_bars_29 (by decide) ?_
    have hx0 := Option.some.inj h
    rw [hQ]
    exact W.zret (v := 0) hx hb hr (rfl) (fun t ht hW => ⟨⟨0, (), rfl, hx0, by show va_P _ _ _ t.heap; rw [ht]; exact hP⟩, hS.F ht⟩) hS.2.2 dX1_bars_30
  · have h := if_t c_3 h
    refine lv_iconst (v := 1) hx hb dX1_bars_25 (by decide) ?_
    refine lv_goto (tgt := 30) hx hb dX1_bars_26 (by decide) ?_
    have hx0 := Option.some.inj h
    rw [hQ]
    exact W.zret (v := 1) hx hb hr (rfl) (fun t ht hW => ⟨⟨1, (), rfl, hx0, by show va_P _ _ _ t.heap; rw [ht]; exact hP⟩, hS.F ht⟩) hS.2.2 dX1_bars_30
theorem in_X0_followLearned_X0 : ∀ w ∈ wsX00, w ∈ wsX0_followLearned := by decide +kernel
set_option maxHeartbeats 4000000 in
set_option maxRecDepth 100000 in
theorem c_X0_followLearned (l : Launch) (D : va_G) (cI cJ : ClassId) (q : Nat → Nat) (hq : CUQ q) (F : Nat) (I : Nat → Int32) (J : Nat → Int64) (a : Nat → Nat → Int32) (b : Nat → Nat → Int64) (x0 : Int32 × Int32) (h : f_X0_followLearned F I J a b = some x0) : Met l yX0_followLearned wsX0_followLearned ({ frames := 1, cells := 0, slots := 0, locals := 22 }) (CUPc D cI cJ q I J a b [.ref (q 4)]) (va_Qv (fun (u : Int32 × Int32) => u = x0) (fun (u : Int32 × Int32) t => va_P D vwCl (CUW cI cJ q (fu (fu I 8 u.1) 10 u.2) J a b) t.heap) (CUA q)) 0 0 (CUA q) := by
  refine mt_of (cc := cX0_followLearned) (maxL := 3) (ret := none) (by decide) rfl ?_
  intro p e s m args below meth c s₁ B0 hml hv R Q hR hQ
  obtain ⟨hargs, hP, hK, hN⟩ := hv
  have hx := B0.exec
  have hb := B0.bytes
  have hr := B0.returns
  have hts := atoms_spec (ws := wsX0_followLearned) B0.pre
  have hown : s.vm.findClass RX0 = some m.cls := findClass_of_methodNamed B0.named
  have hlocks := B0.notSynchronized
  have hS : va_S (CUA q) s.heap s.heap [] := va_S.rf
  have hl := lv_entry ([.ref (q 4)]) (n := 3) (Nat.le_of_ble_eq_true rfl)
  rw [hargs, lg_entry_eq]
  rw [← hargs]
  generalize (lg_sl ([.ref (q 4)]) ++ List.replicate (3 - (lg_sl ([.ref (q 4)])).length) Slot.unset).toArray = ls at hl ⊢
  have hl : lv_has ls 3 [(0, .ref (q 4))] := hl
  unfold f_X0_followLearned at h
  have C41 : ∀ (n41 : Nat) (v1 : Int32) (v2 : Int32) (I8 : Int32), k_X0_followLearned_41 F I J a b n41 v1 v2 I8 = some x0 → ∀ (H : Heap) (locs : List Loc), va_P D vwCl (CUW cI cJ q (fu I 8 I8) J a b) H → va_S (CUA q) s.heap H locs → ∀ ls : Array Slot, lv_has ls 3 [(0, .ref (q 4)), (1, .int v1), (2, .int v2)] → W p l e R s m args below meth c H locs 0 0 Q (F0 m 41 ls []) := by
    intro n41
    induction n41 with
    | zero => intro v1 v2 I8 h; rw [k_X0_followLearned_41] at h; cases h
    | succ n41 ih41 =>
      intro v1 v2 I8 h H locs hP hS ls hl
      rw [k_X0_followLearned_41] at h
      refine lv_iload_n hx hb dX0_followLearned_41 rfl (lv_at hl 2 rfl) ?_
      refine lv_iload_n hx hb dX0_followLearned_42 rfl (lv_at hl 1 rfl) ?_
      refine lv_icmp_ge (tgt := 90) hx hb dX0_followLearned_43 (by decide) (fun c_1 => ?_) (fun c_1 => ?_)
      · have h := if_t c_1 h
        have hx0 := Option.some.inj h
        rw [hQ]
        exact W.vret hx hb hr (fun t ht hW => ⟨⟨(I8, (I 10)), rfl, hx0, by show va_P _ _ _ t.heap; rw [ht]; exact hP⟩, hS.F ht⟩) hS.2.2 dX0_followLearned_90
      · have h := if_f c_1 h
        refine lv_aload_n hx hb dX0_followLearned_46 rfl (lv_at hl 0 rfl) ?_
        refine lv_iload_n hx hb dX0_followLearned_47 rfl (lv_at hl 2 rfl) ?_
        obtain ⟨x_2, hx_2, h⟩ := ob_some h
        refine va_calli (va_runV (As := [.int v2]) (rest := []) ⟨hx, hb, hml, hown, hts⟩ (c_X0_isKnown l D cI cJ q hq F (fu I 8 I8) J a b v2 x_2 hx_2) (cwV 1 hts gX0_followLearned_X0_isKnown rfl rfl rfl (by decide +kernel) (by rw [hR]; exact ⟨Nat.le_of_ble_eq_true rfl, Nat.le_of_ble_eq_true rfl⟩)) ⟨CUPc_blind, va_recv hK hP (ci := 0) (q0 := 4) rfl rfl, fun U hU hW => ⟨rfl, by rw [hU]; exact hP, va_K.moved hW.alike hK, va_Nw.warmM hW hN⟩⟩ rfl rfl hl.1 rfl (lv_room (Nat.le_of_ble_eq_true rfl)) dX0_followLearned_48 ⟨Nat.zero_le _, Nat.zero_le _⟩) hS (fun _ _ h => h) (fun _ h => h) (fun r u t H1 locs ht hvm hw hB hz1 hk1 hS => ?_)
        obtain rfl := hw.symm
        rw [ht] at hB
        have hP : va_P D vwCl (CUW cI cJ q (fu I 8 I8) J a b) H1 := hB
        clear hB hz1 hk1 ht hvm
        generalize H1 = H at hP hS ⊢
        refine lv_if_ne (tgt := 84) hx hb dX0_followLearned_51 (by decide) (fun c_3 => ?_) (fun c_3 => ?_)
        · have h := if_f c_3 h
          refine lv_iinc (v := v2 + 1) (lv' := [(2, .int (v2 + 1)), (0, .ref (q 4)), (1, .int v1)]) hx hb dX0_followLearned_84 hl (k := 2) rfl rfl (by decide) rfl (fun ls hl => ?_)
          refine lv_goto (tgt := 41) hx hb dX0_followLearned_87 (by decide) ?_
          exact ih41 v1 (v2 + 1) I8 h _ _ hP hS ls (lv_sub hl [1, 2, 0] rfl)
        · have h := if_t c_3 h
          refine lv_aload_n hx hb dX0_followLearned_54 rfl (lv_at hl 0 rfl) ?_
          refine va_get (D := D) (ci := 0) (v := .ref (q 3)) (C := RX0) (T := TX0) (N := 6) hx hb hts in_X0_followLearned_X0 hown hK hP 4 rfl rfl 2 (by decide) (hts (.fieldLink RX0 19 "LearnedReasons$AtOnce" "learnedClauses" "LLearnedReasons$Learned;") (by decide +kernel)) (fun _ h9 => h9) rfl dX0_followLearned_55 ?_
          refine lv_aload_n hx hb dX0_followLearned_58 rfl (lv_at hl 0 rfl) ?_
          refine va_get (D := D) (ci := 0) (v := .int (I 9)) (C := RX0) (T := TX0) (N := 6) hx hb hts in_X0_followLearned_X0 hown hK hP 4 rfl rfl 4 (by decide) (hts (.fieldLink RX0 27 "LearnedReasons$AtOnce" "isFalse" "I") (by decide +kernel)) (fun _ h9 => h9) rfl dX0_followLearned_59 ?_
          refine lv_iconst (v := 1) hx hb dX0_followLearned_62 (by decide) ?_
          refine lv_iload_n hx hb dX0_followLearned_63 rfl (lv_at hl 2 rfl) ?_
          refine lv_ishl hx hb dX0_followLearned_64 ?_
          refine lv_ior hx hb dX0_followLearned_65 ?_
          obtain ⟨x_4, hx_4, h⟩ := ob_some h
          refine va_calli (va_runV (As := [.int ((I 9) ||| ((1 : Int32) <<< (v2 &&& 31)))]) (rest := []) ⟨hx, hb, hml, hown, hts⟩ (c_X1_bars l D cI cJ q hq F (fu I 8 I8) J a b ((I 9) ||| ((1 : Int32) <<< (v2 &&& 31))) x_4 hx_4) (cwV 1 hts gX0_followLearned_X1_bars rfl rfl rfl (by decide +kernel) (by rw [hR]; exact ⟨Nat.le_of_ble_eq_true rfl, Nat.le_of_ble_eq_true rfl⟩)) ⟨CUPc_blind, va_recv hK hP (ci := 1) (q0 := 3) rfl rfl, fun U hU hW => ⟨rfl, by rw [hU]; exact hP, va_K.moved hW.alike hK, va_Nw.warmM hW hN⟩⟩ rfl rfl hl.1 rfl (lv_room (Nat.le_of_ble_eq_true rfl)) dX0_followLearned_66 ⟨Nat.zero_le _, Nat.zero_le _⟩) hS (fun _ _ h => h) (fun _ h => h) (fun r u t H1 locs ht hvm hw hB hz1 hk1 hS => ?_)
          obtain rfl := hw.symm
          rw [ht] at hB
          have hP : va_P D vwCl (CUW cI cJ q (fu I 8 I8) J a b) H1 := hB
          clear hB hz1 hk1 ht hvm
          generalize H1 = H at hP hS ⊢
          refine lv_if_eq (tgt := 84) hx hb dX0_followLearned_69 (by decide) (fun c_5 => ?_) (fun c_5 => ?_)
          · have h := if_t c_5 h
            refine lv_iinc (v := v2 + 1) (lv' := [(2, .int (v2 + 1)), (0, .ref (q 4)), (1, .int v1)]) hx hb dX0_followLearned_84 hl (k := 2) rfl rfl (by decide) rfl (fun ls hl => ?_)
            refine lv_goto (tgt := 41) hx hb dX0_followLearned_87 (by decide) ?_
            exact ih41 v1 (v2 + 1) I8 h _ _ hP hS ls (lv_sub hl [1, 2, 0] rfl)
          · have h := if_f c_5 h
            refine lv_aload_n hx hb dX0_followLearned_72 rfl (lv_at hl 0 rfl) ?_
            refine lv_dup hx hb dX0_followLearned_73 rfl ?_
            refine va_get (D := D) (ci := 0) (v := .int I8) (C := RX0) (T := TX0) (N := 6) hx hb hts in_X0_followLearned_X0 hown hK hP 4 rfl rfl 3 (by decide) (hts (.fieldLink RX0 23 "LearnedReasons$AtOnce" "isTrue" "I") (by decide +kernel)) (fun _ h9 => h9) rfl dX0_followLearned_74 ?_
            refine lv_iconst (v := 1) hx hb dX0_followLearned_77 (by decide) ?_
            refine lv_iload_n hx hb dX0_followLearned_78 rfl (lv_at hl 2 rfl) ?_
            refine lv_ishl hx hb dX0_followLearned_79 ?_
            refine lv_ior hx hb dX0_followLearned_80 ?_
            refine lv_topi (fun v_6 ev_6 => ?_)
            have h := nmI_at ev_6 h
            refine va_put (D := D) (ci := 0) (v := .int v_6) (ty := .int) (C := RX0) (T := TX0) (N := 6) hx hb hts in_X0_followLearned_X0 tyX0 tyX0_ok nmX0 hown hK hP (CUW_D hq) hS 4 rfl rfl 3 (by decide) (hts (.fieldLink RX0 23 "LearnedReasons$AtOnce" "isTrue" "I") (by decide +kernel)) (fun _ h9 => h9) rfl (by decide +kernel) rfl rfl (Nat.le_of_ble_eq_true rfl) dX0_followLearned_81 (fun H locs hP _ hS => ?_)
            have hP : va_P D vwCl (CUW cI cJ q (fu I 8 v_6) J a b) H := hP
            refine lv_iinc (v := v2 + 1) (lv' := [(2, .int (v2 + 1)), (0, .ref (q 4)), (1, .int v1)]) hx hb dX0_followLearned_84 hl (k := 2) rfl rfl (by decide) rfl (fun ls hl => ?_)
            refine lv_goto (tgt := 41) hx hb dX0_followLearned_87 (by decide) ?_
            exact ih41 v1 (v2 + 1) v_6 h _ _ hP hS ls (lv_sub hl [1, 2, 0] rfl)
  refine lv_aload_n hx hb dX0_followLearned_0 rfl (lv_at hl 0 rfl) ?_
  refine va_get (D := D) (ci := 0) (v := .ref (q 3)) (C := RX0) (T := TX0) (N := 6) hx hb hts in_X0_followLearned_X0 hown hK hP 4 rfl rfl 2 (by decide) (hts (.fieldLink RX0 19 "LearnedReasons$AtOnce" "learnedClauses" "LLearnedReasons$Learned;") (by decide +kernel)) (fun _ h9 => h9) rfl dX0_followLearned_1 ?_
  obtain ⟨x_7, hx_7, h⟩ := ob_some h
  refine va_calli (va_runV (As := []) (rest := []) ⟨hx, hb, hml, hown, hts⟩ (c_X1_howMany l D cI cJ q hq F I J a b x_7 hx_7) (cwV 0 hts gX0_followLearned_X1_howMany rfl rfl rfl (by decide +kernel) (by rw [hR]; exact ⟨Nat.le_of_ble_eq_true rfl, Nat.le_of_ble_eq_true rfl⟩)) ⟨CUPc_blind, va_recv hK hP (ci := 1) (q0 := 3) rfl rfl, fun U hU hW => ⟨rfl, by rw [hU]; exact hP, va_K.moved hW.alike hK, va_Nw.warmM hW hN⟩⟩ rfl rfl hl.1 rfl (lv_room (Nat.le_of_ble_eq_true rfl)) dX0_followLearned_4 ⟨Nat.zero_le _, Nat.zero_le _⟩) hS (fun _ _ h => h) (fun _ h => h) (fun r u t H1 locs ht hvm hw hB hz1 hk1 hS => ?_)
  obtain rfl := hw.symm
  rw [ht] at hB
  have hP : va_P D vwCl (CUW cI cJ q I J a b) H1 := hB
  clear hB hz1 hk1 ht hvm
  generalize H1 = H at hP hS ⊢
  refine lv_if_ne (tgt := 11) hx hb dX0_followLearned_7 (by decide) (fun c_8 => ?_) (fun c_8 => ?_)
  · have h := if_f c_8 h
    refine lv_aload_n hx hb dX0_followLearned_11 rfl (lv_at hl 0 rfl) ?_
    refine va_get (D := D) (ci := 0) (v := .ref (q 3)) (C := RX0) (T := TX0) (N := 6) hx hb hts in_X0_followLearned_X0 hown hK hP 4 rfl rfl 2 (by decide) (hts (.fieldLink RX0 19 "LearnedReasons$AtOnce" "learnedClauses" "LLearnedReasons$Learned;") (by decide +kernel)) (fun _ h9 => h9) rfl dX0_followLearned_12 ?_
    refine lv_aload_n hx hb dX0_followLearned_15 rfl (lv_at hl 0 rfl) ?_
    refine va_get (D := D) (ci := 0) (v := .int (I 9)) (C := RX0) (T := TX0) (N := 6) hx hb hts in_X0_followLearned_X0 hown hK hP 4 rfl rfl 4 (by decide) (hts (.fieldLink RX0 27 "LearnedReasons$AtOnce" "isFalse" "I") (by decide +kernel)) (fun _ h9 => h9) rfl dX0_followLearned_16 ?_
    obtain ⟨x_9, hx_9, h⟩ := ob_some h
    refine va_calli (va_runV (As := [.int (I 9)]) (rest := []) ⟨hx, hb, hml, hown, hts⟩ (c_X1_bars l D cI cJ q hq F I J a b (I 9) x_9 hx_9) (cwV 1 hts gX0_followLearned_X1_bars rfl rfl rfl (by decide +kernel) (by rw [hR]; exact ⟨Nat.le_of_ble_eq_true rfl, Nat.le_of_ble_eq_true rfl⟩)) ⟨CUPc_blind, va_recv hK hP (ci := 1) (q0 := 3) rfl rfl, fun U hU hW => ⟨rfl, by rw [hU]; exact hP, va_K.moved hW.alike hK, va_Nw.warmM hW hN⟩⟩ rfl rfl hl.1 rfl (lv_room (Nat.le_of_ble_eq_true rfl)) dX0_followLearned_19 ⟨Nat.zero_le _, Nat.zero_le _⟩) hS (fun _ _ h => h) (fun _ h => h) (fun r u t H1 locs ht hvm hw hB hz1 hk1 hS => ?_)
    obtain rfl := hw.symm
    rw [ht] at hB
    have hP : va_P D vwCl (CUW cI cJ q I J a b) H1 := hB
    clear hB hz1 hk1 ht hvm
    generalize H1 = H at hP hS ⊢
    refine lv_if_eq (tgt := 31) hx hb dX0_followLearned_22 (by decide) (fun c_10 => ?_) (fun c_10 => ?_)
    · have h := if_t c_10 h
      refine lv_aload_n hx hb dX0_followLearned_31 rfl (lv_at hl 0 rfl) ?_
      refine va_get (D := D) (ci := 0) (v := .ref (q 1)) (C := RX0) (T := TX0) (N := 6) hx hb hts in_X0_followLearned_X0 hown hK hP 4 rfl rfl 0 (by decide) (hts (.fieldLink RX0 9 "LearnedReasons$AtOnce" "things" "LLearnedReasons$Things;") (by decide +kernel)) (fun _ h9 => h9) rfl dX0_followLearned_32 ?_
      obtain ⟨x_11, hx_11, h⟩ := ob_some h
      refine va_calli (va_runV (As := []) (rest := []) ⟨hx, hb, hml, hown, hts⟩ (c_X5_names l D cI cJ q hq F I J a b x_11 hx_11) (cwV 0 hts gX0_followLearned_X5_names rfl rfl rfl (by decide +kernel) (by rw [hR]; exact ⟨Nat.le_of_ble_eq_true rfl, Nat.le_of_ble_eq_true rfl⟩)) ⟨CUPc_blind, va_recv hK hP (ci := 5) (q0 := 1) rfl rfl, fun U hU hW => ⟨rfl, by rw [hU]; exact hP, va_K.moved hW.alike hK, va_Nw.warmM hW hN⟩⟩ rfl rfl hl.1 rfl (lv_room (Nat.le_of_ble_eq_true rfl)) dX0_followLearned_35 ⟨Nat.zero_le _, Nat.zero_le _⟩) hS (fun _ _ h => h) (fun _ h => h) (fun r u t H1 locs ht hvm hw hB hz1 hk1 hS => ?_)
      obtain rfl := hw.symm
      rw [ht] at hB
      have hP : va_P D vwCl (CUW cI cJ q I J a b) H1 := hB
      clear hB hz1 hk1 ht hvm
      generalize H1 = H at hP hS ⊢
      refine lv_istore_n (lv' := [(1, .int x_11), (0, .ref (q 4))]) hx hb dX0_followLearned_38 rfl hl (by decide) rfl (fun ls hl => ?_)
      refine lv_iconst (v := 0) hx hb dX0_followLearned_39 (by decide) ?_
      refine lv_istore_n (lv' := [(2, .int 0), (1, .int x_11), (0, .ref (q 4))]) hx hb dX0_followLearned_40 rfl hl (by decide) rfl (fun ls hl => ?_)
      exact C41 F x_11 0 (I 8) h _ _ hP hS ls (lv_sub hl [2, 1, 0] rfl)
    · have h := if_f c_10 h
      refine lv_aload_n hx hb dX0_followLearned_25 rfl (lv_at hl 0 rfl) ?_
      refine lv_iconst (v := 1) hx hb dX0_followLearned_26 (by decide) ?_
      refine va_put (D := D) (ci := 0) (v := .int 1) (ty := .boolean) (C := RX0) (T := TX0) (N := 6) hx hb hts in_X0_followLearned_X0 tyX0 tyX0_ok nmX0 hown hK hP (CUW_D hq) hS 4 rfl rfl 5 (by decide) (hts (.fieldLink RX0 30 "LearnedReasons$AtOnce" "clash" "Z") (by decide +kernel)) (fun _ h9 => h9) rfl (by decide +kernel) rfl rfl (Nat.le_of_ble_eq_true rfl) dX0_followLearned_27 (fun H locs hP _ hS => ?_)
      have hP : va_P D vwCl (CUW cI cJ q (fu I 10 1) J a b) H := hP
      have hx0 := Option.some.inj h
      rw [hQ]
      exact W.vret hx hb hr (fun t ht hW => ⟨⟨((I 8), 1), rfl, hx0, by show va_P _ _ _ t.heap; rw [ht]; exact hP⟩, hS.F ht⟩) hS.2.2 dX0_followLearned_30
  · have h := if_t c_8 h
    have hx0 := Option.some.inj h
    rw [hQ]
    exact W.vret hx hb hr (fun t ht hW => ⟨⟨((I 8), (I 10)), rfl, hx0, by show va_P _ _ _ t.heap; rw [ht]; exact hP⟩, hS.F ht⟩) hS.2.2 dX0_followLearned_10
theorem in_X0_clashes_X0 : ∀ w ∈ wsX00, w ∈ wsX0_clashes := by decide +kernel
set_option maxHeartbeats 4000000 in
set_option maxRecDepth 100000 in
theorem c_X0_clashes (l : Launch) (D : va_G) (cI cJ : ClassId) (q : Nat → Nat) (hq : CUQ q) (F : Nat) (I : Nat → Int32) (J : Nat → Int64) (a : Nat → Nat → Int32) (b : Nat → Nat → Int64) (v1 : Int32) (v2 : Int32) (v3 : Int32) (x0 : Int32 × Int32 × Int32 × Int32) (h : f_X0_clashes F I J a b v1 v2 v3 = some x0) : Met l yX0_clashes wsX0_clashes ({ frames := 4, cells := 0, slots := 0, locals := 94 }) (CUPc D cI cJ q I J a b [.ref (q 4), .int v1, .int v2, .int v3]) (va_Qi (fun (r : Int32) (u : Int32 × Int32 × Int32) => r = x0.1 ∧ u = x0.2) (fun (u : Int32 × Int32 × Int32) t => va_P D vwCl (CUW cI cJ q (fu (fu (fu I 8 u.1) 9 u.2.1) 10 u.2.2) J a b) t.heap) (CUA q)) 0 0 (CUA q) := by
  refine mt_of (cc := cX0_clashes) (maxL := 7) (ret := (some .boolean)) (by decide) rfl ?_
  intro p e s m args below meth c s₁ B0 hml hv R Q hR hQ
  obtain ⟨hargs, hP, hK, hN⟩ := hv
  have hx := B0.exec
  have hb := B0.bytes
  have hr := B0.returns
  have hts := atoms_spec (ws := wsX0_clashes) B0.pre
  have hown : s.vm.findClass RX0 = some m.cls := findClass_of_methodNamed B0.named
  have hlocks := B0.notSynchronized
  have hS : va_S (CUA q) s.heap s.heap [] := va_S.rf
  have hl := lv_entry ([.ref (q 4), .int v1, .int v2, .int v3]) (n := 7) (Nat.le_of_ble_eq_true rfl)
  rw [hargs, lg_entry_eq]
  rw [← hargs]
  generalize (lg_sl ([.ref (q 4), .int v1, .int v2, .int v3]) ++ List.replicate (7 - (lg_sl ([.ref (q 4), .int v1, .int v2, .int v3])).length) Slot.unset).toArray = ls at hl ⊢
  have hl : lv_has ls 7 [(0, .ref (q 4)), (1, .int v1), (2, .int v2), (3, .int v3)] := hl
  unfold f_X0_clashes at h
  have C31 : ∀ (n31 : Nat) (v3 : Int32) (v4 : Int32) (v5 : Int32) (I8 : Int32) (I9 : Int32) (I10 : Int32), k_X0_clashes_31 F I J a b n31 v3 v4 v5 I8 I9 I10 = some x0 → ∀ (H : Heap) (locs : List Loc), va_P D vwCl (CUW cI cJ q (fu (fu (fu I 8 I8) 9 I9) 10 I10) J a b) H → va_S (CUA q) s.heap H locs → ∀ ls : Array Slot, lv_has ls 7 [(0, .ref (q 4)), (3, .int v3), (4, .int v4), (5, .int v5)] → W p l e R s m args below meth c H locs 0 0 Q (F0 m 31 ls []) := by
    intro n31
    induction n31 with
    | zero => intro v3 v4 v5 I8 I9 I10 h; rw [k_X0_clashes_31] at h; cases h
    | succ n31 ih31 =>
      intro v3 v4 v5 I8 I9 I10 h H locs hP hS ls hl
      rw [k_X0_clashes_31] at h
      have C86 : ∀ (v3 : Int32) (v5 : Int32) (v6 : Int32) (I8 : Int32) (I9 : Int32) (I10 : Int32), k_X0_clashes_86 F I J a b (k_X0_clashes_31 F I J a b n31) v3 v5 v6 I8 I9 I10 = some x0 → ∀ (H : Heap) (locs : List Loc), va_P D vwCl (CUW cI cJ q (fu (fu (fu I 8 I8) 9 I9) 10 I10) J a b) H → va_S (CUA q) s.heap H locs → ∀ ls : Array Slot, lv_has ls 7 [(0, .ref (q 4)), (3, .int v3), (5, .int v5), (6, .int v6)] → W p l e R s m args below meth c H locs 0 0 Q (F0 m 86 ls []) := by
        intro v3 v5 v6 I8 I9 I10 h H locs hP hS ls hl
        rw [k_X0_clashes_86] at h
        refine lv_aload_n hx hb dX0_clashes_86 rfl (lv_at hl 0 rfl) ?_
        refine va_get (D := D) (ci := 0) (v := .int I8) (C := RX0) (T := TX0) (N := 6) hx hb hts in_X0_clashes_X0 hown hK hP 4 rfl rfl 3 (by decide) (hts (.fieldLink RX0 23 "LearnedReasons$AtOnce" "isTrue" "I") (by decide +kernel)) (fun _ h9 => h9) rfl dX0_clashes_87 ?_
        refine lv_aload_n hx hb dX0_clashes_90 rfl (lv_at hl 0 rfl) ?_
        refine va_get (D := D) (ci := 0) (v := .int I9) (C := RX0) (T := TX0) (N := 6) hx hb hts in_X0_clashes_X0 hown hK hP 4 rfl rfl 4 (by decide) (hts (.fieldLink RX0 27 "LearnedReasons$AtOnce" "isFalse" "I") (by decide +kernel)) (fun _ h9 => h9) rfl dX0_clashes_91 ?_
        refine lv_ior hx hb dX0_clashes_94 ?_
        refine lv_iload hx hb dX0_clashes_95 (lv_at hl 3 rfl) ?_
        refine lv_icmp_eq (tgt := 104) hx hb dX0_clashes_97 (by decide) (fun c_1 => ?_) (fun c_1 => ?_)
        · have h := if_t c_1 h
          refine lv_iconst (v := 0) hx hb dX0_clashes_104 (by decide) ?_
          refine lv_istore (lv' := [(4, .int 0), (0, .ref (q 4)), (3, .int v3), (5, .int v5), (6, .int v6)]) hx hb dX0_clashes_105 hl (by decide) rfl (fun ls hl => ?_)
          refine lv_iinc (v := v5 + 1) (lv' := [(5, .int (v5 + 1)), (4, .int 0), (0, .ref (q 4)), (3, .int v3), (6, .int v6)]) hx hb dX0_clashes_107 hl (k := 3) rfl rfl (by decide) rfl (fun ls hl => ?_)
          refine lv_goto (tgt := 31) hx hb dX0_clashes_110 (by decide) ?_
          exact ih31 v3 0 (v5 + 1) I8 I9 I10 h _ _ hP hS ls (lv_sub hl [2, 3, 1, 0] rfl)
        · have h := if_f c_1 h
          refine lv_iconst (v := 1) hx hb dX0_clashes_100 (by decide) ?_
          refine lv_goto (tgt := 105) hx hb dX0_clashes_101 (by decide) ?_
          refine lv_istore (lv' := [(4, .int 1), (0, .ref (q 4)), (3, .int v3), (5, .int v5), (6, .int v6)]) hx hb dX0_clashes_105 hl (by decide) rfl (fun ls hl => ?_)
          refine lv_iinc (v := v5 + 1) (lv' := [(5, .int (v5 + 1)), (4, .int 1), (0, .ref (q 4)), (3, .int v3), (6, .int v6)]) hx hb dX0_clashes_107 hl (k := 3) rfl rfl (by decide) rfl (fun ls hl => ?_)
          refine lv_goto (tgt := 31) hx hb dX0_clashes_110 (by decide) ?_
          exact ih31 v3 1 (v5 + 1) I8 I9 I10 h _ _ hP hS ls (lv_sub hl [2, 3, 1, 0] rfl)
      refine lv_iload hx hb dX0_clashes_31 (lv_at hl 3 rfl) ?_
      refine lv_bipush (v := 14) hx hb dX0_clashes_33 (by decide) ?_
      refine lv_icmp_gt (tgt := 113) hx hb dX0_clashes_35 (by decide) (fun c_2 => ?_) (fun c_2 => ?_)
      · have h := if_t c_2 h
        refine lv_aload_n hx hb dX0_clashes_113 rfl (lv_at hl 0 rfl) ?_
        refine va_get (D := D) (ci := 0) (v := .int I10) (C := RX0) (T := TX0) (N := 6) hx hb hts in_X0_clashes_X0 hown hK hP 4 rfl rfl 5 (by decide) (hts (.fieldLink RX0 30 "LearnedReasons$AtOnce" "clash" "Z") (by decide +kernel)) (fun _ h9 => h9) rfl dX0_clashes_114 ?_
        obtain ⟨z_3, h⟩ := gz_some h
        have hx0 := Option.some.inj h
        rw [hQ]
        exact W.zret (v := I10) hx hb hr (z_3.1) (fun t ht hW => ⟨⟨I10, (I8, I9, I10), rfl, ⟨congrArg (fun z => z.1) hx0, congrArg (fun z => z.2) hx0⟩, by show va_P _ _ _ t.heap; rw [ht]; exact hP⟩, hS.F ht⟩) hS.2.2 dX0_clashes_117
      · have h := if_f c_2 h
        refine lv_iload hx hb dX0_clashes_38 (lv_at hl 2 rfl) ?_
        refine lv_if_eq (tgt := 113) hx hb dX0_clashes_40 (by decide) (fun c_4 => ?_) (fun c_4 => ?_)
        · have h := if_t c_4 h
          refine lv_aload_n hx hb dX0_clashes_113 rfl (lv_at hl 0 rfl) ?_
          refine va_get (D := D) (ci := 0) (v := .int I10) (C := RX0) (T := TX0) (N := 6) hx hb hts in_X0_clashes_X0 hown hK hP 4 rfl rfl 5 (by decide) (hts (.fieldLink RX0 30 "LearnedReasons$AtOnce" "clash" "Z") (by decide +kernel)) (fun _ h9 => h9) rfl dX0_clashes_114 ?_
          obtain ⟨z_5, h⟩ := gz_some h
          have hx0 := Option.some.inj h
          rw [hQ]
          exact W.zret (v := I10) hx hb hr (z_5.1) (fun t ht hW => ⟨⟨I10, (I8, I9, I10), rfl, ⟨congrArg (fun z => z.1) hx0, congrArg (fun z => z.2) hx0⟩, by show va_P _ _ _ t.heap; rw [ht]; exact hP⟩, hS.F ht⟩) hS.2.2 dX0_clashes_117
        · have h := if_f c_4 h
          refine lv_aload_n hx hb dX0_clashes_43 rfl (lv_at hl 0 rfl) ?_
          refine va_get (D := D) (ci := 0) (v := .int I10) (C := RX0) (T := TX0) (N := 6) hx hb hts in_X0_clashes_X0 hown hK hP 4 rfl rfl 5 (by decide) (hts (.fieldLink RX0 30 "LearnedReasons$AtOnce" "clash" "Z") (by decide +kernel)) (fun _ h9 => h9) rfl dX0_clashes_44 ?_
          refine lv_if_ne (tgt := 113) hx hb dX0_clashes_47 (by decide) (fun c_6 => ?_) (fun c_6 => ?_)
          · have h := if_f c_6 h
            refine lv_aload_n hx hb dX0_clashes_113 rfl (lv_at hl 0 rfl) ?_
            refine va_get (D := D) (ci := 0) (v := .int I10) (C := RX0) (T := TX0) (N := 6) hx hb hts in_X0_clashes_X0 hown hK hP 4 rfl rfl 5 (by decide) (hts (.fieldLink RX0 30 "LearnedReasons$AtOnce" "clash" "Z") (by decide +kernel)) (fun _ h9 => h9) rfl dX0_clashes_114 ?_
            obtain ⟨z_7, h⟩ := gz_some h
            have hx0 := Option.some.inj h
            rw [hQ]
            exact W.zret (v := I10) hx hb hr (z_7.1) (fun t ht hW => ⟨⟨I10, (I8, I9, I10), rfl, ⟨congrArg (fun z => z.1) hx0, congrArg (fun z => z.2) hx0⟩, by show va_P _ _ _ t.heap; rw [ht]; exact hP⟩, hS.F ht⟩) hS.2.2 dX0_clashes_117
          · have h := if_t c_6 h
            refine lv_aload_n hx hb dX0_clashes_50 rfl (lv_at hl 0 rfl) ?_
            refine va_get (D := D) (ci := 0) (v := .int I8) (C := RX0) (T := TX0) (N := 6) hx hb hts in_X0_clashes_X0 hown hK hP 4 rfl rfl 3 (by decide) (hts (.fieldLink RX0 23 "LearnedReasons$AtOnce" "isTrue" "I") (by decide +kernel)) (fun _ h9 => h9) rfl dX0_clashes_51 ?_
            refine lv_aload_n hx hb dX0_clashes_54 rfl (lv_at hl 0 rfl) ?_
            refine va_get (D := D) (ci := 0) (v := .int I9) (C := RX0) (T := TX0) (N := 6) hx hb hts in_X0_clashes_X0 hown hK hP 4 rfl rfl 4 (by decide) (hts (.fieldLink RX0 27 "LearnedReasons$AtOnce" "isFalse" "I") (by decide +kernel)) (fun _ h9 => h9) rfl dX0_clashes_55 ?_
            refine lv_ior hx hb dX0_clashes_58 ?_
            refine lv_topi (fun v_8 ev_8 => ?_)
            have h := nmI_at ev_8 h
            refine lv_istore (lv' := [(6, .int v_8), (0, .ref (q 4)), (3, .int v3), (4, .int v4), (5, .int v5)]) hx hb dX0_clashes_59 hl (by decide) rfl (fun ls hl => ?_)
            refine lv_aload_n hx hb dX0_clashes_61 rfl (lv_at hl 1 rfl) ?_
            obtain ⟨x_9, hx_9, h⟩ := ob_some h
            refine va_callv (va_runV (As := []) (rest := []) ⟨hx, hb, hml, hown, hts⟩ (c_X0_followThings l D cI cJ q hq F (fu (fu (fu I 8 I8) 9 I9) 10 I10) J a b x_9 hx_9) (cwV 0 hts gX0_clashes_X0_followThings rfl rfl rfl (by decide +kernel) (by rw [hR]; exact ⟨Nat.le_of_ble_eq_true rfl, Nat.le_of_ble_eq_true rfl⟩)) ⟨CUPc_blind, va_recv hK hP (ci := 0) (q0 := 4) rfl rfl, fun U hU hW => ⟨rfl, by rw [hU]; exact hP, va_K.moved hW.alike hK, va_Nw.warmM hW hN⟩⟩ rfl rfl hl.1 rfl (lv_room (Nat.le_of_ble_eq_true rfl)) dX0_clashes_62 ⟨Nat.zero_le _, Nat.zero_le _⟩) hS (fun _ _ h => h) (fun _ h => h) (fun u t H1 locs ht hvm hw hB hz1 hk1 hS => ?_)
            obtain rfl := hw.symm
            rw [ht] at hB
            have hP : va_P D vwCl (CUW cI cJ q (fu (fu (fu I 8 x_9.1) 9 x_9.2.1) 10 x_9.2.2) J a b) H1 := hB
            clear hB hz1 hk1 ht hvm
            generalize H1 = H at hP hS ⊢
            refine lv_iload_n hx hb dX0_clashes_65 rfl (lv_at hl 2 rfl) ?_
            refine lv_iconst (v := 1) hx hb dX0_clashes_66 (by decide) ?_
            refine lv_icmp_ne (tgt := 77) hx hb dX0_clashes_67 (by decide) (fun c_10 => ?_) (fun c_10 => ?_)
            · have h := if_f c_10 h
              refine lv_iload_n hx hb dX0_clashes_77 rfl (lv_at hl 2 rfl) ?_
              refine lv_iconst (v := 2) hx hb dX0_clashes_78 (by decide) ?_
              refine lv_icmp_ne (tgt := 86) hx hb dX0_clashes_79 (by decide) (fun c_11 => ?_) (fun c_11 => ?_)
              · have h := if_f c_11 h
                exact C86 v3 v5 v_8 x_9.1 x_9.2.1 x_9.2.2 h _ _ hP hS ls (lv_sub hl [1, 2, 4, 0] rfl)
              · have h := if_t c_11 h
                refine lv_aload_n hx hb dX0_clashes_82 rfl (lv_at hl 1 rfl) ?_
                obtain ⟨x_12, hx_12, h⟩ := ob_some h
                refine va_callv (va_runV (As := []) (rest := []) ⟨hx, hb, hml, hown, hts⟩ (c_X0_followLearned l D cI cJ q hq F (fu (fu (fu I 8 x_9.1) 9 x_9.2.1) 10 x_9.2.2) J a b x_12 hx_12) (cwV 0 hts gX0_clashes_X0_followLearned rfl rfl rfl (by decide +kernel) (by rw [hR]; exact ⟨Nat.le_of_ble_eq_true rfl, Nat.le_of_ble_eq_true rfl⟩)) ⟨CUPc_blind, va_recv hK hP (ci := 0) (q0 := 4) rfl rfl, fun U hU hW => ⟨rfl, by rw [hU]; exact hP, va_K.moved hW.alike hK, va_Nw.warmM hW hN⟩⟩ rfl rfl hl.1 rfl (lv_room (Nat.le_of_ble_eq_true rfl)) dX0_clashes_83 ⟨Nat.zero_le _, Nat.zero_le _⟩) hS (fun _ _ h => h) (fun _ h => h) (fun u t H1 locs ht hvm hw hB hz1 hk1 hS => ?_)
                obtain rfl := hw.symm
                rw [ht] at hB
                have hP : va_P D vwCl (CUW cI cJ q (fu (fu (fu I 8 x_12.1) 9 x_9.2.1) 10 x_12.2) J a b) H1 := hB
                clear hB hz1 hk1 ht hvm
                generalize H1 = H at hP hS ⊢
                exact C86 v3 v5 v_8 x_12.1 x_9.2.1 x_12.2 h _ _ hP hS ls (lv_sub hl [1, 2, 4, 0] rfl)
            · have h := if_t c_10 h
              refine lv_aload_n hx hb dX0_clashes_70 rfl (lv_at hl 1 rfl) ?_
              obtain ⟨x_13, hx_13, h⟩ := ob_some h
              refine va_callv (va_runV (As := []) (rest := []) ⟨hx, hb, hml, hown, hts⟩ (c_X0_followLemmas l D cI cJ q hq F (fu (fu (fu I 8 x_9.1) 9 x_9.2.1) 10 x_9.2.2) J a b x_13 hx_13) (cwV 0 hts gX0_clashes_X0_followLemmas rfl rfl rfl (by decide +kernel) (by rw [hR]; exact ⟨Nat.le_of_ble_eq_true rfl, Nat.le_of_ble_eq_true rfl⟩)) ⟨CUPc_blind, va_recv hK hP (ci := 0) (q0 := 4) rfl rfl, fun U hU hW => ⟨rfl, by rw [hU]; exact hP, va_K.moved hW.alike hK, va_Nw.warmM hW hN⟩⟩ rfl rfl hl.1 rfl (lv_room (Nat.le_of_ble_eq_true rfl)) dX0_clashes_71 ⟨Nat.zero_le _, Nat.zero_le _⟩) hS (fun _ _ h => h) (fun _ h => h) (fun u t H1 locs ht hvm hw hB hz1 hk1 hS => ?_)
              obtain rfl := hw.symm
              rw [ht] at hB
              have hP : va_P D vwCl (CUW cI cJ q (fu (fu (fu I 8 x_13.1) 9 x_13.2.1) 10 x_13.2.2) J a b) H1 := hB
              clear hB hz1 hk1 ht hvm
              generalize H1 = H at hP hS ⊢
              refine lv_goto (tgt := 86) hx hb dX0_clashes_74 (by decide) ?_
              exact C86 v3 v5 v_8 x_13.1 x_13.2.1 x_13.2.2 h _ _ hP hS ls (lv_sub hl [1, 2, 4, 0] rfl)
  refine lv_aload_n hx hb dX0_clashes_0 rfl (lv_at hl 0 rfl) ?_
  refine lv_iload_n hx hb dX0_clashes_1 rfl (lv_at hl 1 rfl) ?_
  refine va_put (D := D) (ci := 0) (v := .int v1) (ty := .int) (C := RX0) (T := TX0) (N := 6) hx hb hts in_X0_clashes_X0 tyX0 tyX0_ok nmX0 hown hK hP (CUW_D hq) hS 4 rfl rfl 3 (by decide) (hts (.fieldLink RX0 23 "LearnedReasons$AtOnce" "isTrue" "I") (by decide +kernel)) (fun _ h9 => h9) rfl (by decide +kernel) rfl rfl (Nat.le_of_ble_eq_true rfl) dX0_clashes_2 (fun H locs hP _ hS => ?_)
  have hP : va_P D vwCl (CUW cI cJ q (fu I 8 v1) J a b) H := hP
  refine lv_aload_n hx hb dX0_clashes_5 rfl (lv_at hl 0 rfl) ?_
  refine lv_iload_n hx hb dX0_clashes_6 rfl (lv_at hl 2 rfl) ?_
  refine va_put (D := D) (ci := 0) (v := .int v2) (ty := .int) (C := RX0) (T := TX0) (N := 6) hx hb hts in_X0_clashes_X0 tyX0 tyX0_ok nmX0 hown hK hP (CUW_D hq) hS 4 rfl rfl 4 (by decide) (hts (.fieldLink RX0 27 "LearnedReasons$AtOnce" "isFalse" "I") (by decide +kernel)) (fun _ h9 => h9) rfl (by decide +kernel) rfl rfl (Nat.le_of_ble_eq_true rfl) dX0_clashes_7 (fun H locs hP _ hS => ?_)
  have hP : va_P D vwCl (CUW cI cJ q (fu (fu I 8 v1) 9 v2) J a b) H := hP
  refine lv_aload_n hx hb dX0_clashes_10 rfl (lv_at hl 0 rfl) ?_
  refine lv_iload_n hx hb dX0_clashes_11 rfl (lv_at hl 1 rfl) ?_
  refine lv_iload_n hx hb dX0_clashes_12 rfl (lv_at hl 2 rfl) ?_
  refine lv_iand hx hb dX0_clashes_13 ?_
  refine lv_if_eq (tgt := 21) hx hb dX0_clashes_14 (by decide) (fun c_14 => ?_) (fun c_14 => ?_)
  · have h := if_t c_14 h
    refine lv_iconst (v := 0) hx hb dX0_clashes_21 (by decide) ?_
    refine va_put (D := D) (ci := 0) (v := .int 0) (ty := .boolean) (C := RX0) (T := TX0) (N := 6) hx hb hts in_X0_clashes_X0 tyX0 tyX0_ok nmX0 hown hK hP (CUW_D hq) hS 4 rfl rfl 5 (by decide) (hts (.fieldLink RX0 30 "LearnedReasons$AtOnce" "clash" "Z") (by decide +kernel)) (fun _ h9 => h9) rfl (by decide +kernel) rfl rfl (Nat.le_of_ble_eq_true rfl) dX0_clashes_22 (fun H locs hP _ hS => ?_)
    have hP : va_P D vwCl (CUW cI cJ q (fu (fu (fu I 8 v1) 9 v2) 10 0) J a b) H := hP
    refine lv_iconst (v := 1) hx hb dX0_clashes_25 (by decide) ?_
    refine lv_istore (lv' := [(4, .int 1), (0, .ref (q 4)), (1, .int v1), (2, .int v2), (3, .int v3)]) hx hb dX0_clashes_26 hl (by decide) rfl (fun ls hl => ?_)
    refine lv_iconst (v := 0) hx hb dX0_clashes_28 (by decide) ?_
    refine lv_istore (lv' := [(5, .int 0), (4, .int 1), (0, .ref (q 4)), (1, .int v1), (2, .int v2), (3, .int v3)]) hx hb dX0_clashes_29 hl (by decide) rfl (fun ls hl => ?_)
    exact C31 F v3 1 0 v1 v2 0 h _ _ hP hS ls (lv_sub hl [2, 5, 1, 0] rfl)
  · have h := if_f c_14 h
    refine lv_iconst (v := 1) hx hb dX0_clashes_17 (by decide) ?_
    refine lv_goto (tgt := 22) hx hb dX0_clashes_18 (by decide) ?_
    refine va_put (D := D) (ci := 0) (v := .int 1) (ty := .boolean) (C := RX0) (T := TX0) (N := 6) hx hb hts in_X0_clashes_X0 tyX0 tyX0_ok nmX0 hown hK hP (CUW_D hq) hS 4 rfl rfl 5 (by decide) (hts (.fieldLink RX0 30 "LearnedReasons$AtOnce" "clash" "Z") (by decide +kernel)) (fun _ h9 => h9) rfl (by decide +kernel) rfl rfl (Nat.le_of_ble_eq_true rfl) dX0_clashes_22 (fun H locs hP _ hS => ?_)
    have hP : va_P D vwCl (CUW cI cJ q (fu (fu (fu I 8 v1) 9 v2) 10 1) J a b) H := hP
    refine lv_iconst (v := 1) hx hb dX0_clashes_25 (by decide) ?_
    refine lv_istore (lv' := [(4, .int 1), (0, .ref (q 4)), (1, .int v1), (2, .int v2), (3, .int v3)]) hx hb dX0_clashes_26 hl (by decide) rfl (fun ls hl => ?_)
    refine lv_iconst (v := 0) hx hb dX0_clashes_28 (by decide) ?_
    refine lv_istore (lv' := [(5, .int 0), (4, .int 1), (0, .ref (q 4)), (1, .int v1), (2, .int v2), (3, .int v3)]) hx hb dX0_clashes_29 hl (by decide) rfl (fun ls hl => ?_)
    exact C31 F v3 1 0 v1 v2 1 h _ _ hP hS ls (lv_sub hl [2, 5, 1, 0] rfl)
theorem in_X6_clashFromAssumed_X6 : ∀ w ∈ wsX60, w ∈ wsX6_clashFromAssumed := by decide +kernel
set_option maxHeartbeats 4000000 in
set_option maxRecDepth 100000 in
theorem c_X6_clashFromAssumed (l : Launch) (D : va_G) (cI cJ : ClassId) (q : Nat → Nat) (hq : CUQ q) (F : Nat) (I : Nat → Int32) (J : Nat → Int64) (a : Nat → Nat → Int32) (b : Nat → Nat → Int64) (x0 : Int32 × Int32 × Int32 × Int32) (h : f_X6_clashFromAssumed F I J a b = some x0) : Met l yX6_clashFromAssumed wsX6_clashFromAssumed ({ frames := 5, cells := 0, slots := 0, locals := 120 }) (CUPc D cI cJ q I J a b [.ref (q 0)]) (va_Qi (fun (r : Int32) (u : Int32 × Int32 × Int32) => r = x0.1 ∧ u = x0.2) (fun (u : Int32 × Int32 × Int32) t => va_P D vwCl (CUW cI cJ q (fu (fu (fu I 8 u.1) 9 u.2.1) 10 u.2.2) J a b) t.heap) (CUA q)) 0 0 (CUA q) := by
  refine mt_of (cc := cX6_clashFromAssumed) (maxL := 1) (ret := (some .boolean)) (by decide) rfl ?_
  intro p e s m args below meth c s₁ B0 hml hv R Q hR hQ
  obtain ⟨hargs, hP, hK, hN⟩ := hv
  have hx := B0.exec
  have hb := B0.bytes
  have hr := B0.returns
  have hts := atoms_spec (ws := wsX6_clashFromAssumed) B0.pre
  have hown : s.vm.findClass RX6 = some m.cls := findClass_of_methodNamed B0.named
  have hlocks := B0.notSynchronized
  have hS : va_S (CUA q) s.heap s.heap [] := va_S.rf
  have hl := lv_entry ([.ref (q 0)]) (n := 1) (Nat.le_of_ble_eq_true rfl)
  rw [hargs, lg_entry_eq]
  rw [← hargs]
  generalize (lg_sl ([.ref (q 0)]) ++ List.replicate (1 - (lg_sl ([.ref (q 0)])).length) Slot.unset).toArray = ls at hl ⊢
  have hl : lv_has ls 1 [(0, .ref (q 0))] := hl
  unfold f_X6_clashFromAssumed at h
  refine lv_aload_n hx hb dX6_clashFromAssumed_0 rfl (lv_at hl 0 rfl) ?_
  refine va_get (D := D) (ci := 6) (v := .ref (q 4)) (C := RX6) (T := TX6) (N := 9) hx hb hts in_X6_clashFromAssumed_X6 hown hK hP 0 rfl rfl 2 (by decide) (hts (.fieldLink RX6 31 "LearnedReasons" "atOnce" "LLearnedReasons$AtOnce;") (by decide +kernel)) (fun _ h9 => h9) rfl dX6_clashFromAssumed_1 ?_
  refine lv_aload_n hx hb dX6_clashFromAssumed_4 rfl (lv_at hl 0 rfl) ?_
  refine va_get (D := D) (ci := 6) (v := .int (I 2)) (C := RX6) (T := TX6) (N := 9) hx hb hts in_X6_clashFromAssumed_X6 hown hK hP 0 rfl rfl 7 (by decide) (hts (.fieldLink RX6 135 "LearnedReasons" "assumedTrue" "I") (by decide +kernel)) (fun _ h9 => h9) rfl dX6_clashFromAssumed_5 ?_
  refine lv_aload_n hx hb dX6_clashFromAssumed_8 rfl (lv_at hl 0 rfl) ?_
  refine va_get (D := D) (ci := 6) (v := .int (I 3)) (C := RX6) (T := TX6) (N := 9) hx hb hts in_X6_clashFromAssumed_X6 hown hK hP 0 rfl rfl 8 (by decide) (hts (.fieldLink RX6 138 "LearnedReasons" "assumedFalse" "I") (by decide +kernel)) (fun _ h9 => h9) rfl dX6_clashFromAssumed_9 ?_
  refine lv_iconst (v := 0) hx hb dX6_clashFromAssumed_12 (by decide) ?_
  obtain ⟨x_1, hx_1, h⟩ := ob_some h
  refine va_calli (va_runV (As := [.int (I 2), .int (I 3), .int 0]) (rest := []) ⟨hx, hb, hml, hown, hts⟩ (c_X0_clashes l D cI cJ q hq F I J a b (I 2) (I 3) 0 x_1 hx_1) (cwV 3 hts gX6_clashFromAssumed_X0_clashes rfl rfl rfl (by decide +kernel) (by rw [hR]; exact ⟨Nat.le_of_ble_eq_true rfl, Nat.le_of_ble_eq_true rfl⟩)) ⟨CUPc_blind, va_recv hK hP (ci := 0) (q0 := 4) rfl rfl, fun U hU hW => ⟨rfl, by rw [hU]; exact hP, va_K.moved hW.alike hK, va_Nw.warmM hW hN⟩⟩ rfl rfl hl.1 rfl (lv_room (Nat.le_of_ble_eq_true rfl)) dX6_clashFromAssumed_13 ⟨Nat.zero_le _, Nat.zero_le _⟩) hS (fun _ _ h => h) (fun _ h => h) (fun r u t H1 locs ht hvm hw hB hz1 hk1 hS => ?_)
  obtain ⟨rfl, rfl⟩ := hw
  rw [ht] at hB
  have hP : va_P D vwCl (CUW cI cJ q (fu (fu (fu I 8 x_1.2.1) 9 x_1.2.2.1) 10 x_1.2.2.2) J a b) H1 := hB
  clear hB hz1 hk1 ht hvm
  generalize H1 = H at hP hS ⊢
  obtain ⟨z_2, h⟩ := gz_some h
  have hx0 := Option.some.inj h
  rw [hQ]
  exact W.zret (v := x_1.1) hx hb hr (z_2.1) (fun t ht hW => ⟨⟨x_1.1, (x_1.2.1, x_1.2.2.1, x_1.2.2.2), rfl, ⟨congrArg (fun z => z.1) hx0, congrArg (fun z => z.2) hx0⟩, by show va_P _ _ _ t.heap; rw [ht]; exact hP⟩, hS.F ht⟩) hS.2.2 dX6_clashFromAssumed_16
set_option maxHeartbeats 4000000 in
set_option maxRecDepth 100000 in
theorem c_X6_conflict (l : Launch) (D : va_G) (cI cJ : ClassId) (q : Nat → Nat) (hq : CUQ q) (F : Nat) (I : Nat → Int32) (J : Nat → Int64) (a : Nat → Nat → Int32) (b : Nat → Nat → Int64) (x0 : Int32 × Int32 × Int32 × Int32) (h : f_X6_conflict F I J a b = some x0) : Met l yX6_conflict wsX6_conflict ({ frames := 6, cells := 0, slots := 0, locals := 140 }) (CUPc D cI cJ q I J a b [.ref (q 0)]) (va_Qi (fun (r : Int32) (u : Int32 × Int32 × Int32) => r = x0.1 ∧ u = x0.2) (fun (u : Int32 × Int32 × Int32) t => va_P D vwCl (CUW cI cJ q (fu (fu (fu I 8 u.1) 9 u.2.1) 10 u.2.2) J a b) t.heap) (CUA q)) 0 0 (CUA q) := by
  refine mt_of (cc := cX6_conflict) (maxL := 1) (ret := (some .int)) (by decide) rfl ?_
  intro p e s m args below meth c s₁ B0 hml hv R Q hR hQ
  obtain ⟨hargs, hP, hK, hN⟩ := hv
  have hx := B0.exec
  have hb := B0.bytes
  have hr := B0.returns
  have hts := atoms_spec (ws := wsX6_conflict) B0.pre
  have hown : s.vm.findClass RX6 = some m.cls := findClass_of_methodNamed B0.named
  have hlocks := B0.notSynchronized
  have hS : va_S (CUA q) s.heap s.heap [] := va_S.rf
  have hl := lv_entry ([.ref (q 0)]) (n := 1) (Nat.le_of_ble_eq_true rfl)
  rw [hargs, lg_entry_eq]
  rw [← hargs]
  generalize (lg_sl ([.ref (q 0)]) ++ List.replicate (1 - (lg_sl ([.ref (q 0)])).length) Slot.unset).toArray = ls at hl ⊢
  have hl : lv_has ls 1 [(0, .ref (q 0))] := hl
  unfold f_X6_conflict at h
  refine lv_aload_n hx hb dX6_conflict_0 rfl (lv_at hl 0 rfl) ?_
  obtain ⟨x_1, hx_1, h⟩ := ob_some h
  refine va_calli (va_runV (As := []) (rest := []) ⟨hx, hb, hml, hown, hts⟩ (c_X6_clashFromAssumed l D cI cJ q hq F I J a b x_1 hx_1) (cwV 0 hts gX6_conflict_X6_clashFromAssumed rfl rfl rfl (by decide +kernel) (by rw [hR]; exact ⟨Nat.le_of_ble_eq_true rfl, Nat.le_of_ble_eq_true rfl⟩)) ⟨CUPc_blind, va_recv hK hP (ci := 6) (q0 := 0) rfl rfl, fun U hU hW => ⟨rfl, by rw [hU]; exact hP, va_K.moved hW.alike hK, va_Nw.warmM hW hN⟩⟩ rfl rfl hl.1 rfl (lv_room (Nat.le_of_ble_eq_true rfl)) dX6_conflict_1 ⟨Nat.zero_le _, Nat.zero_le _⟩) hS (fun _ _ h => h) (fun _ h => h) (fun r u t H1 locs ht hvm hw hB hz1 hk1 hS => ?_)
  obtain ⟨rfl, rfl⟩ := hw
  rw [ht] at hB
  have hP : va_P D vwCl (CUW cI cJ q (fu (fu (fu I 8 x_1.2.1) 9 x_1.2.2.1) 10 x_1.2.2.2) J a b) H1 := hB
  clear hB hz1 hk1 ht hvm
  generalize H1 = H at hP hS ⊢
  refine lv_if_eq (tgt := 11) hx hb dX6_conflict_4 (by decide) (fun c_2 => ?_) (fun c_2 => ?_)
  · have h := if_t c_2 h
    refine lv_iconst (v := 0) hx hb dX6_conflict_11 (by decide) ?_
    have hx0 := Option.some.inj h
    rw [hQ]
    exact W.iret (v := 0) hx hb hr (fun t ht hW => ⟨⟨0, (x_1.2.1, x_1.2.2.1, x_1.2.2.2), rfl, ⟨congrArg (fun z => z.1) hx0, congrArg (fun z => z.2) hx0⟩, by show va_P _ _ _ t.heap; rw [ht]; exact hP⟩, hS.F ht⟩) hS.2.2 dX6_conflict_12
  · have h := if_f c_2 h
    refine lv_iconst (v := 1) hx hb dX6_conflict_7 (by decide) ?_
    refine lv_goto (tgt := 12) hx hb dX6_conflict_8 (by decide) ?_
    have hx0 := Option.some.inj h
    rw [hQ]
    exact W.iret (v := 1) hx hb hr (fun t ht hW => ⟨⟨1, (x_1.2.1, x_1.2.2.1, x_1.2.2.2), rfl, ⟨congrArg (fun z => z.1) hx0, congrArg (fun z => z.2) hx0⟩, by show va_P _ _ _ t.heap; rw [ht]; exact hP⟩, hS.F ht⟩) hS.2.2 dX6_conflict_12
theorem in_X0_trueNames_X0 : ∀ w ∈ wsX00, w ∈ wsX0_trueNames := by decide +kernel
set_option maxHeartbeats 4000000 in
set_option maxRecDepth 100000 in
theorem c_X0_trueNames (l : Launch) (D : va_G) (cI cJ : ClassId) (q : Nat → Nat) (hq : CUQ q) (F : Nat) (I : Nat → Int32) (J : Nat → Int64) (a : Nat → Nat → Int32) (b : Nat → Nat → Int64) (x0 : Int32) (h : f_X0_trueNames F I J a b = some x0) : Met l yX0_trueNames wsX0_trueNames ({ frames := 0, cells := 0, slots := 0, locals := 0 }) (CUPc D cI cJ q I J a b [.ref (q 4)]) (va_Qi (fun (r : Int32) (u : Unit) => r = x0) (fun (u : Unit) t => va_P D vwCl (CUW cI cJ q I J a b) t.heap) (CUA q)) 0 0 (CUA q) := by
  refine mt_of (cc := cX0_trueNames) (maxL := 1) (ret := (some .int)) (by decide) rfl ?_
  intro p e s m args below meth c s₁ B0 hml hv R Q hR hQ
  obtain ⟨hargs, hP, hK, hN⟩ := hv
  have hx := B0.exec
  have hb := B0.bytes
  have hr := B0.returns
  have hts := atoms_spec (ws := wsX0_trueNames) B0.pre
  have hown : s.vm.findClass RX0 = some m.cls := findClass_of_methodNamed B0.named
  have hlocks := B0.notSynchronized
  have hS : va_S (CUA q) s.heap s.heap [] := va_S.rf
  have hl := lv_entry ([.ref (q 4)]) (n := 1) (Nat.le_of_ble_eq_true rfl)
  rw [hargs, lg_entry_eq]
  rw [← hargs]
  generalize (lg_sl ([.ref (q 4)]) ++ List.replicate (1 - (lg_sl ([.ref (q 4)])).length) Slot.unset).toArray = ls at hl ⊢
  have hl : lv_has ls 1 [(0, .ref (q 4))] := hl
  unfold f_X0_trueNames at h
  refine lv_aload_n hx hb dX0_trueNames_0 rfl (lv_at hl 0 rfl) ?_
  refine va_get (D := D) (ci := 0) (v := .int (I 8)) (C := RX0) (T := TX0) (N := 6) hx hb hts in_X0_trueNames_X0 hown hK hP 4 rfl rfl 3 (by decide) (hts (.fieldLink RX0 23 "LearnedReasons$AtOnce" "isTrue" "I") (by decide +kernel)) (fun _ h9 => h9) rfl dX0_trueNames_1 ?_
  have hx0 := Option.some.inj h
  rw [hQ]
  exact W.iret (v := I 8) hx hb hr (fun t ht hW => ⟨⟨(I 8), (), rfl, hx0, by show va_P _ _ _ t.heap; rw [ht]; exact hP⟩, hS.F ht⟩) hS.2.2 dX0_trueNames_4
