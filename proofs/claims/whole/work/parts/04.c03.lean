theorem in_X5_numbersGiven_X5 : ∀ w ∈ wsX50, w ∈ wsX5_numbersGiven := by decide +kernel
set_option maxHeartbeats 4000000 in
set_option maxRecDepth 100000 in
theorem c_X5_numbersGiven (l : Launch) (D : va_G) (cI cJ : ClassId) (q : Nat → Nat) (hq : CUQ q) (F : Nat) (I : Nat → Int32) (J : Nat → Int64) (a : Nat → Nat → Int32) (b : Nat → Nat → Int64) (x0 : Int32) (h : f_X5_numbersGiven F I J a b = some x0) : Met l yX5_numbersGiven wsX5_numbersGiven ({ frames := 0, cells := 0, slots := 0, locals := 0 }) (CUPc D cI cJ q I J a b [.ref (q 1)]) (va_Qi (fun (r : Int32) (u : Unit) => r = x0) (fun (u : Unit) t => va_P D vwCl (CUW cI cJ q I J a b) t.heap) (CUA q)) 0 0 (CUA q) := by
  refine mt_of (cc := cX5_numbersGiven) (maxL := 1) (ret := (some .int)) (by decide) rfl ?_
  intro p e s m args below meth c s₁ B0 hml hv R Q hR hQ
  obtain ⟨hargs, hP, hK, hN⟩ := hv
  have hx := B0.exec
  have hb := B0.bytes
  have hr := B0.returns
  have hts := atoms_spec (ws := wsX5_numbersGiven) B0.pre
  have hown : s.vm.findClass RX5 = some m.cls := findClass_of_methodNamed B0.named
  have hlocks := B0.notSynchronized
  have hS : va_S (CUA q) s.heap s.heap [] := va_S.rf
  have hl := lv_entry ([.ref (q 1)]) (n := 1) (Nat.le_of_ble_eq_true rfl)
  rw [hargs, lg_entry_eq]
  rw [← hargs]
  generalize (lg_sl ([.ref (q 1)]) ++ List.replicate (1 - (lg_sl ([.ref (q 1)])).length) Slot.unset).toArray = ls at hl ⊢
  have hl : lv_has ls 1 [(0, .ref (q 1))] := hl
  unfold f_X5_numbersGiven at h
  refine lv_aload_n hx hb dX5_numbersGiven_0 rfl (lv_at hl 0 rfl) ?_
  refine va_get (D := D) (ci := 5) (v := .int (I 5)) (C := RX5) (T := TX5) (N := 9) hx hb hts in_X5_numbersGiven_X5 hown hK hP 1 rfl rfl 1 (by decide) (hts (.fieldLink RX5 35 "LearnedReasons$Things" "numbersGiven" "I") (by decide +kernel)) (fun _ h9 => h9) rfl dX5_numbersGiven_1 ?_
  have hx0 := Option.some.inj h
  rw [hQ]
  exact W.iret (v := I 5) hx hb hr (fun t ht hW => ⟨⟨(I 5), (), rfl, hx0, by show va_P _ _ _ t.heap; rw [ht]; exact hP⟩, hS.F ht⟩) hS.2.2 dX5_numbersGiven_4
theorem in_X5_boundOf_X5 : ∀ w ∈ wsX50, w ∈ wsX5_boundOf := by decide +kernel
set_option maxHeartbeats 4000000 in
set_option maxRecDepth 100000 in
theorem c_X5_boundOf (l : Launch) (D : va_G) (cI cJ : ClassId) (q : Nat → Nat) (hq : CUQ q) (F : Nat) (I : Nat → Int32) (J : Nat → Int64) (a : Nat → Nat → Int32) (b : Nat → Nat → Int64) (v1 : Int32) (x0 : Int32) (h : f_X5_boundOf F I J a b v1 = some x0) : Met l yX5_boundOf wsX5_boundOf ({ frames := 0, cells := 0, slots := 0, locals := 0 }) (CUPc D cI cJ q I J a b [.ref (q 1), .int v1]) (va_Qi (fun (r : Int32) (u : Unit) => r = x0) (fun (u : Unit) t => va_P D vwCl (CUW cI cJ q I J a b) t.heap) (CUA q)) 0 0 (CUA q) := by
  refine mt_of (cc := cX5_boundOf) (maxL := 2) (ret := (some .int)) (by decide) rfl ?_
  intro p e s m args below meth c s₁ B0 hml hv R Q hR hQ
  obtain ⟨hargs, hP, hK, hN⟩ := hv
  have hx := B0.exec
  have hb := B0.bytes
  have hr := B0.returns
  have hts := atoms_spec (ws := wsX5_boundOf) B0.pre
  have hown : s.vm.findClass RX5 = some m.cls := findClass_of_methodNamed B0.named
  have hlocks := B0.notSynchronized
  have hS : va_S (CUA q) s.heap s.heap [] := va_S.rf
  have hl := lv_entry ([.ref (q 1), .int v1]) (n := 2) (Nat.le_of_ble_eq_true rfl)
  rw [hargs, lg_entry_eq]
  rw [← hargs]
  generalize (lg_sl ([.ref (q 1), .int v1]) ++ List.replicate (2 - (lg_sl ([.ref (q 1), .int v1])).length) Slot.unset).toArray = ls at hl ⊢
  have hl : lv_has ls 2 [(0, .ref (q 1)), (1, .int v1)] := hl
  unfold f_X5_boundOf at h
  refine lv_aload_n hx hb dX5_boundOf_0 rfl (lv_at hl 0 rfl) ?_
  refine va_get (D := D) (ci := 5) (v := .ref (q 9)) (C := RX5) (T := TX5) (N := 9) hx hb hts in_X5_boundOf_X5 hown hK hP 1 rfl rfl 7 (by decide) (hts (.fieldLink RX5 18 "LearnedReasons$Things" "bounds" "[I") (by decide +kernel)) (fun _ h9 => h9) rfl dX5_boundOf_1 ?_
  refine lv_iload_n hx hb dX5_boundOf_4 rfl (lv_at hl 1 rfl) ?_
  obtain ⟨g_1, h⟩ := gd_some h
  refine va_iald hx hb hK hP 9 0 rfl rfl g_1 dX5_boundOf_5 ?_
  have hx0 := Option.some.inj h
  rw [hQ]
  exact W.iret (v := (a 2) v1.toNatClampNeg) hx hb hr (fun t ht hW => ⟨⟨((a 2) v1.toNatClampNeg), (), rfl, hx0, by show va_P _ _ _ t.heap; rw [ht]; exact hP⟩, hS.F ht⟩) hS.2.2 dX5_boundOf_6
theorem in_X5_weightOf_X5 : ∀ w ∈ wsX50, w ∈ wsX5_weightOf := by decide +kernel
set_option maxHeartbeats 4000000 in
set_option maxRecDepth 100000 in
theorem c_X5_weightOf (l : Launch) (D : va_G) (cI cJ : ClassId) (q : Nat → Nat) (hq : CUQ q) (F : Nat) (I : Nat → Int32) (J : Nat → Int64) (a : Nat → Nat → Int32) (b : Nat → Nat → Int64) (v1 : Int32) (v2 : Int32) (x0 : Int32) (h : f_X5_weightOf F I J a b v1 v2 = some x0) : Met l yX5_weightOf wsX5_weightOf ({ frames := 0, cells := 0, slots := 0, locals := 0 }) (CUPc D cI cJ q I J a b [.ref (q 1), .int v1, .int v2]) (va_Qi (fun (r : Int32) (u : Unit) => r = x0) (fun (u : Unit) t => va_P D vwCl (CUW cI cJ q I J a b) t.heap) (CUA q)) 0 0 (CUA q) := by
  refine mt_of (cc := cX5_weightOf) (maxL := 3) (ret := (some .int)) (by decide) rfl ?_
  intro p e s m args below meth c s₁ B0 hml hv R Q hR hQ
  obtain ⟨hargs, hP, hK, hN⟩ := hv
  have hx := B0.exec
  have hb := B0.bytes
  have hr := B0.returns
  have hts := atoms_spec (ws := wsX5_weightOf) B0.pre
  have hown : s.vm.findClass RX5 = some m.cls := findClass_of_methodNamed B0.named
  have hlocks := B0.notSynchronized
  have hS : va_S (CUA q) s.heap s.heap [] := va_S.rf
  have hl := lv_entry ([.ref (q 1), .int v1, .int v2]) (n := 3) (Nat.le_of_ble_eq_true rfl)
  rw [hargs, lg_entry_eq]
  rw [← hargs]
  generalize (lg_sl ([.ref (q 1), .int v1, .int v2]) ++ List.replicate (3 - (lg_sl ([.ref (q 1), .int v1, .int v2])).length) Slot.unset).toArray = ls at hl ⊢
  have hl : lv_has ls 3 [(0, .ref (q 1)), (1, .int v1), (2, .int v2)] := hl
  unfold f_X5_weightOf at h
  refine lv_aload_n hx hb dX5_weightOf_0 rfl (lv_at hl 0 rfl) ?_
  refine va_get (D := D) (ci := 5) (v := .ref (q 10)) (C := RX5) (T := TX5) (N := 9) hx hb hts in_X5_weightOf_X5 hown hK hP 1 rfl rfl 8 (by decide) (hts (.fieldLink RX5 21 "LearnedReasons$Things" "weights" "[I") (by decide +kernel)) (fun _ h9 => h9) rfl dX5_weightOf_1 ?_
  refine lv_iload_n hx hb dX5_weightOf_4 rfl (lv_at hl 1 rfl) ?_
  refine lv_bipush (v := 14) hx hb dX5_weightOf_5 (by decide) ?_
  refine lv_imul hx hb dX5_weightOf_7 ?_
  refine lv_iload_n hx hb dX5_weightOf_8 rfl (lv_at hl 2 rfl) ?_
  refine lv_iadd hx hb dX5_weightOf_9 ?_
  obtain ⟨g_1, h⟩ := gd_some h
  refine va_iald hx hb hK hP 10 0 rfl rfl g_1 dX5_weightOf_10 ?_
  have hx0 := Option.some.inj h
  rw [hQ]
  exact W.iret (v := (a 3) ((v1 * 14) + v2).toNatClampNeg) hx hb hr (fun t ht hW => ⟨⟨((a 3) ((v1 * 14) + v2).toNatClampNeg), (), rfl, hx0, by show va_P _ _ _ t.heap; rw [ht]; exact hP⟩, hS.F ht⟩) hS.2.2 dX5_weightOf_11
theorem in_X0_leastSum_X0 : ∀ w ∈ wsX00, w ∈ wsX0_leastSum := by decide +kernel
set_option maxHeartbeats 4000000 in
set_option maxRecDepth 100000 in
theorem c_X0_leastSum (l : Launch) (D : va_G) (cI cJ : ClassId) (q : Nat → Nat) (hq : CUQ q) (F : Nat) (I : Nat → Int32) (J : Nat → Int64) (a : Nat → Nat → Int32) (b : Nat → Nat → Int64) (v1 : Int32) (x0 : Int32) (h : f_X0_leastSum F I J a b v1 = some x0) : Met l yX0_leastSum wsX0_leastSum ({ frames := 1, cells := 0, slots := 0, locals := 22 }) (CUPc D cI cJ q I J a b [.ref (q 4), .int v1]) (va_Qi (fun (r : Int32) (u : Unit) => r = x0) (fun (u : Unit) t => va_P D vwCl (CUW cI cJ q I J a b) t.heap) (CUA q)) 0 0 (CUA q) := by
  refine mt_of (cc := cX0_leastSum) (maxL := 6) (ret := (some .int)) (by decide) rfl ?_
  intro p e s m args below meth c s₁ B0 hml hv R Q hR hQ
  obtain ⟨hargs, hP, hK, hN⟩ := hv
  have hx := B0.exec
  have hb := B0.bytes
  have hr := B0.returns
  have hts := atoms_spec (ws := wsX0_leastSum) B0.pre
  have hown : s.vm.findClass RX0 = some m.cls := findClass_of_methodNamed B0.named
  have hlocks := B0.notSynchronized
  have hS : va_S (CUA q) s.heap s.heap [] := va_S.rf
  have hl := lv_entry ([.ref (q 4), .int v1]) (n := 6) (Nat.le_of_ble_eq_true rfl)
  rw [hargs, lg_entry_eq]
  rw [← hargs]
  generalize (lg_sl ([.ref (q 4), .int v1]) ++ List.replicate (6 - (lg_sl ([.ref (q 4), .int v1])).length) Slot.unset).toArray = ls at hl ⊢
  have hl : lv_has ls 6 [(0, .ref (q 4)), (1, .int v1)] := hl
  unfold f_X0_leastSum at h
  have C13 : ∀ (n13 : Nat) (v1 : Int32) (v2 : Int32) (v3 : Int32) (v4 : Int32), k_X0_leastSum_13 F I J a b n13 v1 v2 v3 v4 = some x0 → ∀ (H : Heap) (locs : List Loc), va_P D vwCl (CUW cI cJ q I J a b) H → va_S (CUA q) s.heap H locs → ∀ ls : Array Slot, lv_has ls 6 [(0, .ref (q 4)), (1, .int v1), (2, .int v2), (3, .int v3), (4, .int v4)] → W p l e R s m args below meth c H locs 0 0 Q (F0 m 13 ls []) := by
    intro n13
    induction n13 with
    | zero => intro v1 v2 v3 v4 h; rw [k_X0_leastSum_13] at h; cases h
    | succ n13 ih13 =>
      intro v1 v2 v3 v4 h H locs hP hS ls hl
      rw [k_X0_leastSum_13] at h
      refine lv_iload hx hb dX0_leastSum_13 (lv_at hl 4 rfl) ?_
      refine lv_iload_n hx hb dX0_leastSum_15 rfl (lv_at hl 3 rfl) ?_
      refine lv_icmp_ge (tgt := 72) hx hb dX0_leastSum_16 (by decide) (fun c_1 => ?_) (fun c_1 => ?_)
      · have h := if_t c_1 h
        refine lv_iload_n hx hb dX0_leastSum_72 rfl (lv_at hl 2 rfl) ?_
        have hx0 := Option.some.inj h
        rw [hQ]
        exact W.iret (v := v2) hx hb hr (fun t ht hW => ⟨⟨v2, (), rfl, hx0, by show va_P _ _ _ t.heap; rw [ht]; exact hP⟩, hS.F ht⟩) hS.2.2 dX0_leastSum_73
      · have h := if_f c_1 h
        refine lv_aload_n hx hb dX0_leastSum_19 rfl (lv_at hl 0 rfl) ?_
        refine va_get (D := D) (ci := 0) (v := .ref (q 1)) (C := RX0) (T := TX0) (N := 6) hx hb hts in_X0_leastSum_X0 hown hK hP 4 rfl rfl 0 (by decide) (hts (.fieldLink RX0 9 "LearnedReasons$AtOnce" "things" "LLearnedReasons$Things;") (by decide +kernel)) (fun _ h9 => h9) rfl dX0_leastSum_20 ?_
        refine lv_iload_n hx hb dX0_leastSum_23 rfl (lv_at hl 1 rfl) ?_
        refine lv_iload hx hb dX0_leastSum_24 (lv_at hl 4 rfl) ?_
        obtain ⟨x_2, hx_2, h⟩ := ob_some h
        refine va_calli (va_runV (As := [.int v1, .int v4]) (rest := []) ⟨hx, hb, hml, hown, hts⟩ (c_X5_weightOf l D cI cJ q hq F I J a b v1 v4 x_2 hx_2) (cwV 2 hts gX0_leastSum_X5_weightOf rfl rfl rfl (by decide +kernel) (by rw [hR]; exact ⟨Nat.le_of_ble_eq_true rfl, Nat.le_of_ble_eq_true rfl⟩)) ⟨CUPc_blind, va_recv hK hP (ci := 5) (q0 := 1) rfl rfl, fun U hU hW => ⟨rfl, by rw [hU]; exact hP, va_K.moved hW.alike hK, va_Nw.warmM hW hN⟩⟩ rfl rfl hl.1 rfl (lv_room (Nat.le_of_ble_eq_true rfl)) dX0_leastSum_26 ⟨Nat.zero_le _, Nat.zero_le _⟩) hS (fun _ _ h => h) (fun _ h => h) (fun r u t H1 locs ht hvm hw hB hz1 hk1 hS => ?_)
        obtain rfl := hw.symm
        rw [ht] at hB
        have hP : va_P D vwCl (CUW cI cJ q I J a b) H1 := hB
        clear hB hz1 hk1 ht hvm
        generalize H1 = H at hP hS ⊢
        refine lv_istore (lv' := [(5, .int x_2), (0, .ref (q 4)), (1, .int v1), (2, .int v2), (3, .int v3), (4, .int v4)]) hx hb dX0_leastSum_29 hl (by decide) rfl (fun ls hl => ?_)
        refine lv_aload_n hx hb dX0_leastSum_31 rfl (lv_at hl 1 rfl) ?_
        refine va_get (D := D) (ci := 0) (v := .int (I 8)) (C := RX0) (T := TX0) (N := 6) hx hb hts in_X0_leastSum_X0 hown hK hP 4 rfl rfl 3 (by decide) (hts (.fieldLink RX0 23 "LearnedReasons$AtOnce" "isTrue" "I") (by decide +kernel)) (fun _ h9 => h9) rfl dX0_leastSum_32 ?_
        refine lv_iload hx hb dX0_leastSum_35 (lv_at hl 5 rfl) ?_
        refine lv_ishr hx hb dX0_leastSum_37 ?_
        refine lv_iconst (v := 1) hx hb dX0_leastSum_38 (by decide) ?_
        refine lv_iand hx hb dX0_leastSum_39 ?_
        refine lv_iconst (v := 1) hx hb dX0_leastSum_40 (by decide) ?_
        refine lv_icmp_eq (tgt := 61) hx hb dX0_leastSum_41 (by decide) (fun c_3 => ?_) (fun c_3 => ?_)
        · have h := if_t c_3 h
          refine lv_iload_n hx hb dX0_leastSum_61 rfl (lv_at hl 3 rfl) ?_
          refine lv_iload hx hb dX0_leastSum_62 (lv_at hl 0 rfl) ?_
          refine lv_iadd hx hb dX0_leastSum_64 ?_
          refine lv_topi (fun v_4 ev_4 => ?_)
          have h := nmI_at ev_4 h
          refine lv_istore_n (lv' := [(2, .int v_4), (5, .int x_2), (0, .ref (q 4)), (1, .int v1), (3, .int v3), (4, .int v4)]) hx hb dX0_leastSum_65 rfl hl (by decide) rfl (fun ls hl => ?_)
          refine lv_iinc (v := v4 + 1) (lv' := [(4, .int (v4 + 1)), (2, .int v_4), (5, .int x_2), (0, .ref (q 4)), (1, .int v1), (3, .int v3)]) hx hb dX0_leastSum_66 hl (k := 5) rfl rfl (by decide) rfl (fun ls hl => ?_)
          refine lv_goto (tgt := 13) hx hb dX0_leastSum_69 (by decide) ?_
          exact ih13 v1 v_4 v3 (v4 + 1) h _ _ hP hS ls (lv_sub hl [3, 4, 1, 5, 0] rfl)
        · have h := if_f c_3 h
          refine lv_iload hx hb dX0_leastSum_44 (lv_at hl 0 rfl) ?_
          refine lv_if_ge (tgt := 66) hx hb dX0_leastSum_46 (by decide) (fun c_5 => ?_) (fun c_5 => ?_)
          · have h := if_t c_5 h
            refine lv_iinc (v := v4 + 1) (lv' := [(4, .int (v4 + 1)), (5, .int x_2), (0, .ref (q 4)), (1, .int v1), (2, .int v2), (3, .int v3)]) hx hb dX0_leastSum_66 hl (k := 5) rfl rfl (by decide) rfl (fun ls hl => ?_)
            refine lv_goto (tgt := 13) hx hb dX0_leastSum_69 (by decide) ?_
            exact ih13 v1 v2 v3 (v4 + 1) h _ _ hP hS ls (lv_sub hl [2, 3, 4, 5, 0] rfl)
          · have h := if_f c_5 h
            refine lv_aload_n hx hb dX0_leastSum_49 rfl (lv_at hl 1 rfl) ?_
            refine va_get (D := D) (ci := 0) (v := .int (I 9)) (C := RX0) (T := TX0) (N := 6) hx hb hts in_X0_leastSum_X0 hown hK hP 4 rfl rfl 4 (by decide) (hts (.fieldLink RX0 27 "LearnedReasons$AtOnce" "isFalse" "I") (by decide +kernel)) (fun _ h9 => h9) rfl dX0_leastSum_50 ?_
            refine lv_iload hx hb dX0_leastSum_53 (lv_at hl 5 rfl) ?_
            refine lv_ishr hx hb dX0_leastSum_55 ?_
            refine lv_iconst (v := 1) hx hb dX0_leastSum_56 (by decide) ?_
            refine lv_iand hx hb dX0_leastSum_57 ?_
            refine lv_if_ne (tgt := 66) hx hb dX0_leastSum_58 (by decide) (fun c_6 => ?_) (fun c_6 => ?_)
            · have h := if_f c_6 h
              refine lv_iinc (v := v4 + 1) (lv' := [(4, .int (v4 + 1)), (5, .int x_2), (0, .ref (q 4)), (1, .int v1), (2, .int v2), (3, .int v3)]) hx hb dX0_leastSum_66 hl (k := 5) rfl rfl (by decide) rfl (fun ls hl => ?_)
              refine lv_goto (tgt := 13) hx hb dX0_leastSum_69 (by decide) ?_
              exact ih13 v1 v2 v3 (v4 + 1) h _ _ hP hS ls (lv_sub hl [2, 3, 4, 5, 0] rfl)
            · have h := if_t c_6 h
              refine lv_iload_n hx hb dX0_leastSum_61 rfl (lv_at hl 3 rfl) ?_
              refine lv_iload hx hb dX0_leastSum_62 (lv_at hl 0 rfl) ?_
              refine lv_iadd hx hb dX0_leastSum_64 ?_
              refine lv_topi (fun v_7 ev_7 => ?_)
              have h := nmI_at ev_7 h
              refine lv_istore_n (lv' := [(2, .int v_7), (5, .int x_2), (0, .ref (q 4)), (1, .int v1), (3, .int v3), (4, .int v4)]) hx hb dX0_leastSum_65 rfl hl (by decide) rfl (fun ls hl => ?_)
              refine lv_iinc (v := v4 + 1) (lv' := [(4, .int (v4 + 1)), (2, .int v_7), (5, .int x_2), (0, .ref (q 4)), (1, .int v1), (3, .int v3)]) hx hb dX0_leastSum_66 hl (k := 5) rfl rfl (by decide) rfl (fun ls hl => ?_)
              refine lv_goto (tgt := 13) hx hb dX0_leastSum_69 (by decide) ?_
              exact ih13 v1 v_7 v3 (v4 + 1) h _ _ hP hS ls (lv_sub hl [3, 4, 1, 5, 0] rfl)
  refine lv_iconst (v := 0) hx hb dX0_leastSum_0 (by decide) ?_
  refine lv_istore_n (lv' := [(2, .int 0), (0, .ref (q 4)), (1, .int v1)]) hx hb dX0_leastSum_1 rfl hl (by decide) rfl (fun ls hl => ?_)
  refine lv_aload_n hx hb dX0_leastSum_2 rfl (lv_at hl 1 rfl) ?_
  refine va_get (D := D) (ci := 0) (v := .ref (q 1)) (C := RX0) (T := TX0) (N := 6) hx hb hts in_X0_leastSum_X0 hown hK hP 4 rfl rfl 0 (by decide) (hts (.fieldLink RX0 9 "LearnedReasons$AtOnce" "things" "LLearnedReasons$Things;") (by decide +kernel)) (fun _ h9 => h9) rfl dX0_leastSum_3 ?_
  obtain ⟨x_8, hx_8, h⟩ := ob_some h
  refine va_calli (va_runV (As := []) (rest := []) ⟨hx, hb, hml, hown, hts⟩ (c_X5_names l D cI cJ q hq F I J a b x_8 hx_8) (cwV 0 hts gX0_leastSum_X5_names rfl rfl rfl (by decide +kernel) (by rw [hR]; exact ⟨Nat.le_of_ble_eq_true rfl, Nat.le_of_ble_eq_true rfl⟩)) ⟨CUPc_blind, va_recv hK hP (ci := 5) (q0 := 1) rfl rfl, fun U hU hW => ⟨rfl, by rw [hU]; exact hP, va_K.moved hW.alike hK, va_Nw.warmM hW hN⟩⟩ rfl rfl hl.1 rfl (lv_room (Nat.le_of_ble_eq_true rfl)) dX0_leastSum_6 ⟨Nat.zero_le _, Nat.zero_le _⟩) hS (fun _ _ h => h) (fun _ h => h) (fun r u t H1 locs ht hvm hw hB hz1 hk1 hS => ?_)
  obtain rfl := hw.symm
  rw [ht] at hB
  have hP : va_P D vwCl (CUW cI cJ q I J a b) H1 := hB
  clear hB hz1 hk1 ht hvm
  generalize H1 = H at hP hS ⊢
  refine lv_istore_n (lv' := [(3, .int x_8), (2, .int 0), (0, .ref (q 4)), (1, .int v1)]) hx hb dX0_leastSum_9 rfl hl (by decide) rfl (fun ls hl => ?_)
  refine lv_iconst (v := 0) hx hb dX0_leastSum_10 (by decide) ?_
  refine lv_istore (lv' := [(4, .int 0), (3, .int x_8), (2, .int 0), (0, .ref (q 4)), (1, .int v1)]) hx hb dX0_leastSum_11 hl (by decide) rfl (fun ls hl => ?_)
  exact C13 F v1 0 x_8 0 h _ _ hP hS ls (lv_sub hl [3, 4, 2, 1, 0] rfl)
theorem in_X0_isKnown_X0 : ∀ w ∈ wsX00, w ∈ wsX0_isKnown := by decide +kernel
set_option maxHeartbeats 4000000 in
set_option maxRecDepth 100000 in
theorem c_X0_isKnown (l : Launch) (D : va_G) (cI cJ : ClassId) (q : Nat → Nat) (hq : CUQ q) (F : Nat) (I : Nat → Int32) (J : Nat → Int64) (a : Nat → Nat → Int32) (b : Nat → Nat → Int64) (v1 : Int32) (x0 : Int32) (h : f_X0_isKnown F I J a b v1 = some x0) : Met l yX0_isKnown wsX0_isKnown ({ frames := 0, cells := 0, slots := 0, locals := 0 }) (CUPc D cI cJ q I J a b [.ref (q 4), .int v1]) (va_Qi (fun (r : Int32) (u : Unit) => r = x0) (fun (u : Unit) t => va_P D vwCl (CUW cI cJ q I J a b) t.heap) (CUA q)) 0 0 (CUA q) := by
  refine mt_of (cc := cX0_isKnown) (maxL := 2) (ret := (some .boolean)) (by decide) rfl ?_
  intro p e s m args below meth c s₁ B0 hml hv R Q hR hQ
  obtain ⟨hargs, hP, hK, hN⟩ := hv
  have hx := B0.exec
  have hb := B0.bytes
  have hr := B0.returns
  have hts := atoms_spec (ws := wsX0_isKnown) B0.pre
  have hown : s.vm.findClass RX0 = some m.cls := findClass_of_methodNamed B0.named
  have hlocks := B0.notSynchronized
  have hS : va_S (CUA q) s.heap s.heap [] := va_S.rf
  have hl := lv_entry ([.ref (q 4), .int v1]) (n := 2) (Nat.le_of_ble_eq_true rfl)
  rw [hargs, lg_entry_eq]
  rw [← hargs]
  generalize (lg_sl ([.ref (q 4), .int v1]) ++ List.replicate (2 - (lg_sl ([.ref (q 4), .int v1])).length) Slot.unset).toArray = ls at hl ⊢
  have hl : lv_has ls 2 [(0, .ref (q 4)), (1, .int v1)] := hl
  unfold f_X0_isKnown at h
  refine lv_aload_n hx hb dX0_isKnown_0 rfl (lv_at hl 0 rfl) ?_
  refine va_get (D := D) (ci := 0) (v := .int (I 8)) (C := RX0) (T := TX0) (N := 6) hx hb hts in_X0_isKnown_X0 hown hK hP 4 rfl rfl 3 (by decide) (hts (.fieldLink RX0 23 "LearnedReasons$AtOnce" "isTrue" "I") (by decide +kernel)) (fun _ h9 => h9) rfl dX0_isKnown_1 ?_
  refine lv_aload_n hx hb dX0_isKnown_4 rfl (lv_at hl 0 rfl) ?_
  refine va_get (D := D) (ci := 0) (v := .int (I 9)) (C := RX0) (T := TX0) (N := 6) hx hb hts in_X0_isKnown_X0 hown hK hP 4 rfl rfl 4 (by decide) (hts (.fieldLink RX0 27 "LearnedReasons$AtOnce" "isFalse" "I") (by decide +kernel)) (fun _ h9 => h9) rfl dX0_isKnown_5 ?_
  refine lv_ior hx hb dX0_isKnown_8 ?_
  refine lv_iload_n hx hb dX0_isKnown_9 rfl (lv_at hl 1 rfl) ?_
  refine lv_ishr hx hb dX0_isKnown_10 ?_
  refine lv_iconst (v := 1) hx hb dX0_isKnown_11 (by decide) ?_
  refine lv_iand hx hb dX0_isKnown_12 ?_
  refine lv_iconst (v := 1) hx hb dX0_isKnown_13 (by decide) ?_
  refine lv_icmp_ne (tgt := 21) hx hb dX0_isKnown_14 (by decide) (fun c_1 => ?_) (fun c_1 => ?_)
  · have h := if_f c_1 h
    refine lv_iconst (v := 0) hx hb dX0_isKnown_21 (by decide) ?_
    have hx0 := Option.some.inj h
    rw [hQ]
    exact W.zret (v := 0) hx hb hr (rfl) (fun t ht hW => ⟨⟨0, (), rfl, hx0, by show va_P _ _ _ t.heap; rw [ht]; exact hP⟩, hS.F ht⟩) hS.2.2 dX0_isKnown_22
  · have h := if_t c_1 h
    refine lv_iconst (v := 1) hx hb dX0_isKnown_17 (by decide) ?_
    refine lv_goto (tgt := 22) hx hb dX0_isKnown_18 (by decide) ?_
    have hx0 := Option.some.inj h
    rw [hQ]
    exact W.zret (v := 1) hx hb hr (rfl) (fun t ht hW => ⟨⟨1, (), rfl, hx0, by show va_P _ _ _ t.heap; rw [ht]; exact hP⟩, hS.F ht⟩) hS.2.2 dX0_isKnown_22
theorem in_X0_followRow_X0 : ∀ w ∈ wsX00, w ∈ wsX0_followRow := by decide +kernel
set_option maxHeartbeats 4000000 in
set_option maxRecDepth 100000 in
theorem c_X0_followRow (l : Launch) (D : va_G) (cI cJ : ClassId) (q : Nat → Nat) (hq : CUQ q) (F : Nat) (I : Nat → Int32) (J : Nat → Int64) (a : Nat → Nat → Int32) (b : Nat → Nat → Int64) (v1 : Int32) (x0 : Int32 × Int32 × Int32) (h : f_X0_followRow F I J a b v1 = some x0) : Met l yX0_followRow wsX0_followRow ({ frames := 2, cells := 0, slots := 0, locals := 47 }) (CUPc D cI cJ q I J a b [.ref (q 4), .int v1]) (va_Qv (fun (u : Int32 × Int32 × Int32) => u = x0) (fun (u : Int32 × Int32 × Int32) t => va_P D vwCl (CUW cI cJ q (fu (fu (fu I 8 u.1) 9 u.2.1) 10 u.2.2) J a b) t.heap) (CUA q)) 0 0 (CUA q) := by
  refine mt_of (cc := cX0_followRow) (maxL := 6) (ret := none) (by decide) rfl ?_
  intro p e s m args below meth c s₁ B0 hml hv R Q hR hQ
  obtain ⟨hargs, hP, hK, hN⟩ := hv
  have hx := B0.exec
  have hb := B0.bytes
  have hr := B0.returns
  have hts := atoms_spec (ws := wsX0_followRow) B0.pre
  have hown : s.vm.findClass RX0 = some m.cls := findClass_of_methodNamed B0.named
  have hlocks := B0.notSynchronized
  have hS : va_S (CUA q) s.heap s.heap [] := va_S.rf
  have hl := lv_entry ([.ref (q 4), .int v1]) (n := 6) (Nat.le_of_ble_eq_true rfl)
  rw [hargs, lg_entry_eq]
  rw [← hargs]
  generalize (lg_sl ([.ref (q 4), .int v1]) ++ List.replicate (6 - (lg_sl ([.ref (q 4), .int v1])).length) Slot.unset).toArray = ls at hl ⊢
  have hl : lv_has ls 6 [(0, .ref (q 4)), (1, .int v1)] := hl
  unfold f_X0_followRow at h
  have C36 : ∀ (n36 : Nat) (v1 : Int32) (v2 : Int32) (v3 : Int32) (v4 : Int32) (I8 : Int32) (I9 : Int32), k_X0_followRow_36 F I J a b n36 v1 v2 v3 v4 I8 I9 = some x0 → ∀ (H : Heap) (locs : List Loc), va_P D vwCl (CUW cI cJ q (fu (fu I 8 I8) 9 I9) J a b) H → va_S (CUA q) s.heap H locs → ∀ ls : Array Slot, lv_has ls 6 [(0, .ref (q 4)), (1, .int v1), (2, .int v2), (3, .int v3), (4, .int v4)] → W p l e R s m args below meth c H locs 0 0 Q (F0 m 36 ls []) := by
    intro n36
    induction n36 with
    | zero => intro v1 v2 v3 v4 I8 I9 h; rw [k_X0_followRow_36] at h; cases h
    | succ n36 ih36 =>
      intro v1 v2 v3 v4 I8 I9 h H locs hP hS ls hl
      rw [k_X0_followRow_36] at h
      have C85 : ∀ (v1 : Int32) (v2 : Int32) (v3 : Int32) (v4 : Int32) (v5 : Int32) (I8 : Int32) (I9 : Int32), k_X0_followRow_85 F I J a b (k_X0_followRow_36 F I J a b n36) v1 v2 v3 v4 v5 I8 I9 = some x0 → ∀ (H : Heap) (locs : List Loc), va_P D vwCl (CUW cI cJ q (fu (fu I 8 I8) 9 I9) J a b) H → va_S (CUA q) s.heap H locs → ∀ ls : Array Slot, lv_has ls 6 [(0, .ref (q 4)), (1, .int v1), (2, .int v2), (3, .int v3), (4, .int v4), (5, .int v5)] → W p l e R s m args below meth c H locs 0 0 Q (F0 m 85 ls []) := by
        intro v1 v2 v3 v4 v5 I8 I9 h H locs hP hS ls hl
        rw [k_X0_followRow_85] at h
        refine lv_iload hx hb dX0_followRow_85 (lv_at hl 5 rfl) ?_
        refine lv_ineg hx hb dX0_followRow_87 ?_
        refine lv_iload_n hx hb dX0_followRow_88 rfl (lv_at hl 2 rfl) ?_
        refine lv_icmp_le (tgt := 114) hx hb dX0_followRow_89 (by decide) (fun c_1 => ?_) (fun c_1 => ?_)
        · have h := if_t c_1 h
          refine lv_iinc (v := v4 + 1) (lv' := [(4, .int (v4 + 1)), (0, .ref (q 4)), (1, .int v1), (2, .int v2), (3, .int v3), (5, .int v5)]) hx hb dX0_followRow_114 hl (k := 4) rfl rfl (by decide) rfl (fun ls hl => ?_)
          refine lv_goto (tgt := 36) hx hb dX0_followRow_117 (by decide) ?_
          exact ih36 v1 v2 v3 (v4 + 1) I8 I9 h _ _ hP hS ls (lv_sub hl [1, 2, 3, 4, 0] rfl)
        · have h := if_f c_1 h
          refine lv_aload_n hx hb dX0_followRow_92 rfl (lv_at hl 0 rfl) ?_
          refine lv_iload hx hb dX0_followRow_93 (lv_at hl 4 rfl) ?_
          obtain ⟨x_2, hx_2, h⟩ := ob_some h
          refine va_calli (va_runV (As := [.int v4]) (rest := []) ⟨hx, hb, hml, hown, hts⟩ (c_X0_isKnown l D cI cJ q hq F (fu (fu I 8 I8) 9 I9) J a b v4 x_2 hx_2) (cwV 1 hts gX0_followRow_X0_isKnown rfl rfl rfl (by decide +kernel) (by rw [hR]; exact ⟨Nat.le_of_ble_eq_true rfl, Nat.le_of_ble_eq_true rfl⟩)) ⟨CUPc_blind, va_recv hK hP (ci := 0) (q0 := 4) rfl rfl, fun U hU hW => ⟨rfl, by rw [hU]; exact hP, va_K.moved hW.alike hK, va_Nw.warmM hW hN⟩⟩ rfl rfl hl.1 rfl (lv_room (Nat.le_of_ble_eq_true rfl)) dX0_followRow_95 ⟨Nat.zero_le _, Nat.zero_le _⟩) hS (fun _ _ h => h) (fun _ h => h) (fun r u t H1 locs ht hvm hw hB hz1 hk1 hS => ?_)
          obtain rfl := hw.symm
          rw [ht] at hB
          have hP : va_P D vwCl (CUW cI cJ q (fu (fu I 8 I8) 9 I9) J a b) H1 := hB
          clear hB hz1 hk1 ht hvm
          generalize H1 = H at hP hS ⊢
          refine lv_if_ne (tgt := 114) hx hb dX0_followRow_98 (by decide) (fun c_3 => ?_) (fun c_3 => ?_)
          · have h := if_f c_3 h
            refine lv_iinc (v := v4 + 1) (lv' := [(4, .int (v4 + 1)), (0, .ref (q 4)), (1, .int v1), (2, .int v2), (3, .int v3), (5, .int v5)]) hx hb dX0_followRow_114 hl (k := 4) rfl rfl (by decide) rfl (fun ls hl => ?_)
            refine lv_goto (tgt := 36) hx hb dX0_followRow_117 (by decide) ?_
            exact ih36 v1 v2 v3 (v4 + 1) I8 I9 h _ _ hP hS ls (lv_sub hl [1, 2, 3, 4, 0] rfl)
          · have h := if_t c_3 h
            refine lv_aload_n hx hb dX0_followRow_101 rfl (lv_at hl 0 rfl) ?_
            refine lv_dup hx hb dX0_followRow_102 rfl ?_
            refine va_get (D := D) (ci := 0) (v := .int I8) (C := RX0) (T := TX0) (N := 6) hx hb hts in_X0_followRow_X0 hown hK hP 4 rfl rfl 3 (by decide) (hts (.fieldLink RX0 23 "LearnedReasons$AtOnce" "isTrue" "I") (by decide +kernel)) (fun _ h9 => h9) rfl dX0_followRow_103 ?_
            refine lv_iconst (v := 1) hx hb dX0_followRow_106 (by decide) ?_
            refine lv_iload hx hb dX0_followRow_107 (lv_at hl 4 rfl) ?_
            refine lv_ishl hx hb dX0_followRow_109 ?_
            refine lv_ior hx hb dX0_followRow_110 ?_
            refine lv_topi (fun v_4 ev_4 => ?_)
            have h := nmI_at ev_4 h
            refine va_put (D := D) (ci := 0) (v := .int v_4) (ty := .int) (C := RX0) (T := TX0) (N := 6) hx hb hts in_X0_followRow_X0 tyX0 tyX0_ok nmX0 hown hK hP (CUW_D hq) hS 4 rfl rfl 3 (by decide) (hts (.fieldLink RX0 23 "LearnedReasons$AtOnce" "isTrue" "I") (by decide +kernel)) (fun _ h9 => h9) rfl (by decide +kernel) rfl rfl (Nat.le_of_ble_eq_true rfl) dX0_followRow_111 (fun H locs hP _ hS => ?_)
            have hP : va_P D vwCl (CUW cI cJ q (fu (fu I 8 v_4) 9 I9) J a b) H := hP
            refine lv_iinc (v := v4 + 1) (lv' := [(4, .int (v4 + 1)), (0, .ref (q 4)), (1, .int v1), (2, .int v2), (3, .int v3), (5, .int v5)]) hx hb dX0_followRow_114 hl (k := 4) rfl rfl (by decide) rfl (fun ls hl => ?_)
            refine lv_goto (tgt := 36) hx hb dX0_followRow_117 (by decide) ?_
            exact ih36 v1 v2 v3 (v4 + 1) v_4 I9 h _ _ hP hS ls (lv_sub hl [1, 2, 3, 4, 0] rfl)
      refine lv_iload hx hb dX0_followRow_36 (lv_at hl 4 rfl) ?_
      refine lv_iload_n hx hb dX0_followRow_38 rfl (lv_at hl 3 rfl) ?_
      refine lv_icmp_ge (tgt := 120) hx hb dX0_followRow_39 (by decide) (fun c_5 => ?_) (fun c_5 => ?_)
      · have h := if_t c_5 h
        have hx0 := Option.some.inj h
        rw [hQ]
        exact W.vret hx hb hr (fun t ht hW => ⟨⟨(I8, I9, (I 10)), rfl, hx0, by show va_P _ _ _ t.heap; rw [ht]; exact hP⟩, hS.F ht⟩) hS.2.2 dX0_followRow_120
      · have h := if_f c_5 h
        refine lv_aload_n hx hb dX0_followRow_42 rfl (lv_at hl 0 rfl) ?_
        refine va_get (D := D) (ci := 0) (v := .ref (q 1)) (C := RX0) (T := TX0) (N := 6) hx hb hts in_X0_followRow_X0 hown hK hP 4 rfl rfl 0 (by decide) (hts (.fieldLink RX0 9 "LearnedReasons$AtOnce" "things" "LLearnedReasons$Things;") (by decide +kernel)) (fun _ h9 => h9) rfl dX0_followRow_43 ?_
        refine lv_iload_n hx hb dX0_followRow_46 rfl (lv_at hl 1 rfl) ?_
        refine lv_iload hx hb dX0_followRow_47 (lv_at hl 4 rfl) ?_
        obtain ⟨x_6, hx_6, h⟩ := ob_some h
        refine va_calli (va_runV (As := [.int v1, .int v4]) (rest := []) ⟨hx, hb, hml, hown, hts⟩ (c_X5_weightOf l D cI cJ q hq F (fu (fu I 8 I8) 9 I9) J a b v1 v4 x_6 hx_6) (cwV 2 hts gX0_followRow_X5_weightOf rfl rfl rfl (by decide +kernel) (by rw [hR]; exact ⟨Nat.le_of_ble_eq_true rfl, Nat.le_of_ble_eq_true rfl⟩)) ⟨CUPc_blind, va_recv hK hP (ci := 5) (q0 := 1) rfl rfl, fun U hU hW => ⟨rfl, by rw [hU]; exact hP, va_K.moved hW.alike hK, va_Nw.warmM hW hN⟩⟩ rfl rfl hl.1 rfl (lv_room (Nat.le_of_ble_eq_true rfl)) dX0_followRow_49 ⟨Nat.zero_le _, Nat.zero_le _⟩) hS (fun _ _ h => h) (fun _ h => h) (fun r u t H1 locs ht hvm hw hB hz1 hk1 hS => ?_)
        obtain rfl := hw.symm
        rw [ht] at hB
        have hP : va_P D vwCl (CUW cI cJ q (fu (fu I 8 I8) 9 I9) J a b) H1 := hB
        clear hB hz1 hk1 ht hvm
        generalize H1 = H at hP hS ⊢
        refine lv_istore (lv' := [(5, .int x_6), (0, .ref (q 4)), (1, .int v1), (2, .int v2), (3, .int v3), (4, .int v4)]) hx hb dX0_followRow_52 hl (by decide) rfl (fun ls hl => ?_)
        refine lv_iload hx hb dX0_followRow_54 (lv_at hl 0 rfl) ?_
        refine lv_iload_n hx hb dX0_followRow_56 rfl (lv_at hl 3 rfl) ?_
        refine lv_icmp_le (tgt := 85) hx hb dX0_followRow_57 (by decide) (fun c_7 => ?_) (fun c_7 => ?_)
        · have h := if_t c_7 h
          exact C85 v1 v2 v3 v4 x_6 I8 I9 h _ _ hP hS ls (lv_sub hl [1, 2, 3, 4, 5, 0] rfl)
        · have h := if_f c_7 h
          refine lv_aload_n hx hb dX0_followRow_60 rfl (lv_at hl 1 rfl) ?_
          refine lv_iload hx hb dX0_followRow_61 (lv_at hl 5 rfl) ?_
          obtain ⟨x_8, hx_8, h⟩ := ob_some h
          refine va_calli (va_runV (As := [.int v4]) (rest := []) ⟨hx, hb, hml, hown, hts⟩ (c_X0_isKnown l D cI cJ q hq F (fu (fu I 8 I8) 9 I9) J a b v4 x_8 hx_8) (cwV 1 hts gX0_followRow_X0_isKnown rfl rfl rfl (by decide +kernel) (by rw [hR]; exact ⟨Nat.le_of_ble_eq_true rfl, Nat.le_of_ble_eq_true rfl⟩)) ⟨CUPc_blind, va_recv hK hP (ci := 0) (q0 := 4) rfl rfl, fun U hU hW => ⟨rfl, by rw [hU]; exact hP, va_K.moved hW.alike hK, va_Nw.warmM hW hN⟩⟩ rfl rfl hl.1 rfl (lv_room (Nat.le_of_ble_eq_true rfl)) dX0_followRow_63 ⟨Nat.zero_le _, Nat.zero_le _⟩) hS (fun _ _ h => h) (fun _ h => h) (fun r u t H1 locs ht hvm hw hB hz1 hk1 hS => ?_)
          obtain rfl := hw.symm
          rw [ht] at hB
          have hP : va_P D vwCl (CUW cI cJ q (fu (fu I 8 I8) 9 I9) J a b) H1 := hB
          clear hB hz1 hk1 ht hvm
          generalize H1 = H at hP hS ⊢
          refine lv_if_ne (tgt := 85) hx hb dX0_followRow_66 (by decide) (fun c_9 => ?_) (fun c_9 => ?_)
          · have h := if_f c_9 h
            exact C85 v1 v2 v3 v4 x_6 I8 I9 h _ _ hP hS ls (lv_sub hl [1, 2, 3, 4, 5, 0] rfl)
          · have h := if_t c_9 h
            refine lv_aload_n hx hb dX0_followRow_69 rfl (lv_at hl 1 rfl) ?_
            refine lv_dup hx hb dX0_followRow_70 rfl ?_
            refine va_get (D := D) (ci := 0) (v := .int I9) (C := RX0) (T := TX0) (N := 6) hx hb hts in_X0_followRow_X0 hown hK hP 4 rfl rfl 4 (by decide) (hts (.fieldLink RX0 27 "LearnedReasons$AtOnce" "isFalse" "I") (by decide +kernel)) (fun _ h9 => h9) rfl dX0_followRow_71 ?_
            refine lv_iconst (v := 1) hx hb dX0_followRow_74 (by decide) ?_
            refine lv_iload hx hb dX0_followRow_75 (lv_at hl 5 rfl) ?_
            refine lv_ishl hx hb dX0_followRow_77 ?_
            refine lv_ior hx hb dX0_followRow_78 ?_
            refine lv_topi (fun v_10 ev_10 => ?_)
            have h := nmI_at ev_10 h
            refine va_put (D := D) (ci := 0) (v := .int v_10) (ty := .int) (C := RX0) (T := TX0) (N := 6) hx hb hts in_X0_followRow_X0 tyX0 tyX0_ok nmX0 hown hK hP (CUW_D hq) hS 4 rfl rfl 4 (by decide) (hts (.fieldLink RX0 27 "LearnedReasons$AtOnce" "isFalse" "I") (by decide +kernel)) (fun _ h9 => h9) rfl (by decide +kernel) rfl rfl (Nat.le_of_ble_eq_true rfl) dX0_followRow_79 (fun H locs hP _ hS => ?_)
            have hP : va_P D vwCl (CUW cI cJ q (fu (fu I 8 I8) 9 v_10) J a b) H := hP
            refine lv_goto (tgt := 114) hx hb dX0_followRow_82 (by decide) ?_
            refine lv_iinc (v := v4 + 1) (lv' := [(4, .int (v4 + 1)), (5, .int x_6), (0, .ref (q 4)), (1, .int v1), (2, .int v2), (3, .int v3)]) hx hb dX0_followRow_114 hl (k := 5) rfl rfl (by decide) rfl (fun ls hl => ?_)
            refine lv_goto (tgt := 36) hx hb dX0_followRow_117 (by decide) ?_
            exact ih36 v1 v2 v3 (v4 + 1) I8 v_10 h _ _ hP hS ls (lv_sub hl [2, 3, 4, 5, 0] rfl)
  refine lv_aload_n hx hb dX0_followRow_0 rfl (lv_at hl 0 rfl) ?_
  refine va_get (D := D) (ci := 0) (v := .ref (q 1)) (C := RX0) (T := TX0) (N := 6) hx hb hts in_X0_followRow_X0 hown hK hP 4 rfl rfl 0 (by decide) (hts (.fieldLink RX0 9 "LearnedReasons$AtOnce" "things" "LLearnedReasons$Things;") (by decide +kernel)) (fun _ h9 => h9) rfl dX0_followRow_1 ?_
  refine lv_iload_n hx hb dX0_followRow_4 rfl (lv_at hl 1 rfl) ?_
  obtain ⟨x_11, hx_11, h⟩ := ob_some h
  refine va_calli (va_runV (As := [.int v1]) (rest := []) ⟨hx, hb, hml, hown, hts⟩ (c_X5_boundOf l D cI cJ q hq F I J a b v1 x_11 hx_11) (cwV 1 hts gX0_followRow_X5_boundOf rfl rfl rfl (by decide +kernel) (by rw [hR]; exact ⟨Nat.le_of_ble_eq_true rfl, Nat.le_of_ble_eq_true rfl⟩)) ⟨CUPc_blind, va_recv hK hP (ci := 5) (q0 := 1) rfl rfl, fun U hU hW => ⟨rfl, by rw [hU]; exact hP, va_K.moved hW.alike hK, va_Nw.warmM hW hN⟩⟩ rfl rfl hl.1 rfl (lv_room (Nat.le_of_ble_eq_true rfl)) dX0_followRow_5 ⟨Nat.zero_le _, Nat.zero_le _⟩) hS (fun _ _ h => h) (fun _ h => h) (fun r u t H1 locs ht hvm hw hB hz1 hk1 hS => ?_)
  obtain rfl := hw.symm
  rw [ht] at hB
  have hP : va_P D vwCl (CUW cI cJ q I J a b) H1 := hB
  clear hB hz1 hk1 ht hvm
  generalize H1 = H at hP hS ⊢
  refine lv_aload_n hx hb dX0_followRow_8 rfl (lv_at hl 0 rfl) ?_
  refine lv_iload_n hx hb dX0_followRow_9 rfl (lv_at hl 1 rfl) ?_
  obtain ⟨x_12, hx_12, h⟩ := ob_some h
  refine va_calli (va_runV (As := [.int v1]) (rest := [.int x_11]) ⟨hx, hb, hml, hown, hts⟩ (c_X0_leastSum l D cI cJ q hq F I J a b v1 x_12 hx_12) (cwV 1 hts gX0_followRow_X0_leastSum rfl rfl rfl (by decide +kernel) (by rw [hR]; exact ⟨Nat.le_of_ble_eq_true rfl, Nat.le_of_ble_eq_true rfl⟩)) ⟨CUPc_blind, va_recv hK hP (ci := 0) (q0 := 4) rfl rfl, fun U hU hW => ⟨rfl, by rw [hU]; exact hP, va_K.moved hW.alike hK, va_Nw.warmM hW hN⟩⟩ rfl rfl hl.1 rfl (lv_room (Nat.le_of_ble_eq_true rfl)) dX0_followRow_10 ⟨Nat.zero_le _, Nat.zero_le _⟩) hS (fun _ _ h => h) (fun _ h => h) (fun r u t H1 locs ht hvm hw hB hz1 hk1 hS => ?_)
  obtain rfl := hw.symm
  rw [ht] at hB
  have hP : va_P D vwCl (CUW cI cJ q I J a b) H1 := hB
  clear hB hz1 hk1 ht hvm
  generalize H1 = H at hP hS ⊢
  refine lv_isub hx hb dX0_followRow_13 ?_
  refine lv_topi (fun v_13 ev_13 => ?_)
  have h := nmI_at ev_13 h
  refine lv_istore_n (lv' := [(2, .int v_13), (0, .ref (q 4)), (1, .int v1)]) hx hb dX0_followRow_14 rfl hl (by decide) rfl (fun ls hl => ?_)
  refine lv_iload_n hx hb dX0_followRow_15 rfl (lv_at hl 0 rfl) ?_
  refine lv_if_ge (tgt := 25) hx hb dX0_followRow_16 (by decide) (fun c_14 => ?_) (fun c_14 => ?_)
  · have h := if_t c_14 h
    refine lv_aload_n hx hb dX0_followRow_25 rfl (lv_at hl 1 rfl) ?_
    refine va_get (D := D) (ci := 0) (v := .ref (q 1)) (C := RX0) (T := TX0) (N := 6) hx hb hts in_X0_followRow_X0 hown hK hP 4 rfl rfl 0 (by decide) (hts (.fieldLink RX0 9 "LearnedReasons$AtOnce" "things" "LLearnedReasons$Things;") (by decide +kernel)) (fun _ h9 => h9) rfl dX0_followRow_26 ?_
    obtain ⟨x_15, hx_15, h⟩ := ob_some h
    refine va_calli (va_runV (As := []) (rest := []) ⟨hx, hb, hml, hown, hts⟩ (c_X5_names l D cI cJ q hq F I J a b x_15 hx_15) (cwV 0 hts gX0_followRow_X5_names rfl rfl rfl (by decide +kernel) (by rw [hR]; exact ⟨Nat.le_of_ble_eq_true rfl, Nat.le_of_ble_eq_true rfl⟩)) ⟨CUPc_blind, va_recv hK hP (ci := 5) (q0 := 1) rfl rfl, fun U hU hW => ⟨rfl, by rw [hU]; exact hP, va_K.moved hW.alike hK, va_Nw.warmM hW hN⟩⟩ rfl rfl hl.1 rfl (lv_room (Nat.le_of_ble_eq_true rfl)) dX0_followRow_29 ⟨Nat.zero_le _, Nat.zero_le _⟩) hS (fun _ _ h => h) (fun _ h => h) (fun r u t H1 locs ht hvm hw hB hz1 hk1 hS => ?_)
    obtain rfl := hw.symm
    rw [ht] at hB
    have hP : va_P D vwCl (CUW cI cJ q I J a b) H1 := hB
    clear hB hz1 hk1 ht hvm
    generalize H1 = H at hP hS ⊢
    refine lv_istore_n (lv' := [(3, .int x_15), (2, .int v_13), (0, .ref (q 4)), (1, .int v1)]) hx hb dX0_followRow_32 rfl hl (by decide) rfl (fun ls hl => ?_)
    refine lv_iconst (v := 0) hx hb dX0_followRow_33 (by decide) ?_
    refine lv_istore (lv' := [(4, .int 0), (3, .int x_15), (2, .int v_13), (0, .ref (q 4)), (1, .int v1)]) hx hb dX0_followRow_34 hl (by decide) rfl (fun ls hl => ?_)
    exact C36 F v1 v_13 x_15 0 (I 8) (I 9) h _ _ hP hS ls (lv_sub hl [3, 4, 2, 1, 0] rfl)
  · have h := if_f c_14 h
    refine lv_aload_n hx hb dX0_followRow_19 rfl (lv_at hl 1 rfl) ?_
    refine lv_iconst (v := 1) hx hb dX0_followRow_20 (by decide) ?_
    refine va_put (D := D) (ci := 0) (v := .int 1) (ty := .boolean) (C := RX0) (T := TX0) (N := 6) hx hb hts in_X0_followRow_X0 tyX0 tyX0_ok nmX0 hown hK hP (CUW_D hq) hS 4 rfl rfl 5 (by decide) (hts (.fieldLink RX0 30 "LearnedReasons$AtOnce" "clash" "Z") (by decide +kernel)) (fun _ h9 => h9) rfl (by decide +kernel) rfl rfl (Nat.le_of_ble_eq_true rfl) dX0_followRow_21 (fun H locs hP _ hS => ?_)
    have hP : va_P D vwCl (CUW cI cJ q (fu I 10 1) J a b) H := hP
    have hx0 := Option.some.inj h
    rw [hQ]
    exact W.vret hx hb hr (fun t ht hW => ⟨⟨((I 8), (I 9), 1), rfl, hx0, by show va_P _ _ _ t.heap; rw [ht]; exact hP⟩, hS.F ht⟩) hS.2.2 dX0_followRow_24
theorem in_X5_wantedTrue_X5 : ∀ w ∈ wsX50, w ∈ wsX5_wantedTrue := by decide +kernel
set_option maxHeartbeats 4000000 in
set_option maxRecDepth 100000 in
theorem c_X5_wantedTrue (l : Launch) (D : va_G) (cI cJ : ClassId) (q : Nat → Nat) (hq : CUQ q) (F : Nat) (I : Nat → Int32) (J : Nat → Int64) (a : Nat → Nat → Int32) (b : Nat → Nat → Int64) (v1 : Int32) (x0 : Int32) (h : f_X5_wantedTrue F I J a b v1 = some x0) : Met l yX5_wantedTrue wsX5_wantedTrue ({ frames := 0, cells := 0, slots := 0, locals := 0 }) (CUPc D cI cJ q I J a b [.ref (q 1), .int v1]) (va_Qi (fun (r : Int32) (u : Unit) => r = x0) (fun (u : Unit) t => va_P D vwCl (CUW cI cJ q I J a b) t.heap) (CUA q)) 0 0 (CUA q) := by
  refine mt_of (cc := cX5_wantedTrue) (maxL := 2) (ret := (some .int)) (by decide) rfl ?_
  intro p e s m args below meth c s₁ B0 hml hv R Q hR hQ
  obtain ⟨hargs, hP, hK, hN⟩ := hv
  have hx := B0.exec
  have hb := B0.bytes
  have hr := B0.returns
  have hts := atoms_spec (ws := wsX5_wantedTrue) B0.pre
  have hown : s.vm.findClass RX5 = some m.cls := findClass_of_methodNamed B0.named
  have hlocks := B0.notSynchronized
  have hS : va_S (CUA q) s.heap s.heap [] := va_S.rf
  have hl := lv_entry ([.ref (q 1), .int v1]) (n := 2) (Nat.le_of_ble_eq_true rfl)
  rw [hargs, lg_entry_eq]
  rw [← hargs]
  generalize (lg_sl ([.ref (q 1), .int v1]) ++ List.replicate (2 - (lg_sl ([.ref (q 1), .int v1])).length) Slot.unset).toArray = ls at hl ⊢
  have hl : lv_has ls 2 [(0, .ref (q 1)), (1, .int v1)] := hl
  unfold f_X5_wantedTrue at h
  refine lv_aload_n hx hb dX5_wantedTrue_0 rfl (lv_at hl 0 rfl) ?_
  refine va_get (D := D) (ci := 5) (v := .ref (q 7)) (C := RX5) (T := TX5) (N := 9) hx hb hts in_X5_wantedTrue_X5 hown hK hP 1 rfl rfl 5 (by decide) (hts (.fieldLink RX5 9 "LearnedReasons$Things" "wantTrue" "[I") (by decide +kernel)) (fun _ h9 => h9) rfl dX5_wantedTrue_1 ?_
  refine lv_iload_n hx hb dX5_wantedTrue_4 rfl (lv_at hl 1 rfl) ?_
  obtain ⟨g_1, h⟩ := gd_some h
  refine va_iald hx hb hK hP 7 0 rfl rfl g_1 dX5_wantedTrue_5 ?_
  have hx0 := Option.some.inj h
  rw [hQ]
  exact W.iret (v := (a 0) v1.toNatClampNeg) hx hb hr (fun t ht hW => ⟨⟨((a 0) v1.toNatClampNeg), (), rfl, hx0, by show va_P _ _ _ t.heap; rw [ht]; exact hP⟩, hS.F ht⟩) hS.2.2 dX5_wantedTrue_6
theorem in_X5_wantedFalse_X5 : ∀ w ∈ wsX50, w ∈ wsX5_wantedFalse := by decide +kernel
set_option maxHeartbeats 4000000 in
set_option maxRecDepth 100000 in
theorem c_X5_wantedFalse (l : Launch) (D : va_G) (cI cJ : ClassId) (q : Nat → Nat) (hq : CUQ q) (F : Nat) (I : Nat → Int32) (J : Nat → Int64) (a : Nat → Nat → Int32) (b : Nat → Nat → Int64) (v1 : Int32) (x0 : Int32) (h : f_X5_wantedFalse F I J a b v1 = some x0) : Met l yX5_wantedFalse wsX5_wantedFalse ({ frames := 0, cells := 0, slots := 0, locals := 0 }) (CUPc D cI cJ q I J a b [.ref (q 1), .int v1]) (va_Qi (fun (r : Int32) (u : Unit) => r = x0) (fun (u : Unit) t => va_P D vwCl (CUW cI cJ q I J a b) t.heap) (CUA q)) 0 0 (CUA q) := by
  refine mt_of (cc := cX5_wantedFalse) (maxL := 2) (ret := (some .int)) (by decide) rfl ?_
  intro p e s m args below meth c s₁ B0 hml hv R Q hR hQ
  obtain ⟨hargs, hP, hK, hN⟩ := hv
  have hx := B0.exec
  have hb := B0.bytes
  have hr := B0.returns
  have hts := atoms_spec (ws := wsX5_wantedFalse) B0.pre
  have hown : s.vm.findClass RX5 = some m.cls := findClass_of_methodNamed B0.named
  have hlocks := B0.notSynchronized
  have hS : va_S (CUA q) s.heap s.heap [] := va_S.rf
  have hl := lv_entry ([.ref (q 1), .int v1]) (n := 2) (Nat.le_of_ble_eq_true rfl)
  rw [hargs, lg_entry_eq]
  rw [← hargs]
  generalize (lg_sl ([.ref (q 1), .int v1]) ++ List.replicate (2 - (lg_sl ([.ref (q 1), .int v1])).length) Slot.unset).toArray = ls at hl ⊢
  have hl : lv_has ls 2 [(0, .ref (q 1)), (1, .int v1)] := hl
  unfold f_X5_wantedFalse at h
  refine lv_aload_n hx hb dX5_wantedFalse_0 rfl (lv_at hl 0 rfl) ?_
  refine va_get (D := D) (ci := 5) (v := .ref (q 8)) (C := RX5) (T := TX5) (N := 9) hx hb hts in_X5_wantedFalse_X5 hown hK hP 1 rfl rfl 6 (by decide) (hts (.fieldLink RX5 15 "LearnedReasons$Things" "wantFalse" "[I") (by decide +kernel)) (fun _ h9 => h9) rfl dX5_wantedFalse_1 ?_
  refine lv_iload_n hx hb dX5_wantedFalse_4 rfl (lv_at hl 1 rfl) ?_
  obtain ⟨g_1, h⟩ := gd_some h
  refine va_iald hx hb hK hP 8 0 rfl rfl g_1 dX5_wantedFalse_5 ?_
  have hx0 := Option.some.inj h
  rw [hQ]
  exact W.iret (v := (a 1) v1.toNatClampNeg) hx hb hr (fun t ht hW => ⟨⟨((a 1) v1.toNatClampNeg), (), rfl, hx0, by show va_P _ _ _ t.heap; rw [ht]; exact hP⟩, hS.F ht⟩) hS.2.2 dX5_wantedFalse_6
theorem in_X0_followClause_X0 : ∀ w ∈ wsX00, w ∈ wsX0_followClause := by decide +kernel
set_option maxHeartbeats 4000000 in
set_option maxRecDepth 100000 in
theorem c_X0_followClause (l : Launch) (D : va_G) (cI cJ : ClassId) (q : Nat → Nat) (hq : CUQ q) (F : Nat) (I : Nat → Int32) (J : Nat → Int64) (a : Nat → Nat → Int32) (b : Nat → Nat → Int64) (v1 : Int32) (v2 : Int32) (x0 : Int32 × Int32 × Int32) (h : f_X0_followClause F I J a b v1 v2 = some x0) : Met l yX0_followClause wsX0_followClause ({ frames := 2, cells := 0, slots := 0, locals := 41 }) (CUPc D cI cJ q I J a b [.ref (q 4), .int v1, .int v2]) (va_Qv (fun (u : Int32 × Int32 × Int32) => u = x0) (fun (u : Int32 × Int32 × Int32) t => va_P D vwCl (CUW cI cJ q (fu (fu (fu I 8 u.1) 9 u.2.1) 10 u.2.2) J a b) t.heap) (CUA q)) 0 0 (CUA q) := by
  refine mt_of (cc := cX0_followClause) (maxL := 6) (ret := none) (by decide) rfl ?_
  intro p e s m args below meth c s₁ B0 hml hv R Q hR hQ
  obtain ⟨hargs, hP, hK, hN⟩ := hv
  have hx := B0.exec
  have hb := B0.bytes
  have hr := B0.returns
  have hts := atoms_spec (ws := wsX0_followClause) B0.pre
  have hown : s.vm.findClass RX0 = some m.cls := findClass_of_methodNamed B0.named
  have hlocks := B0.notSynchronized
  have hS : va_S (CUA q) s.heap s.heap [] := va_S.rf
  have hl := lv_entry ([.ref (q 4), .int v1, .int v2]) (n := 6) (Nat.le_of_ble_eq_true rfl)
  rw [hargs, lg_entry_eq]
  rw [← hargs]
  generalize (lg_sl ([.ref (q 4), .int v1, .int v2]) ++ List.replicate (6 - (lg_sl ([.ref (q 4), .int v1, .int v2])).length) Slot.unset).toArray = ls at hl ⊢
  have hl : lv_has ls 6 [(0, .ref (q 4)), (1, .int v1), (2, .int v2)] := hl
  unfold f_X0_followClause at h
  refine lv_iload_n hx hb dX0_followClause_0 rfl (lv_at hl 1 rfl) ?_
  refine lv_aload_n hx hb dX0_followClause_1 rfl (lv_at hl 0 rfl) ?_
  refine va_get (D := D) (ci := 0) (v := .int (I 8)) (C := RX0) (T := TX0) (N := 6) hx hb hts in_X0_followClause_X0 hown hK hP 4 rfl rfl 3 (by decide) (hts (.fieldLink RX0 23 "LearnedReasons$AtOnce" "isTrue" "I") (by decide +kernel)) (fun _ h9 => h9) rfl dX0_followClause_2 ?_
  refine lv_iand hx hb dX0_followClause_5 ?_
  refine lv_if_ne (tgt := 18) hx hb dX0_followClause_6 (by decide) (fun c_1 => ?_) (fun c_1 => ?_)
  · have h := if_f c_1 h
    have hx0 := Option.some.inj h
    rw [hQ]
    exact W.vret hx hb hr (fun t ht hW => ⟨⟨((I 8), (I 9), (I 10)), rfl, hx0, by show va_P _ _ _ t.heap; rw [ht]; exact hP⟩, hS.F ht⟩) hS.2.2 dX0_followClause_18
  · have h := if_t c_1 h
    refine lv_iload_n hx hb dX0_followClause_9 rfl (lv_at hl 2 rfl) ?_
    refine lv_aload_n hx hb dX0_followClause_10 rfl (lv_at hl 0 rfl) ?_
    refine va_get (D := D) (ci := 0) (v := .int (I 9)) (C := RX0) (T := TX0) (N := 6) hx hb hts in_X0_followClause_X0 hown hK hP 4 rfl rfl 4 (by decide) (hts (.fieldLink RX0 27 "LearnedReasons$AtOnce" "isFalse" "I") (by decide +kernel)) (fun _ h9 => h9) rfl dX0_followClause_11 ?_
    refine lv_iand hx hb dX0_followClause_14 ?_
    refine lv_if_eq (tgt := 19) hx hb dX0_followClause_15 (by decide) (fun c_2 => ?_) (fun c_2 => ?_)
    · have h := if_t c_2 h
      refine lv_iload_n hx hb dX0_followClause_19 rfl (lv_at hl 1 rfl) ?_
      refine lv_aload_n hx hb dX0_followClause_20 rfl (lv_at hl 0 rfl) ?_
      refine va_get (D := D) (ci := 0) (v := .int (I 9)) (C := RX0) (T := TX0) (N := 6) hx hb hts in_X0_followClause_X0 hown hK hP 4 rfl rfl 4 (by decide) (hts (.fieldLink RX0 27 "LearnedReasons$AtOnce" "isFalse" "I") (by decide +kernel)) (fun _ h9 => h9) rfl dX0_followClause_21 ?_
      refine lv_iconst (v := (-1)) hx hb dX0_followClause_24 (by decide) ?_
      refine lv_ixor hx hb dX0_followClause_25 ?_
      refine lv_iand hx hb dX0_followClause_26 ?_
      refine lv_topi (fun v_3 ev_3 => ?_)
      have h := nmI_at ev_3 h
      refine lv_istore_n (lv' := [(3, .int v_3), (0, .ref (q 4)), (1, .int v1), (2, .int v2)]) hx hb dX0_followClause_27 rfl hl (by decide) rfl (fun ls hl => ?_)
      refine lv_iload_n hx hb dX0_followClause_28 rfl (lv_at hl 3 rfl) ?_
      refine lv_aload_n hx hb dX0_followClause_29 rfl (lv_at hl 1 rfl) ?_
      refine va_get (D := D) (ci := 0) (v := .int (I 8)) (C := RX0) (T := TX0) (N := 6) hx hb hts in_X0_followClause_X0 hown hK hP 4 rfl rfl 3 (by decide) (hts (.fieldLink RX0 23 "LearnedReasons$AtOnce" "isTrue" "I") (by decide +kernel)) (fun _ h9 => h9) rfl dX0_followClause_30 ?_
      refine lv_iconst (v := (-1)) hx hb dX0_followClause_33 (by decide) ?_
      refine lv_ixor hx hb dX0_followClause_34 ?_
      refine lv_iand hx hb dX0_followClause_35 ?_
      refine lv_topi (fun v_4 ev_4 => ?_)
      have h := nmI_at ev_4 h
      refine lv_istore (lv' := [(4, .int v_4), (3, .int v_3), (0, .ref (q 4)), (1, .int v1), (2, .int v2)]) hx hb dX0_followClause_36 hl (by decide) rfl (fun ls hl => ?_)
      refine lv_iload_n hx hb dX0_followClause_38 rfl (lv_at hl 1 rfl) ?_
      refine lv_iload hx hb dX0_followClause_39 (lv_at hl 0 rfl) ?_
      obtain ⟨x_5, hx_5, h⟩ := ob_some h
      refine va_calli (va_runSN (As := [.int v_3, .int v_4]) (rest := []) ⟨hx, hb, hml, hown, hts⟩ (c_X6_literalsIn l F v_3 v_4 x_5 hx_5) ⟨va_cnB (host := "LearnedReasons") 2 hts gX0_followClause_X6_literalsIn_n90 rfl rfl rfl hN (hts (.initialized RX6) (by decide +kernel)) (by decide +kernel) (by rw [hR]; exact ⟨Nat.le_of_ble_eq_true rfl, Nat.le_of_ble_eq_true rfl⟩), hts (.static yX6_literalsIn) (by decide +kernel), trivial⟩ ⟨fun _ _ _ _ h => h, fun U hU hW => ⟨rfl, trivial⟩⟩ rfl rfl hl.1 rfl (lv_room (Nat.le_of_ble_eq_true rfl)) dX0_followClause_41 ⟨Nat.zero_le _, Nat.zero_le _⟩) hS (fun _ _ h => h.elim) (fun _ h => h.elim) (fun r u t H1 locs ht hvm hw hB hz1 hk1 hS => ?_)
      obtain rfl := hw.symm
      have hP := hP.kept (fun k x hx => hk1 x.1 (hP k x hx).lt (fun h => h))
      clear hB hz1 hk1 ht hvm
      generalize H1 = H at hP hS ⊢
      refine lv_istore (lv' := [(5, .int x_5), (4, .int v_4), (3, .int v_3), (0, .ref (q 4)), (1, .int v1), (2, .int v2)]) hx hb dX0_followClause_44 hl (by decide) rfl (fun ls hl => ?_)
      refine lv_iload hx hb dX0_followClause_46 (lv_at hl 0 rfl) ?_
      refine lv_if_ne (tgt := 59) hx hb dX0_followClause_48 (by decide) (fun c_6 => ?_) (fun c_6 => ?_)
      · have h := if_f c_6 h
        refine lv_iload hx hb dX0_followClause_59 (lv_at hl 0 rfl) ?_
        refine lv_iconst (v := 1) hx hb dX0_followClause_61 (by decide) ?_
        refine lv_icmp_ne (tgt := 86) hx hb dX0_followClause_62 (by decide) (fun c_7 => ?_) (fun c_7 => ?_)
        · have h := if_f c_7 h
          have hx0 := Option.some.inj h
          rw [hQ]
          exact W.vret hx hb hr (fun t ht hW => ⟨⟨((I 8), (I 9), (I 10)), rfl, hx0, by show va_P _ _ _ t.heap; rw [ht]; exact hP⟩, hS.F ht⟩) hS.2.2 dX0_followClause_86
        · have h := if_t c_7 h
          refine lv_aload_n hx hb dX0_followClause_65 rfl (lv_at hl 3 rfl) ?_
          refine lv_dup hx hb dX0_followClause_66 rfl ?_
          refine va_get (D := D) (ci := 0) (v := .int (I 8)) (C := RX0) (T := TX0) (N := 6) hx hb hts in_X0_followClause_X0 hown hK hP 4 rfl rfl 3 (by decide) (hts (.fieldLink RX0 23 "LearnedReasons$AtOnce" "isTrue" "I") (by decide +kernel)) (fun _ h9 => h9) rfl dX0_followClause_67 ?_
          refine lv_iload_n hx hb dX0_followClause_70 rfl (lv_at hl 2 rfl) ?_
          refine lv_ior hx hb dX0_followClause_71 ?_
          refine lv_topi (fun v_8 ev_8 => ?_)
          have h := nmI_at ev_8 h
          refine va_put (D := D) (ci := 0) (v := .int v_8) (ty := .int) (C := RX0) (T := TX0) (N := 6) hx hb hts in_X0_followClause_X0 tyX0 tyX0_ok nmX0 hown hK hP (CUW_D hq) hS 4 rfl rfl 3 (by decide) (hts (.fieldLink RX0 23 "LearnedReasons$AtOnce" "isTrue" "I") (by decide +kernel)) (fun _ h9 => h9) rfl (by decide +kernel) rfl rfl (Nat.le_of_ble_eq_true rfl) dX0_followClause_72 (fun H locs hP _ hS => ?_)
          have hP : va_P D vwCl (CUW cI cJ q (fu I 8 v_8) J a b) H := hP
          refine lv_aload_n hx hb dX0_followClause_75 rfl (lv_at hl 3 rfl) ?_
          refine lv_dup hx hb dX0_followClause_76 rfl ?_
          refine va_get (D := D) (ci := 0) (v := .int (I 9)) (C := RX0) (T := TX0) (N := 6) hx hb hts in_X0_followClause_X0 hown hK hP 4 rfl rfl 4 (by decide) (hts (.fieldLink RX0 27 "LearnedReasons$AtOnce" "isFalse" "I") (by decide +kernel)) (fun _ h9 => h9) rfl dX0_followClause_77 ?_
          refine lv_iload hx hb dX0_followClause_80 (lv_at hl 1 rfl) ?_
          refine lv_ior hx hb dX0_followClause_82 ?_
          refine lv_topi (fun v_9 ev_9 => ?_)
          have h := nmI_at ev_9 h
          refine va_put (D := D) (ci := 0) (v := .int v_9) (ty := .int) (C := RX0) (T := TX0) (N := 6) hx hb hts in_X0_followClause_X0 tyX0 tyX0_ok nmX0 hown hK hP (CUW_D hq) hS 4 rfl rfl 4 (by decide) (hts (.fieldLink RX0 27 "LearnedReasons$AtOnce" "isFalse" "I") (by decide +kernel)) (fun _ h9 => h9) rfl (by decide +kernel) rfl rfl (Nat.le_of_ble_eq_true rfl) dX0_followClause_83 (fun H locs hP _ hS => ?_)
          have hP : va_P D vwCl (CUW cI cJ q (fu (fu I 8 v_8) 9 v_9) J a b) H := hP
          have hx0 := Option.some.inj h
          rw [hQ]
          exact W.vret hx hb hr (fun t ht hW => ⟨⟨(v_8, v_9, (I 10)), rfl, hx0, by show va_P _ _ _ t.heap; rw [ht]; exact hP⟩, hS.F ht⟩) hS.2.2 dX0_followClause_86
      · have h := if_t c_6 h
        refine lv_aload_n hx hb dX0_followClause_51 rfl (lv_at hl 3 rfl) ?_
        refine lv_iconst (v := 1) hx hb dX0_followClause_52 (by decide) ?_
        refine va_put (D := D) (ci := 0) (v := .int 1) (ty := .boolean) (C := RX0) (T := TX0) (N := 6) hx hb hts in_X0_followClause_X0 tyX0 tyX0_ok nmX0 hown hK hP (CUW_D hq) hS 4 rfl rfl 5 (by decide) (hts (.fieldLink RX0 30 "LearnedReasons$AtOnce" "clash" "Z") (by decide +kernel)) (fun _ h9 => h9) rfl (by decide +kernel) rfl rfl (Nat.le_of_ble_eq_true rfl) dX0_followClause_53 (fun H locs hP _ hS => ?_)
        have hP : va_P D vwCl (CUW cI cJ q (fu I 10 1) J a b) H := hP
        refine lv_goto (tgt := 86) hx hb dX0_followClause_56 (by decide) ?_
        have hx0 := Option.some.inj h
        rw [hQ]
        exact W.vret hx hb hr (fun t ht hW => ⟨⟨((I 8), (I 9), 1), rfl, hx0, by show va_P _ _ _ t.heap; rw [ht]; exact hP⟩, hS.F ht⟩) hS.2.2 dX0_followClause_86
    · have h := if_f c_2 h
      have hx0 := Option.some.inj h
      rw [hQ]
      exact W.vret hx hb hr (fun t ht hW => ⟨⟨((I 8), (I 9), (I 10)), rfl, hx0, by show va_P _ _ _ t.heap; rw [ht]; exact hP⟩, hS.F ht⟩) hS.2.2 dX0_followClause_18
theorem in_X0_followThings_X0 : ∀ w ∈ wsX00, w ∈ wsX0_followThings := by decide +kernel
set_option maxHeartbeats 4000000 in
set_option maxRecDepth 100000 in
theorem c_X0_followThings (l : Launch) (D : va_G) (cI cJ : ClassId) (q : Nat → Nat) (hq : CUQ q) (F : Nat) (I : Nat → Int32) (J : Nat → Int64) (a : Nat → Nat → Int32) (b : Nat → Nat → Int64) (x0 : Int32 × Int32 × Int32) (h : f_X0_followThings F I J a b = some x0) : Met l yX0_followThings wsX0_followThings ({ frames := 3, cells := 0, slots := 0, locals := 72 }) (CUPc D cI cJ q I J a b [.ref (q 4)]) (va_Qv (fun (u : Int32 × Int32 × Int32) => u = x0) (fun (u : Int32 × Int32 × Int32) t => va_P D vwCl (CUW cI cJ q (fu (fu (fu I 8 u.1) 9 u.2.1) 10 u.2.2) J a b) t.heap) (CUA q)) 0 0 (CUA q) := by
  refine mt_of (cc := cX0_followThings) (maxL := 3) (ret := none) (by decide) rfl ?_
  intro p e s m args below meth c s₁ B0 hml hv R Q hR hQ
  obtain ⟨hargs, hP, hK, hN⟩ := hv
  have hx := B0.exec
  have hb := B0.bytes
  have hr := B0.returns
  have hts := atoms_spec (ws := wsX0_followThings) B0.pre
  have hown : s.vm.findClass RX0 = some m.cls := findClass_of_methodNamed B0.named
  have hlocks := B0.notSynchronized
  have hS : va_S (CUA q) s.heap s.heap [] := va_S.rf
  have hl := lv_entry ([.ref (q 4)]) (n := 3) (Nat.le_of_ble_eq_true rfl)
  rw [hargs, lg_entry_eq]
  rw [← hargs]
  generalize (lg_sl ([.ref (q 4)]) ++ List.replicate (3 - (lg_sl ([.ref (q 4)])).length) Slot.unset).toArray = ls at hl ⊢
  have hl : lv_has ls 3 [(0, .ref (q 4))] := hl
  unfold f_X0_followThings at h
  have C10 : ∀ (n10 : Nat) (v1 : Int32) (v2 : Int32) (I8 : Int32) (I9 : Int32) (I10 : Int32), k_X0_followThings_10 F I J a b n10 v1 v2 I8 I9 I10 = some x0 → ∀ (H : Heap) (locs : List Loc), va_P D vwCl (CUW cI cJ q (fu (fu (fu I 8 I8) 9 I9) 10 I10) J a b) H → va_S (CUA q) s.heap H locs → ∀ ls : Array Slot, lv_has ls 3 [(0, .ref (q 4)), (1, .int v1), (2, .int v2)] → W p l e R s m args below meth c H locs 0 0 Q (F0 m 10 ls []) := by
    intro n10
    induction n10 with
    | zero => intro v1 v2 I8 I9 I10 h; rw [k_X0_followThings_10] at h; cases h
    | succ n10 ih10 =>
      intro v1 v2 I8 I9 I10 h H locs hP hS ls hl
      rw [k_X0_followThings_10] at h
      refine lv_iload_n hx hb dX0_followThings_10 rfl (lv_at hl 2 rfl) ?_
      refine lv_iload_n hx hb dX0_followThings_11 rfl (lv_at hl 1 rfl) ?_
      refine lv_icmp_ge (tgt := 78) hx hb dX0_followThings_12 (by decide) (fun c_1 => ?_) (fun c_1 => ?_)
      · have h := if_t c_1 h
        have hx0 := Option.some.inj h
        rw [hQ]
        exact W.vret hx hb hr (fun t ht hW => ⟨⟨(I8, I9, I10), rfl, hx0, by show va_P _ _ _ t.heap; rw [ht]; exact hP⟩, hS.F ht⟩) hS.2.2 dX0_followThings_78
      · have h := if_f c_1 h
        refine lv_aload_n hx hb dX0_followThings_15 rfl (lv_at hl 0 rfl) ?_
        refine va_get (D := D) (ci := 0) (v := .int I10) (C := RX0) (T := TX0) (N := 6) hx hb hts in_X0_followThings_X0 hown hK hP 4 rfl rfl 5 (by decide) (hts (.fieldLink RX0 30 "LearnedReasons$AtOnce" "clash" "Z") (by decide +kernel)) (fun _ h9 => h9) rfl dX0_followThings_16 ?_
        refine lv_if_ne (tgt := 78) hx hb dX0_followThings_19 (by decide) (fun c_2 => ?_) (fun c_2 => ?_)
        · have h := if_f c_2 h
          have hx0 := Option.some.inj h
          rw [hQ]
          exact W.vret hx hb hr (fun t ht hW => ⟨⟨(I8, I9, I10), rfl, hx0, by show va_P _ _ _ t.heap; rw [ht]; exact hP⟩, hS.F ht⟩) hS.2.2 dX0_followThings_78
        · have h := if_t c_2 h
          refine lv_aload_n hx hb dX0_followThings_22 rfl (lv_at hl 0 rfl) ?_
          refine va_get (D := D) (ci := 0) (v := .ref (q 1)) (C := RX0) (T := TX0) (N := 6) hx hb hts in_X0_followThings_X0 hown hK hP 4 rfl rfl 0 (by decide) (hts (.fieldLink RX0 9 "LearnedReasons$AtOnce" "things" "LLearnedReasons$Things;") (by decide +kernel)) (fun _ h9 => h9) rfl dX0_followThings_23 ?_
          refine lv_iload_n hx hb dX0_followThings_26 rfl (lv_at hl 2 rfl) ?_
          obtain ⟨x_3, hx_3, h⟩ := ob_some h
          refine va_calli (va_runV (As := [.int v2]) (rest := []) ⟨hx, hb, hml, hown, hts⟩ (c_X5_isRow l D cI cJ q hq F (fu (fu (fu I 8 I8) 9 I9) 10 I10) J a b v2 x_3 hx_3) (cwV 1 hts gX0_followThings_X5_isRow rfl rfl rfl (by decide +kernel) (by rw [hR]; exact ⟨Nat.le_of_ble_eq_true rfl, Nat.le_of_ble_eq_true rfl⟩)) ⟨CUPc_blind, va_recv hK hP (ci := 5) (q0 := 1) rfl rfl, fun U hU hW => ⟨rfl, by rw [hU]; exact hP, va_K.moved hW.alike hK, va_Nw.warmM hW hN⟩⟩ rfl rfl hl.1 rfl (lv_room (Nat.le_of_ble_eq_true rfl)) dX0_followThings_27 ⟨Nat.zero_le _, Nat.zero_le _⟩) hS (fun _ _ h => h) (fun _ h => h) (fun r u t H1 locs ht hvm hw hB hz1 hk1 hS => ?_)
          obtain rfl := hw.symm
          rw [ht] at hB
          have hP : va_P D vwCl (CUW cI cJ q (fu (fu (fu I 8 I8) 9 I9) 10 I10) J a b) H1 := hB
          clear hB hz1 hk1 ht hvm
          generalize H1 = H at hP hS ⊢
          refine lv_if_eq (tgt := 41) hx hb dX0_followThings_30 (by decide) (fun c_4 => ?_) (fun c_4 => ?_)
          · have h := if_t c_4 h
            refine lv_aload_n hx hb dX0_followThings_41 rfl (lv_at hl 0 rfl) ?_
            refine va_get (D := D) (ci := 0) (v := .ref (q 1)) (C := RX0) (T := TX0) (N := 6) hx hb hts in_X0_followThings_X0 hown hK hP 4 rfl rfl 0 (by decide) (hts (.fieldLink RX0 9 "LearnedReasons$AtOnce" "things" "LLearnedReasons$Things;") (by decide +kernel)) (fun _ h9 => h9) rfl dX0_followThings_42 ?_
            refine lv_iload_n hx hb dX0_followThings_45 rfl (lv_at hl 2 rfl) ?_
            obtain ⟨x_5, hx_5, h⟩ := ob_some h
            refine va_calli (va_runV (As := [.int v2]) (rest := []) ⟨hx, hb, hml, hown, hts⟩ (c_X5_stands l D cI cJ q hq F (fu (fu (fu I 8 I8) 9 I9) 10 I10) J a b v2 x_5 hx_5) (cwV 1 hts gX0_followThings_X5_stands rfl rfl rfl (by decide +kernel) (by rw [hR]; exact ⟨Nat.le_of_ble_eq_true rfl, Nat.le_of_ble_eq_true rfl⟩)) ⟨CUPc_blind, va_recv hK hP (ci := 5) (q0 := 1) rfl rfl, fun U hU hW => ⟨rfl, by rw [hU]; exact hP, va_K.moved hW.alike hK, va_Nw.warmM hW hN⟩⟩ rfl rfl hl.1 rfl (lv_room (Nat.le_of_ble_eq_true rfl)) dX0_followThings_46 ⟨Nat.zero_le _, Nat.zero_le _⟩) hS (fun _ _ h => h) (fun _ h => h) (fun r u t H1 locs ht hvm hw hB hz1 hk1 hS => ?_)
            obtain rfl := hw.symm
            rw [ht] at hB
            have hP : va_P D vwCl (CUW cI cJ q (fu (fu (fu I 8 I8) 9 I9) 10 I10) J a b) H1 := hB
            clear hB hz1 hk1 ht hvm
            generalize H1 = H at hP hS ⊢
            refine lv_if_eq (tgt := 72) hx hb dX0_followThings_49 (by decide) (fun c_6 => ?_) (fun c_6 => ?_)
            · have h := if_t c_6 h
              refine lv_iinc (v := v2 + 1) (lv' := [(2, .int (v2 + 1)), (0, .ref (q 4)), (1, .int v1)]) hx hb dX0_followThings_72 hl (k := 2) rfl rfl (by decide) rfl (fun ls hl => ?_)
              refine lv_goto (tgt := 10) hx hb dX0_followThings_75 (by decide) ?_
              exact ih10 v1 (v2 + 1) I8 I9 I10 h _ _ hP hS ls (lv_sub hl [1, 2, 0] rfl)
            · have h := if_f c_6 h
              refine lv_aload_n hx hb dX0_followThings_52 rfl (lv_at hl 0 rfl) ?_
              refine lv_aload_n hx hb dX0_followThings_53 rfl (lv_at hl 0 rfl) ?_
              refine va_get (D := D) (ci := 0) (v := .ref (q 1)) (C := RX0) (T := TX0) (N := 6) hx hb hts in_X0_followThings_X0 hown hK hP 4 rfl rfl 0 (by decide) (hts (.fieldLink RX0 9 "LearnedReasons$AtOnce" "things" "LLearnedReasons$Things;") (by decide +kernel)) (fun _ h9 => h9) rfl dX0_followThings_54 ?_
              refine lv_iload_n hx hb dX0_followThings_57 rfl (lv_at hl 2 rfl) ?_
              obtain ⟨x_7, hx_7, h⟩ := ob_some h
              refine va_calli (va_runV (As := [.int v2]) (rest := [.ref (q 4)]) ⟨hx, hb, hml, hown, hts⟩ (c_X5_wantedTrue l D cI cJ q hq F (fu (fu (fu I 8 I8) 9 I9) 10 I10) J a b v2 x_7 hx_7) (cwV 1 hts gX0_followThings_X5_wantedTrue rfl rfl rfl (by decide +kernel) (by rw [hR]; exact ⟨Nat.le_of_ble_eq_true rfl, Nat.le_of_ble_eq_true rfl⟩)) ⟨CUPc_blind, va_recv hK hP (ci := 5) (q0 := 1) rfl rfl, fun U hU hW => ⟨rfl, by rw [hU]; exact hP, va_K.moved hW.alike hK, va_Nw.warmM hW hN⟩⟩ rfl rfl hl.1 rfl (lv_room (Nat.le_of_ble_eq_true rfl)) dX0_followThings_58 ⟨Nat.zero_le _, Nat.zero_le _⟩) hS (fun _ _ h => h) (fun _ h => h) (fun r u t H1 locs ht hvm hw hB hz1 hk1 hS => ?_)
              obtain rfl := hw.symm
              rw [ht] at hB
              have hP : va_P D vwCl (CUW cI cJ q (fu (fu (fu I 8 I8) 9 I9) 10 I10) J a b) H1 := hB
              clear hB hz1 hk1 ht hvm
              generalize H1 = H at hP hS ⊢
              refine lv_aload_n hx hb dX0_followThings_61 rfl (lv_at hl 0 rfl) ?_
              refine va_get (D := D) (ci := 0) (v := .ref (q 1)) (C := RX0) (T := TX0) (N := 6) hx hb hts in_X0_followThings_X0 hown hK hP 4 rfl rfl 0 (by decide) (hts (.fieldLink RX0 9 "LearnedReasons$AtOnce" "things" "LLearnedReasons$Things;") (by decide +kernel)) (fun _ h9 => h9) rfl dX0_followThings_62 ?_
              refine lv_iload_n hx hb dX0_followThings_65 rfl (lv_at hl 2 rfl) ?_
              obtain ⟨x_8, hx_8, h⟩ := ob_some h
              refine va_calli (va_runV (As := [.int v2]) (rest := [.int x_7, .ref (q 4)]) ⟨hx, hb, hml, hown, hts⟩ (c_X5_wantedFalse l D cI cJ q hq F (fu (fu (fu I 8 I8) 9 I9) 10 I10) J a b v2 x_8 hx_8) (cwV 1 hts gX0_followThings_X5_wantedFalse rfl rfl rfl (by decide +kernel) (by rw [hR]; exact ⟨Nat.le_of_ble_eq_true rfl, Nat.le_of_ble_eq_true rfl⟩)) ⟨CUPc_blind, va_recv hK hP (ci := 5) (q0 := 1) rfl rfl, fun U hU hW => ⟨rfl, by rw [hU]; exact hP, va_K.moved hW.alike hK, va_Nw.warmM hW hN⟩⟩ rfl rfl hl.1 rfl (lv_room (Nat.le_of_ble_eq_true rfl)) dX0_followThings_66 ⟨Nat.zero_le _, Nat.zero_le _⟩) hS (fun _ _ h => h) (fun _ h => h) (fun r u t H1 locs ht hvm hw hB hz1 hk1 hS => ?_)
              obtain rfl := hw.symm
              rw [ht] at hB
              have hP : va_P D vwCl (CUW cI cJ q (fu (fu (fu I 8 I8) 9 I9) 10 I10) J a b) H1 := hB
              clear hB hz1 hk1 ht hvm
              generalize H1 = H at hP hS ⊢
              obtain ⟨x_9, hx_9, h⟩ := ob_some h
              refine va_callv (va_runV (As := [.int x_7, .int x_8]) (rest := []) ⟨hx, hb, hml, hown, hts⟩ (c_X0_followClause l D cI cJ q hq F (fu (fu (fu I 8 I8) 9 I9) 10 I10) J a b x_7 x_8 x_9 hx_9) (cwV 2 hts gX0_followThings_X0_followClause rfl rfl rfl (by decide +kernel) (by rw [hR]; exact ⟨Nat.le_of_ble_eq_true rfl, Nat.le_of_ble_eq_true rfl⟩)) ⟨CUPc_blind, va_recv hK hP (ci := 0) (q0 := 4) rfl rfl, fun U hU hW => ⟨rfl, by rw [hU]; exact hP, va_K.moved hW.alike hK, va_Nw.warmM hW hN⟩⟩ rfl rfl hl.1 rfl (lv_room (Nat.le_of_ble_eq_true rfl)) dX0_followThings_69 ⟨Nat.zero_le _, Nat.zero_le _⟩) hS (fun _ _ h => h) (fun _ h => h) (fun u t H1 locs ht hvm hw hB hz1 hk1 hS => ?_)
              obtain rfl := hw.symm
              rw [ht] at hB
              have hP : va_P D vwCl (CUW cI cJ q (fu (fu (fu I 8 x_9.1) 9 x_9.2.1) 10 x_9.2.2) J a b) H1 := hB
              clear hB hz1 hk1 ht hvm
              generalize H1 = H at hP hS ⊢
              refine lv_iinc (v := v2 + 1) (lv' := [(2, .int (v2 + 1)), (0, .ref (q 4)), (1, .int v1)]) hx hb dX0_followThings_72 hl (k := 2) rfl rfl (by decide) rfl (fun ls hl => ?_)
              refine lv_goto (tgt := 10) hx hb dX0_followThings_75 (by decide) ?_
              exact ih10 v1 (v2 + 1) x_9.1 x_9.2.1 x_9.2.2 h _ _ hP hS ls (lv_sub hl [1, 2, 0] rfl)
          · have h := if_f c_4 h
            refine lv_aload_n hx hb dX0_followThings_33 rfl (lv_at hl 0 rfl) ?_
            refine lv_iload_n hx hb dX0_followThings_34 rfl (lv_at hl 2 rfl) ?_
            obtain ⟨x_10, hx_10, h⟩ := ob_some h
            refine va_callv (va_runV (As := [.int v2]) (rest := []) ⟨hx, hb, hml, hown, hts⟩ (c_X0_followRow l D cI cJ q hq F (fu (fu (fu I 8 I8) 9 I9) 10 I10) J a b v2 x_10 hx_10) (cwV 1 hts gX0_followThings_X0_followRow rfl rfl rfl (by decide +kernel) (by rw [hR]; exact ⟨Nat.le_of_ble_eq_true rfl, Nat.le_of_ble_eq_true rfl⟩)) ⟨CUPc_blind, va_recv hK hP (ci := 0) (q0 := 4) rfl rfl, fun U hU hW => ⟨rfl, by rw [hU]; exact hP, va_K.moved hW.alike hK, va_Nw.warmM hW hN⟩⟩ rfl rfl hl.1 rfl (lv_room (Nat.le_of_ble_eq_true rfl)) dX0_followThings_35 ⟨Nat.zero_le _, Nat.zero_le _⟩) hS (fun _ _ h => h) (fun _ h => h) (fun u t H1 locs ht hvm hw hB hz1 hk1 hS => ?_)
            obtain rfl := hw.symm
            rw [ht] at hB
            have hP : va_P D vwCl (CUW cI cJ q (fu (fu (fu I 8 x_10.1) 9 x_10.2.1) 10 x_10.2.2) J a b) H1 := hB
            clear hB hz1 hk1 ht hvm
            generalize H1 = H at hP hS ⊢
            refine lv_goto (tgt := 72) hx hb dX0_followThings_38 (by decide) ?_
            refine lv_iinc (v := v2 + 1) (lv' := [(2, .int (v2 + 1)), (0, .ref (q 4)), (1, .int v1)]) hx hb dX0_followThings_72 hl (k := 2) rfl rfl (by decide) rfl (fun ls hl => ?_)
            refine lv_goto (tgt := 10) hx hb dX0_followThings_75 (by decide) ?_
            exact ih10 v1 (v2 + 1) x_10.1 x_10.2.1 x_10.2.2 h _ _ hP hS ls (lv_sub hl [1, 2, 0] rfl)
  refine lv_aload_n hx hb dX0_followThings_0 rfl (lv_at hl 0 rfl) ?_
  refine va_get (D := D) (ci := 0) (v := .ref (q 1)) (C := RX0) (T := TX0) (N := 6) hx hb hts in_X0_followThings_X0 hown hK hP 4 rfl rfl 0 (by decide) (hts (.fieldLink RX0 9 "LearnedReasons$AtOnce" "things" "LLearnedReasons$Things;") (by decide +kernel)) (fun _ h9 => h9) rfl dX0_followThings_1 ?_
  obtain ⟨x_11, hx_11, h⟩ := ob_some h
  refine va_calli (va_runV (As := []) (rest := []) ⟨hx, hb, hml, hown, hts⟩ (c_X5_numbersGiven l D cI cJ q hq F I J a b x_11 hx_11) (cwV 0 hts gX0_followThings_X5_numbersGiven rfl rfl rfl (by decide +kernel) (by rw [hR]; exact ⟨Nat.le_of_ble_eq_true rfl, Nat.le_of_ble_eq_true rfl⟩)) ⟨CUPc_blind, va_recv hK hP (ci := 5) (q0 := 1) rfl rfl, fun U hU hW => ⟨rfl, by rw [hU]; exact hP, va_K.moved hW.alike hK, va_Nw.warmM hW hN⟩⟩ rfl rfl hl.1 rfl (lv_room (Nat.le_of_ble_eq_true rfl)) dX0_followThings_4 ⟨Nat.zero_le _, Nat.zero_le _⟩) hS (fun _ _ h => h) (fun _ h => h) (fun r u t H1 locs ht hvm hw hB hz1 hk1 hS => ?_)
  obtain rfl := hw.symm
  rw [ht] at hB
  have hP : va_P D vwCl (CUW cI cJ q I J a b) H1 := hB
  clear hB hz1 hk1 ht hvm
  generalize H1 = H at hP hS ⊢
  refine lv_istore_n (lv' := [(1, .int x_11), (0, .ref (q 4))]) hx hb dX0_followThings_7 rfl hl (by decide) rfl (fun ls hl => ?_)
  refine lv_iconst (v := 0) hx hb dX0_followThings_8 (by decide) ?_
  refine lv_istore_n (lv' := [(2, .int 0), (1, .int x_11), (0, .ref (q 4))]) hx hb dX0_followThings_9 rfl hl (by decide) rfl (fun ls hl => ?_)
  exact C10 F x_11 0 (I 8) (I 9) (I 10) h _ _ hP hS ls (lv_sub hl [2, 1, 0] rfl)
