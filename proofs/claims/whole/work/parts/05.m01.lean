theorem in_X7_weight_X7 : ∀ w ∈ wsX70, w ∈ wsX7_weight := by decide +kernel
set_option maxHeartbeats 4000000 in
set_option maxRecDepth 100000 in
theorem c_X7_weight (l : Launch) (D : va_G) (cI cJ cZ : ClassId) (q : Nat → Nat) (hq : MUQ q) (F : Nat) (I : Nat → Int32) (J : Nat → Int64) (a : Nat → Nat → Int32) (b : Nat → Nat → Int64) (v1 : Int32) (v2 : Int32) (v3 : Int32) (x0 : Int32 × Int32 × Int32 × Int32 × (Nat → Int32)) (h : f_X7_weight F I J a b v1 v2 v3 = some x0) : Met l yX7_weight wsX7_weight ({ frames := 1, cells := 0, slots := 0, locals := 21 }) (MUPc D cI cJ cZ q I J a b [.ref (q 0), .int v1, .int v2, .int v3]) (va_Qi (fun (r : Int32) (u : Int32 × Int32 × Int32 × (Nat → Int32)) => r = x0.1 ∧ u = x0.2) (fun (u : Int32 × Int32 × Int32 × (Nat → Int32)) t => va_P D vwCl (MUW cI cJ cZ q (fu (fu (fu I 7 u.1) 8 u.2.1) 9 u.2.2.1) J (fu a 5 u.2.2.2) b) t.heap) (MUA q)) 0 0 (MUA q) := by
  refine mt_of (cc := cX7_weight) (maxL := 4) (ret := (some .int)) (by decide) rfl ?_
  intro p e s m args below meth c s₁ B0 hml hv R Q hR hQ
  obtain ⟨hargs, hP, hK, hN⟩ := hv
  have hx := B0.exec
  have hb := B0.bytes
  have hr := B0.returns
  have hts := atoms_spec (ws := wsX7_weight) B0.pre
  have hown : s.vm.findClass RX7 = some m.cls := findClass_of_methodNamed B0.named
  have hlocks := B0.notSynchronized
  have hS : va_S (MUA q) s.heap s.heap [] := va_S.rf
  have hl := lv_entry ([.ref (q 0), .int v1, .int v2, .int v3]) (n := 4) (Nat.le_of_ble_eq_true rfl)
  rw [hargs, lg_entry_eq]
  rw [← hargs]
  generalize (lg_sl ([.ref (q 0), .int v1, .int v2, .int v3]) ++ List.replicate (4 - (lg_sl ([.ref (q 0), .int v1, .int v2, .int v3])).length) Slot.unset).toArray = ls at hl ⊢
  have hl : lv_has ls 4 [(0, .ref (q 0)), (1, .int v1), (2, .int v2), (3, .int v3)] := hl
  unfold f_X7_weight at h
  refine lv_iload_n hx hb dX7_weight_0 rfl (lv_at hl 1 rfl) ?_
  refine lv_if_lt (tgt := 38) hx hb dX7_weight_1 (by decide) (fun c_1 => ?_) (fun c_1 => ?_)
  · have h := if_t c_1 h
    refine lv_iconst (v := (-1)) hx hb dX7_weight_38 (by decide) ?_
    have hx0 := Option.some.inj h
    rw [hQ]
    exact W.iret (v := (-1)) hx hb hr (fun t ht hW => ⟨⟨(-1), ((I 7), (I 8), (I 9), (a 5)), rfl, ⟨congrArg (fun z => z.1) hx0, congrArg (fun z => z.2) hx0⟩, by show va_P _ _ _ t.heap; rw [ht]; exact hP⟩, hS.F ht⟩) hS.2.2 dX7_weight_39
  · have h := if_f c_1 h
    refine lv_iload_n hx hb dX7_weight_4 rfl (lv_at hl 1 rfl) ?_
    refine lv_aload_n hx hb dX7_weight_5 rfl (lv_at hl 0 rfl) ?_
    refine va_get (D := D) (ci := 7) (v := .int (I 1)) (C := RX7) (T := TX7) (N := 38) hx hb hts in_X7_weight_X7 hown hK hP 0 rfl rfl 1 (by decide) (hts (.fieldLink RX7 66 "LearnedReasonsModel" "things" "I") (by decide +kernel)) (fun _ h9 => h9) rfl dX7_weight_6 ?_
    refine lv_icmp_ge (tgt := 38) hx hb dX7_weight_9 (by decide) (fun c_2 => ?_) (fun c_2 => ?_)
    · have h := if_t c_2 h
      refine lv_iconst (v := (-1)) hx hb dX7_weight_38 (by decide) ?_
      have hx0 := Option.some.inj h
      rw [hQ]
      exact W.iret (v := (-1)) hx hb hr (fun t ht hW => ⟨⟨(-1), ((I 7), (I 8), (I 9), (a 5)), rfl, ⟨congrArg (fun z => z.1) hx0, congrArg (fun z => z.2) hx0⟩, by show va_P _ _ _ t.heap; rw [ht]; exact hP⟩, hS.F ht⟩) hS.2.2 dX7_weight_39
    · have h := if_f c_2 h
      refine lv_aload_n hx hb dX7_weight_12 rfl (lv_at hl 0 rfl) ?_
      refine va_get (D := D) (ci := 7) (v := .ref (q 1)) (C := RX7) (T := TX7) (N := 38) hx hb hts in_X7_weight_X7 hown hK hP 0 rfl rfl 2 (by decide) (hts (.fieldLink RX7 7 "LearnedReasonsModel" "alive" "[Z") (by decide +kernel)) (fun _ h9 => h9) rfl dX7_weight_13 ?_
      refine lv_iload_n hx hb dX7_weight_16 rfl (lv_at hl 1 rfl) ?_
      obtain ⟨g_3, h⟩ := gd_some h
      refine va_zald hx hb hK hP 1 2 rfl rfl g_3 dX7_weight_17 ?_
      refine lv_if_eq (tgt := 38) hx hb dX7_weight_18 (by decide) (fun c_4 => ?_) (fun c_4 => ?_)
      · have h := if_t c_4 h
        refine lv_iconst (v := (-1)) hx hb dX7_weight_38 (by decide) ?_
        have hx0 := Option.some.inj h
        rw [hQ]
        exact W.iret (v := (-1)) hx hb hr (fun t ht hW => ⟨⟨(-1), ((I 7), (I 8), (I 9), (a 5)), rfl, ⟨congrArg (fun z => z.1) hx0, congrArg (fun z => z.2) hx0⟩, by show va_P _ _ _ t.heap; rw [ht]; exact hP⟩, hS.F ht⟩) hS.2.2 dX7_weight_39
      · have h := if_f c_4 h
        refine lv_aload_n hx hb dX7_weight_21 rfl (lv_at hl 0 rfl) ?_
        refine va_get (D := D) (ci := 7) (v := .ref (q 2)) (C := RX7) (T := TX7) (N := 38) hx hb hts in_X7_weight_X7 hown hK hP 0 rfl rfl 3 (by decide) (hts (.fieldLink RX7 13 "LearnedReasonsModel" "isRow" "[Z") (by decide +kernel)) (fun _ h9 => h9) rfl dX7_weight_22 ?_
        refine lv_iload_n hx hb dX7_weight_25 rfl (lv_at hl 1 rfl) ?_
        obtain ⟨g_5, h⟩ := gd_some h
        refine va_zald hx hb hK hP 2 2 rfl rfl g_5 dX7_weight_26 ?_
        refine lv_if_eq (tgt := 38) hx hb dX7_weight_27 (by decide) (fun c_6 => ?_) (fun c_6 => ?_)
        · have h := if_t c_6 h
          refine lv_iconst (v := (-1)) hx hb dX7_weight_38 (by decide) ?_
          have hx0 := Option.some.inj h
          rw [hQ]
          exact W.iret (v := (-1)) hx hb hr (fun t ht hW => ⟨⟨(-1), ((I 7), (I 8), (I 9), (a 5)), rfl, ⟨congrArg (fun z => z.1) hx0, congrArg (fun z => z.2) hx0⟩, by show va_P _ _ _ t.heap; rw [ht]; exact hP⟩, hS.F ht⟩) hS.2.2 dX7_weight_39
        · have h := if_f c_6 h
          refine lv_aload_n hx hb dX7_weight_30 rfl (lv_at hl 0 rfl) ?_
          refine lv_iload_n hx hb dX7_weight_31 rfl (lv_at hl 2 rfl) ?_
          obtain ⟨x_7, hx_7, h⟩ := ob_some h
          refine va_calli (va_runV (As := [.int v2]) (rest := []) ⟨hx, hb, hml, hown, hts⟩ (c_X7_isName l D cI cJ cZ q hq F I J a b v2 x_7 hx_7) (cwV 1 hts gX7_weight_X7_isName rfl rfl rfl (by decide +kernel) (by rw [hR]; exact ⟨Nat.le_of_ble_eq_true rfl, Nat.le_of_ble_eq_true rfl⟩)) ⟨MUPc_blind, va_recv hK hP (ci := 7) (q0 := 0) rfl rfl, fun U hU hW => ⟨rfl, by rw [hU]; exact hP, va_K.moved hW.alike hK, trivial⟩⟩ rfl rfl hl.1 rfl (lv_room (Nat.le_of_ble_eq_true rfl)) dX7_weight_32 ⟨Nat.zero_le _, Nat.zero_le _⟩) hS (fun _ _ h => h) (fun _ h => h) (fun r u t H1 locs ht hvm hw hB hz1 hk1 hS => ?_)
          obtain rfl := hw.symm
          rw [ht] at hB
          have hP : va_P D vwCl (MUW cI cJ cZ q I J a b) H1 := hB
          clear hB hz1 hk1 ht hvm
          generalize H1 = H at hP hS ⊢
          refine lv_if_ne (tgt := 40) hx hb dX7_weight_35 (by decide) (fun c_8 => ?_) (fun c_8 => ?_)
          · have h := if_f c_8 h
            refine lv_iload_n hx hb dX7_weight_40 rfl (lv_at hl 3 rfl) ?_
            refine lv_bipush (v := (-20)) hx hb dX7_weight_41 (by decide) ?_
            refine lv_icmp_lt (tgt := 52) hx hb dX7_weight_43 (by decide) (fun c_9 => ?_) (fun c_9 => ?_)
            · have h := if_t c_9 h
              refine lv_bipush (v := (-2)) hx hb dX7_weight_52 (by decide) ?_
              have hx0 := Option.some.inj h
              rw [hQ]
              exact W.iret (v := (-2)) hx hb hr (fun t ht hW => ⟨⟨(-2), ((I 7), (I 8), (I 9), (a 5)), rfl, ⟨congrArg (fun z => z.1) hx0, congrArg (fun z => z.2) hx0⟩, by show va_P _ _ _ t.heap; rw [ht]; exact hP⟩, hS.F ht⟩) hS.2.2 dX7_weight_54
            · have h := if_f c_9 h
              refine lv_iload_n hx hb dX7_weight_46 rfl (lv_at hl 3 rfl) ?_
              refine lv_bipush (v := 20) hx hb dX7_weight_47 (by decide) ?_
              refine lv_icmp_le (tgt := 55) hx hb dX7_weight_49 (by decide) (fun c_10 => ?_) (fun c_10 => ?_)
              · have h := if_t c_10 h
                refine lv_aload_n hx hb dX7_weight_55 rfl (lv_at hl 0 rfl) ?_
                refine va_get (D := D) (ci := 7) (v := .ref (q 6)) (C := RX7) (T := TX7) (N := 38) hx hb hts in_X7_weight_X7 hown hK hP 0 rfl rfl 7 (by decide) (hts (.fieldLink RX7 26 "LearnedReasonsModel" "weights" "[I") (by decide +kernel)) (fun _ h9 => h9) rfl dX7_weight_56 ?_
                refine lv_bipush (v := 14) hx hb dX7_weight_59 (by decide) ?_
                refine lv_iload_n hx hb dX7_weight_61 rfl (lv_at hl 1 rfl) ?_
                refine lv_imul hx hb dX7_weight_62 ?_
                refine lv_iload_n hx hb dX7_weight_63 rfl (lv_at hl 2 rfl) ?_
                refine lv_iadd hx hb dX7_weight_64 ?_
                refine lv_iload_n hx hb dX7_weight_65 rfl (lv_at hl 3 rfl) ?_
                obtain ⟨g_11, h⟩ := gd_some h
                refine va_iast hx hb hK hP (MUW_D hq) hS 6 0 rfl rfl g_11 dX7_weight_66 (fun H locs hP _ hS => ?_)
                have hP : va_P D vwCl (MUW cI cJ cZ q I J (fu a 5 (upd (a 5) (((14 : Int32) * v1) + v2).toNatClampNeg v3)) b) H := hP
                refine lv_aload_n hx hb dX7_weight_67 rfl (lv_at hl 0 rfl) ?_
                obtain ⟨x_12, hx_12, h⟩ := ob_some h
                refine va_callv (va_runV (As := []) (rest := []) ⟨hx, hb, hml, hown, hts⟩ (c_X7_change l D cI cJ cZ q hq F I J (fu a 5 (upd (a 5) (((14 : Int32) * v1) + v2).toNatClampNeg v3)) b x_12 hx_12) (cwV 0 hts gX7_weight_X7_change rfl rfl rfl (by decide +kernel) (by rw [hR]; exact ⟨Nat.le_of_ble_eq_true rfl, Nat.le_of_ble_eq_true rfl⟩)) ⟨MUPc_blind, va_recv hK hP (ci := 7) (q0 := 0) rfl rfl, fun U hU hW => ⟨rfl, by rw [hU]; exact hP, va_K.moved hW.alike hK, trivial⟩⟩ rfl rfl hl.1 rfl (lv_room (Nat.le_of_ble_eq_true rfl)) dX7_weight_68 ⟨Nat.zero_le _, Nat.zero_le _⟩) hS (fun _ _ h => h) (fun _ h => h) (fun u t H1 locs ht hvm hw hB hz1 hk1 hS => ?_)
                obtain rfl := hw.symm
                rw [ht] at hB
                have hP : va_P D vwCl (MUW cI cJ cZ q (fu (fu (fu I 7 x_12.1) 8 x_12.2.1) 9 x_12.2.2) J (fu a 5 (upd (a 5) (((14 : Int32) * v1) + v2).toNatClampNeg v3)) b) H1 := hB
                clear hB hz1 hk1 ht hvm
                generalize H1 = H at hP hS ⊢
                refine lv_iconst (v := 1) hx hb dX7_weight_71 (by decide) ?_
                have hx0 := Option.some.inj h
                rw [hQ]
                exact W.iret (v := 1) hx hb hr (fun t ht hW => ⟨⟨1, (x_12.1, x_12.2.1, x_12.2.2, (upd (a 5) (((14 : Int32) * v1) + v2).toNatClampNeg v3)), rfl, ⟨congrArg (fun z => z.1) hx0, congrArg (fun z => z.2) hx0⟩, by show va_P _ _ _ t.heap; rw [ht]; exact hP⟩, hS.F ht⟩) hS.2.2 dX7_weight_72
              · have h := if_f c_10 h
                refine lv_bipush (v := (-2)) hx hb dX7_weight_52 (by decide) ?_
                have hx0 := Option.some.inj h
                rw [hQ]
                exact W.iret (v := (-2)) hx hb hr (fun t ht hW => ⟨⟨(-2), ((I 7), (I 8), (I 9), (a 5)), rfl, ⟨congrArg (fun z => z.1) hx0, congrArg (fun z => z.2) hx0⟩, by show va_P _ _ _ t.heap; rw [ht]; exact hP⟩, hS.F ht⟩) hS.2.2 dX7_weight_54
          · have h := if_t c_8 h
            refine lv_iconst (v := (-1)) hx hb dX7_weight_38 (by decide) ?_
            have hx0 := Option.some.inj h
            rw [hQ]
            exact W.iret (v := (-1)) hx hb hr (fun t ht hW => ⟨⟨(-1), ((I 7), (I 8), (I 9), (a 5)), rfl, ⟨congrArg (fun z => z.1) hx0, congrArg (fun z => z.2) hx0⟩, by show va_P _ _ _ t.heap; rw [ht]; exact hP⟩, hS.F ht⟩) hS.2.2 dX7_weight_39
theorem in_X7_drop_X7 : ∀ w ∈ wsX70, w ∈ wsX7_drop := by decide +kernel
set_option maxHeartbeats 4000000 in
set_option maxRecDepth 100000 in
theorem c_X7_drop (l : Launch) (D : va_G) (cI cJ cZ : ClassId) (q : Nat → Nat) (hq : MUQ q) (F : Nat) (I : Nat → Int32) (J : Nat → Int64) (a : Nat → Nat → Int32) (b : Nat → Nat → Int64) (v1 : Int32) (x0 : Int32 × Int32 × Int32 × Int32 × (Nat → Int32)) (h : f_X7_drop F I J a b v1 = some x0) : Met l yX7_drop wsX7_drop ({ frames := 1, cells := 0, slots := 0, locals := 20 }) (MUPc D cI cJ cZ q I J a b [.ref (q 0), .int v1]) (va_Qi (fun (r : Int32) (u : Int32 × Int32 × Int32 × (Nat → Int32)) => r = x0.1 ∧ u = x0.2) (fun (u : Int32 × Int32 × Int32 × (Nat → Int32)) t => va_P D vwCl (MUW cI cJ cZ q (fu (fu (fu I 7 u.1) 8 u.2.1) 9 u.2.2.1) J (fu a 0 u.2.2.2) b) t.heap) (MUA q)) 0 0 (MUA q) := by
  refine mt_of (cc := cX7_drop) (maxL := 4) (ret := (some .int)) (by decide) rfl ?_
  intro p e s m args below meth c s₁ B0 hml hv R Q hR hQ
  obtain ⟨hargs, hP, hK, hN⟩ := hv
  have hx := B0.exec
  have hb := B0.bytes
  have hr := B0.returns
  have hts := atoms_spec (ws := wsX7_drop) B0.pre
  have hown : s.vm.findClass RX7 = some m.cls := findClass_of_methodNamed B0.named
  have hlocks := B0.notSynchronized
  have hS : va_S (MUA q) s.heap s.heap [] := va_S.rf
  have hl := lv_entry ([.ref (q 0), .int v1]) (n := 4) (Nat.le_of_ble_eq_true rfl)
  rw [hargs, lg_entry_eq]
  rw [← hargs]
  generalize (lg_sl ([.ref (q 0), .int v1]) ++ List.replicate (4 - (lg_sl ([.ref (q 0), .int v1])).length) Slot.unset).toArray = ls at hl ⊢
  have hl : lv_has ls 4 [(0, .ref (q 0)), (1, .int v1)] := hl
  unfold f_X7_drop at h
  have C38 : ∀ (n38 : Nat) (v2 : Int32) (v3 : Int32) (I7 : Int32) (I8 : Int32) (I9 : Int32) (a0 : Nat → Int32), k_X7_drop_38 F I J a b n38 v2 v3 I7 I8 I9 a0 = some x0 → ∀ (H : Heap) (locs : List Loc), va_P D vwCl (MUW cI cJ cZ q (fu (fu (fu I 7 I7) 8 I8) 9 I9) J (fu a 0 a0) b) H → va_S (MUA q) s.heap H locs → ∀ ls : Array Slot, lv_has ls 4 [(0, .ref (q 0)), (2, .int v2), (3, .int v3)] → W p l e R s m args below meth c H locs 0 0 Q (F0 m 38 ls []) := by
    intro n38
    induction n38 with
    | zero => intro v2 v3 I7 I8 I9 a0 h; rw [k_X7_drop_38] at h; cases h
    | succ n38 ih38 =>
      intro v2 v3 I7 I8 I9 a0 h H locs hP hS ls hl
      rw [k_X7_drop_38] at h
      refine lv_iload_n hx hb dX7_drop_38 rfl (lv_at hl 2 rfl) ?_
      refine lv_aload_n hx hb dX7_drop_39 rfl (lv_at hl 0 rfl) ?_
      refine va_get (D := D) (ci := 7) (v := .int (I 1)) (C := RX7) (T := TX7) (N := 38) hx hb hts in_X7_drop_X7 hown hK hP 0 rfl rfl 1 (by decide) (hts (.fieldLink RX7 66 "LearnedReasonsModel" "things" "I") (by decide +kernel)) (fun _ h9 => h9) rfl dX7_drop_40 ?_
      refine lv_icmp_ge (tgt := 69) hx hb dX7_drop_43 (by decide) (fun c_1 => ?_) (fun c_1 => ?_)
      · have h := if_t c_1 h
        refine lv_iload_n hx hb dX7_drop_69 rfl (lv_at hl 1 rfl) ?_
        have hx0 := Option.some.inj h
        rw [hQ]
        exact W.iret (v := v2) hx hb hr (fun t ht hW => ⟨⟨v2, (I7, I8, I9, a0), rfl, ⟨congrArg (fun z => z.1) hx0, congrArg (fun z => z.2) hx0⟩, by show va_P _ _ _ t.heap; rw [ht]; exact hP⟩, hS.F ht⟩) hS.2.2 dX7_drop_70
      · have h := if_f c_1 h
        refine lv_iload_n hx hb dX7_drop_46 rfl (lv_at hl 1 rfl) ?_
        refine lv_aload_n hx hb dX7_drop_47 rfl (lv_at hl 0 rfl) ?_
        refine va_get (D := D) (ci := 7) (v := .ref (q 1)) (C := RX7) (T := TX7) (N := 38) hx hb hts in_X7_drop_X7 hown hK hP 0 rfl rfl 2 (by decide) (hts (.fieldLink RX7 7 "LearnedReasonsModel" "alive" "[Z") (by decide +kernel)) (fun _ h9 => h9) rfl dX7_drop_48 ?_
        refine lv_iload_n hx hb dX7_drop_51 rfl (lv_at hl 2 rfl) ?_
        obtain ⟨g_2, h⟩ := gd_some h
        refine va_zald hx hb hK hP 1 2 rfl rfl g_2 dX7_drop_52 ?_
        refine lv_if_eq (tgt := 60) hx hb dX7_drop_53 (by decide) (fun c_3 => ?_) (fun c_3 => ?_)
        · have h := if_t c_3 h
          refine lv_iconst (v := 0) hx hb dX7_drop_60 (by decide) ?_
          refine lv_iadd hx hb dX7_drop_61 ?_
          refine lv_topi (fun v_4 ev_4 => ?_)
          have h := nmI_at ev_4 h
          refine lv_istore_n (lv' := [(2, .int v_4), (0, .ref (q 0)), (3, .int v3)]) hx hb dX7_drop_62 rfl hl (by decide) rfl (fun ls hl => ?_)
          refine lv_iinc (v := v3 + 1) (lv' := [(3, .int (v3 + 1)), (2, .int v_4), (0, .ref (q 0))]) hx hb dX7_drop_63 hl (k := 2) rfl rfl (by decide) rfl (fun ls hl => ?_)
          refine lv_goto (tgt := 38) hx hb dX7_drop_66 (by decide) ?_
          exact ih38 v_4 (v3 + 1) I7 I8 I9 a0 h _ _ hP hS ls (lv_sub hl [2, 1, 0] rfl)
        · have h := if_f c_3 h
          refine lv_iconst (v := 1) hx hb dX7_drop_56 (by decide) ?_
          refine lv_goto (tgt := 61) hx hb dX7_drop_57 (by decide) ?_
          refine lv_iadd hx hb dX7_drop_61 ?_
          refine lv_topi (fun v_5 ev_5 => ?_)
          have h := nmI_at ev_5 h
          refine lv_istore_n (lv' := [(2, .int v_5), (0, .ref (q 0)), (3, .int v3)]) hx hb dX7_drop_62 rfl hl (by decide) rfl (fun ls hl => ?_)
          refine lv_iinc (v := v3 + 1) (lv' := [(3, .int (v3 + 1)), (2, .int v_5), (0, .ref (q 0))]) hx hb dX7_drop_63 hl (k := 2) rfl rfl (by decide) rfl (fun ls hl => ?_)
          refine lv_goto (tgt := 38) hx hb dX7_drop_66 (by decide) ?_
          exact ih38 v_5 (v3 + 1) I7 I8 I9 a0 h _ _ hP hS ls (lv_sub hl [2, 1, 0] rfl)
  refine lv_iload_n hx hb dX7_drop_0 rfl (lv_at hl 1 rfl) ?_
  refine lv_if_lt (tgt := 21) hx hb dX7_drop_1 (by decide) (fun c_6 => ?_) (fun c_6 => ?_)
  · have h := if_t c_6 h
    refine lv_iconst (v := (-1)) hx hb dX7_drop_21 (by decide) ?_
    have hx0 := Option.some.inj h
    rw [hQ]
    exact W.iret (v := (-1)) hx hb hr (fun t ht hW => ⟨⟨(-1), ((I 7), (I 8), (I 9), (a 0)), rfl, ⟨congrArg (fun z => z.1) hx0, congrArg (fun z => z.2) hx0⟩, by show va_P _ _ _ t.heap; rw [ht]; exact hP⟩, hS.F ht⟩) hS.2.2 dX7_drop_22
  · have h := if_f c_6 h
    refine lv_iload_n hx hb dX7_drop_4 rfl (lv_at hl 1 rfl) ?_
    refine lv_aload_n hx hb dX7_drop_5 rfl (lv_at hl 0 rfl) ?_
    refine va_get (D := D) (ci := 7) (v := .int (I 1)) (C := RX7) (T := TX7) (N := 38) hx hb hts in_X7_drop_X7 hown hK hP 0 rfl rfl 1 (by decide) (hts (.fieldLink RX7 66 "LearnedReasonsModel" "things" "I") (by decide +kernel)) (fun _ h9 => h9) rfl dX7_drop_6 ?_
    refine lv_icmp_ge (tgt := 21) hx hb dX7_drop_9 (by decide) (fun c_7 => ?_) (fun c_7 => ?_)
    · have h := if_t c_7 h
      refine lv_iconst (v := (-1)) hx hb dX7_drop_21 (by decide) ?_
      have hx0 := Option.some.inj h
      rw [hQ]
      exact W.iret (v := (-1)) hx hb hr (fun t ht hW => ⟨⟨(-1), ((I 7), (I 8), (I 9), (a 0)), rfl, ⟨congrArg (fun z => z.1) hx0, congrArg (fun z => z.2) hx0⟩, by show va_P _ _ _ t.heap; rw [ht]; exact hP⟩, hS.F ht⟩) hS.2.2 dX7_drop_22
    · have h := if_f c_7 h
      refine lv_aload_n hx hb dX7_drop_12 rfl (lv_at hl 0 rfl) ?_
      refine va_get (D := D) (ci := 7) (v := .ref (q 1)) (C := RX7) (T := TX7) (N := 38) hx hb hts in_X7_drop_X7 hown hK hP 0 rfl rfl 2 (by decide) (hts (.fieldLink RX7 7 "LearnedReasonsModel" "alive" "[Z") (by decide +kernel)) (fun _ h9 => h9) rfl dX7_drop_13 ?_
      refine lv_iload_n hx hb dX7_drop_16 rfl (lv_at hl 1 rfl) ?_
      obtain ⟨g_8, h⟩ := gd_some h
      refine va_zald hx hb hK hP 1 2 rfl rfl g_8 dX7_drop_17 ?_
      refine lv_if_ne (tgt := 23) hx hb dX7_drop_18 (by decide) (fun c_9 => ?_) (fun c_9 => ?_)
      · have h := if_f c_9 h
        refine lv_aload_n hx hb dX7_drop_23 rfl (lv_at hl 0 rfl) ?_
        refine va_get (D := D) (ci := 7) (v := .ref (q 1)) (C := RX7) (T := TX7) (N := 38) hx hb hts in_X7_drop_X7 hown hK hP 0 rfl rfl 2 (by decide) (hts (.fieldLink RX7 7 "LearnedReasonsModel" "alive" "[Z") (by decide +kernel)) (fun _ h9 => h9) rfl dX7_drop_24 ?_
        refine lv_iload_n hx hb dX7_drop_27 rfl (lv_at hl 1 rfl) ?_
        refine lv_iconst (v := 0) hx hb dX7_drop_28 (by decide) ?_
        obtain ⟨g_10, h⟩ := gd_some h
        refine va_zast hx hb hK hP (MUW_D hq) hS 1 2 rfl rfl g_10 dX7_drop_29 (fun H locs hP _ hS => ?_)
        have hP : va_P D vwCl (MUW cI cJ cZ q I J (fu a 0 (upd (a 0) v1.toNatClampNeg 0)) b) H := hP
        refine lv_aload_n hx hb dX7_drop_30 rfl (lv_at hl 0 rfl) ?_
        obtain ⟨x_11, hx_11, h⟩ := ob_some h
        refine va_callv (va_runV (As := []) (rest := []) ⟨hx, hb, hml, hown, hts⟩ (c_X7_change l D cI cJ cZ q hq F I J (fu a 0 (upd (a 0) v1.toNatClampNeg 0)) b x_11 hx_11) (cwV 0 hts gX7_drop_X7_change rfl rfl rfl (by decide +kernel) (by rw [hR]; exact ⟨Nat.le_of_ble_eq_true rfl, Nat.le_of_ble_eq_true rfl⟩)) ⟨MUPc_blind, va_recv hK hP (ci := 7) (q0 := 0) rfl rfl, fun U hU hW => ⟨rfl, by rw [hU]; exact hP, va_K.moved hW.alike hK, trivial⟩⟩ rfl rfl hl.1 rfl (lv_room (Nat.le_of_ble_eq_true rfl)) dX7_drop_31 ⟨Nat.zero_le _, Nat.zero_le _⟩) hS (fun _ _ h => h) (fun _ h => h) (fun u t H1 locs ht hvm hw hB hz1 hk1 hS => ?_)
        obtain rfl := hw.symm
        rw [ht] at hB
        have hP : va_P D vwCl (MUW cI cJ cZ q (fu (fu (fu I 7 x_11.1) 8 x_11.2.1) 9 x_11.2.2) J (fu a 0 (upd (a 0) v1.toNatClampNeg 0)) b) H1 := hB
        clear hB hz1 hk1 ht hvm
        generalize H1 = H at hP hS ⊢
        refine lv_iconst (v := 0) hx hb dX7_drop_34 (by decide) ?_
        refine lv_istore_n (lv' := [(2, .int 0), (0, .ref (q 0)), (1, .int v1)]) hx hb dX7_drop_35 rfl hl (by decide) rfl (fun ls hl => ?_)
        refine lv_iconst (v := 0) hx hb dX7_drop_36 (by decide) ?_
        refine lv_istore_n (lv' := [(3, .int 0), (2, .int 0), (0, .ref (q 0)), (1, .int v1)]) hx hb dX7_drop_37 rfl hl (by decide) rfl (fun ls hl => ?_)
        exact C38 F 0 0 x_11.1 x_11.2.1 x_11.2.2 (upd (a 0) v1.toNatClampNeg 0) h _ _ hP hS ls (lv_sub hl [2, 1, 0] rfl)
      · have h := if_t c_9 h
        refine lv_iconst (v := (-1)) hx hb dX7_drop_21 (by decide) ?_
        have hx0 := Option.some.inj h
        rw [hQ]
        exact W.iret (v := (-1)) hx hb hr (fun t ht hW => ⟨⟨(-1), ((I 7), (I 8), (I 9), (a 0)), rfl, ⟨congrArg (fun z => z.1) hx0, congrArg (fun z => z.2) hx0⟩, by show va_P _ _ _ t.heap; rw [ht]; exact hP⟩, hS.F ht⟩) hS.2.2 dX7_drop_22
theorem in_X7_cost_X7 : ∀ w ∈ wsX70, w ∈ wsX7_cost := by decide +kernel
set_option maxHeartbeats 4000000 in
set_option maxRecDepth 100000 in
theorem c_X7_cost (l : Launch) (D : va_G) (cI cJ cZ : ClassId) (q : Nat → Nat) (hq : MUQ q) (F : Nat) (I : Nat → Int32) (J : Nat → Int64) (a : Nat → Nat → Int32) (b : Nat → Nat → Int64) (v1 : Int32) (v2 : Int32) (x0 : Int32 × Int32 × (Nat → Int32)) (h : f_X7_cost F I J a b v1 v2 = some x0) : Met l yX7_cost wsX7_cost ({ frames := 1, cells := 0, slots := 0, locals := 21 }) (MUPc D cI cJ cZ q I J a b [.ref (q 0), .int v1, .int v2]) (va_Qi (fun (r : Int32) (u : Int32 × (Nat → Int32)) => r = x0.1 ∧ u = x0.2) (fun (u : Int32 × (Nat → Int32)) t => va_P D vwCl (MUW cI cJ cZ q (fu I 8 u.1) J (fu a 6 u.2) b) t.heap) (MUA q)) 0 0 (MUA q) := by
  refine mt_of (cc := cX7_cost) (maxL := 3) (ret := (some .int)) (by decide) rfl ?_
  intro p e s m args below meth c s₁ B0 hml hv R Q hR hQ
  obtain ⟨hargs, hP, hK, hN⟩ := hv
  have hx := B0.exec
  have hb := B0.bytes
  have hr := B0.returns
  have hts := atoms_spec (ws := wsX7_cost) B0.pre
  have hown : s.vm.findClass RX7 = some m.cls := findClass_of_methodNamed B0.named
  have hlocks := B0.notSynchronized
  have hS : va_S (MUA q) s.heap s.heap [] := va_S.rf
  have hl := lv_entry ([.ref (q 0), .int v1, .int v2]) (n := 3) (Nat.le_of_ble_eq_true rfl)
  rw [hargs, lg_entry_eq]
  rw [← hargs]
  generalize (lg_sl ([.ref (q 0), .int v1, .int v2]) ++ List.replicate (3 - (lg_sl ([.ref (q 0), .int v1, .int v2])).length) Slot.unset).toArray = ls at hl ⊢
  have hl : lv_has ls 3 [(0, .ref (q 0)), (1, .int v1), (2, .int v2)] := hl
  unfold f_X7_cost at h
  refine lv_aload_n hx hb dX7_cost_0 rfl (lv_at hl 0 rfl) ?_
  refine lv_iload_n hx hb dX7_cost_1 rfl (lv_at hl 1 rfl) ?_
  obtain ⟨x_1, hx_1, h⟩ := ob_some h
  refine va_calli (va_runV (As := [.int v1]) (rest := []) ⟨hx, hb, hml, hown, hts⟩ (c_X7_isName l D cI cJ cZ q hq F I J a b v1 x_1 hx_1) (cwV 1 hts gX7_cost_X7_isName rfl rfl rfl (by decide +kernel) (by rw [hR]; exact ⟨Nat.le_of_ble_eq_true rfl, Nat.le_of_ble_eq_true rfl⟩)) ⟨MUPc_blind, va_recv hK hP (ci := 7) (q0 := 0) rfl rfl, fun U hU hW => ⟨rfl, by rw [hU]; exact hP, va_K.moved hW.alike hK, trivial⟩⟩ rfl rfl hl.1 rfl (lv_room (Nat.le_of_ble_eq_true rfl)) dX7_cost_2 ⟨Nat.zero_le _, Nat.zero_le _⟩) hS (fun _ _ h => h) (fun _ h => h) (fun r u t H1 locs ht hvm hw hB hz1 hk1 hS => ?_)
  obtain rfl := hw.symm
  rw [ht] at hB
  have hP : va_P D vwCl (MUW cI cJ cZ q I J a b) H1 := hB
  clear hB hz1 hk1 ht hvm
  generalize H1 = H at hP hS ⊢
  refine lv_if_ne (tgt := 10) hx hb dX7_cost_5 (by decide) (fun c_2 => ?_) (fun c_2 => ?_)
  · have h := if_f c_2 h
    refine lv_iload_n hx hb dX7_cost_10 rfl (lv_at hl 2 rfl) ?_
    refine lv_bipush (v := (-50)) hx hb dX7_cost_11 (by decide) ?_
    refine lv_icmp_lt (tgt := 22) hx hb dX7_cost_13 (by decide) (fun c_3 => ?_) (fun c_3 => ?_)
    · have h := if_t c_3 h
      refine lv_bipush (v := (-2)) hx hb dX7_cost_22 (by decide) ?_
      have hx0 := Option.some.inj h
      rw [hQ]
      exact W.iret (v := (-2)) hx hb hr (fun t ht hW => ⟨⟨(-2), ((I 8), (a 6)), rfl, ⟨congrArg (fun z => z.1) hx0, congrArg (fun z => z.2) hx0⟩, by show va_P _ _ _ t.heap; rw [ht]; exact hP⟩, hS.F ht⟩) hS.2.2 dX7_cost_24
    · have h := if_f c_3 h
      refine lv_iload_n hx hb dX7_cost_16 rfl (lv_at hl 2 rfl) ?_
      refine lv_bipush (v := 50) hx hb dX7_cost_17 (by decide) ?_
      refine lv_icmp_le (tgt := 25) hx hb dX7_cost_19 (by decide) (fun c_4 => ?_) (fun c_4 => ?_)
      · have h := if_t c_4 h
        refine lv_aload_n hx hb dX7_cost_25 rfl (lv_at hl 0 rfl) ?_
        refine va_get (D := D) (ci := 7) (v := .ref (q 7)) (C := RX7) (T := TX7) (N := 38) hx hb hts in_X7_cost_X7 hown hK hP 0 rfl rfl 8 (by decide) (hts (.fieldLink RX7 29 "LearnedReasonsModel" "costs" "[I") (by decide +kernel)) (fun _ h9 => h9) rfl dX7_cost_26 ?_
        refine lv_iload_n hx hb dX7_cost_29 rfl (lv_at hl 1 rfl) ?_
        refine lv_iload_n hx hb dX7_cost_30 rfl (lv_at hl 2 rfl) ?_
        obtain ⟨g_5, h⟩ := gd_some h
        refine va_iast hx hb hK hP (MUW_D hq) hS 7 0 rfl rfl g_5 dX7_cost_31 (fun H locs hP _ hS => ?_)
        have hP : va_P D vwCl (MUW cI cJ cZ q I J (fu a 6 (upd (a 6) v1.toNatClampNeg v2)) b) H := hP
        refine lv_aload_n hx hb dX7_cost_32 rfl (lv_at hl 0 rfl) ?_
        refine lv_iconst (v := 0) hx hb dX7_cost_33 (by decide) ?_
        refine va_put (D := D) (ci := 7) (v := .int 0) (ty := .boolean) (C := RX7) (T := TX7) (N := 38) hx hb hts in_X7_cost_X7 tyX7 tyX7_ok nmX7 hown hK hP (MUW_D hq) hS 0 rfl rfl 17 (by decide) (hts (.fieldLink RX7 115 "LearnedReasonsModel" "known" "Z") (by decide +kernel)) (fun _ h9 => h9) rfl (by decide +kernel) rfl rfl (Nat.le_of_ble_eq_true rfl) dX7_cost_34 (fun H locs hP _ hS => ?_)
        have hP : va_P D vwCl (MUW cI cJ cZ q (fu I 8 0) J (fu a 6 (upd (a 6) v1.toNatClampNeg v2)) b) H := hP
        refine lv_iconst (v := 1) hx hb dX7_cost_37 (by decide) ?_
        have hx0 := Option.some.inj h
        rw [hQ]
        exact W.iret (v := 1) hx hb hr (fun t ht hW => ⟨⟨1, (0, (upd (a 6) v1.toNatClampNeg v2)), rfl, ⟨congrArg (fun z => z.1) hx0, congrArg (fun z => z.2) hx0⟩, by show va_P _ _ _ t.heap; rw [ht]; exact hP⟩, hS.F ht⟩) hS.2.2 dX7_cost_38
      · have h := if_f c_4 h
        refine lv_bipush (v := (-2)) hx hb dX7_cost_22 (by decide) ?_
        have hx0 := Option.some.inj h
        rw [hQ]
        exact W.iret (v := (-2)) hx hb hr (fun t ht hW => ⟨⟨(-2), ((I 8), (a 6)), rfl, ⟨congrArg (fun z => z.1) hx0, congrArg (fun z => z.2) hx0⟩, by show va_P _ _ _ t.heap; rw [ht]; exact hP⟩, hS.F ht⟩) hS.2.2 dX7_cost_24
  · have h := if_t c_2 h
    refine lv_iconst (v := (-1)) hx hb dX7_cost_8 (by decide) ?_
    have hx0 := Option.some.inj h
    rw [hQ]
    exact W.iret (v := (-1)) hx hb hr (fun t ht hW => ⟨⟨(-1), ((I 8), (a 6)), rfl, ⟨congrArg (fun z => z.1) hx0, congrArg (fun z => z.2) hx0⟩, by show va_P _ _ _ t.heap; rw [ht]; exact hP⟩, hS.F ht⟩) hS.2.2 dX7_cost_9
theorem in_X7_clear_X7 : ∀ w ∈ wsX70, w ∈ wsX7_clear := by decide +kernel
set_option maxHeartbeats 4000000 in
set_option maxRecDepth 100000 in
theorem c_X7_clear (l : Launch) (D : va_G) (cI cJ cZ : ClassId) (q : Nat → Nat) (hq : MUQ q) (F : Nat) (I : Nat → Int32) (J : Nat → Int64) (a : Nat → Nat → Int32) (b : Nat → Nat → Int64) (x0 : Int32 × Int32 × Int32 × Int32 × Int32 × Int32 × Int32 × Int32 × Int32 × Int32 × Int32) (h : f_X7_clear F I J a b = some x0) : Met l yX7_clear wsX7_clear ({ frames := 1, cells := 0, slots := 0, locals := 20 }) (MUPc D cI cJ cZ q I J a b [.ref (q 0)]) (va_Qi (fun (r : Int32) (u : Int32 × Int32 × Int32 × Int32 × Int32 × Int32 × Int32 × Int32 × Int32 × Int32) => r = x0.1 ∧ u = x0.2) (fun (u : Int32 × Int32 × Int32 × Int32 × Int32 × Int32 × Int32 × Int32 × Int32 × Int32) t => va_P D vwCl (MUW cI cJ cZ q (fu (fu (fu (fu (fu (fu (fu (fu (fu (fu I 0 u.1) 1 u.2.1) 2 u.2.2.1) 3 u.2.2.2.1) 4 u.2.2.2.2.1) 5 u.2.2.2.2.2.1) 6 u.2.2.2.2.2.2.1) 7 u.2.2.2.2.2.2.2.1) 8 u.2.2.2.2.2.2.2.2.1) 9 u.2.2.2.2.2.2.2.2.2) J a b) t.heap) (MUA q)) 0 0 (MUA q) := by
  refine mt_of (cc := cX7_clear) (maxL := 2) (ret := (some .int)) (by decide) rfl ?_
  intro p e s m args below meth c s₁ B0 hml hv R Q hR hQ
  obtain ⟨hargs, hP, hK, hN⟩ := hv
  have hx := B0.exec
  have hb := B0.bytes
  have hr := B0.returns
  have hts := atoms_spec (ws := wsX7_clear) B0.pre
  have hown : s.vm.findClass RX7 = some m.cls := findClass_of_methodNamed B0.named
  have hlocks := B0.notSynchronized
  have hS : va_S (MUA q) s.heap s.heap [] := va_S.rf
  have hl := lv_entry ([.ref (q 0)]) (n := 2) (Nat.le_of_ble_eq_true rfl)
  rw [hargs, lg_entry_eq]
  rw [← hargs]
  generalize (lg_sl ([.ref (q 0)]) ++ List.replicate (2 - (lg_sl ([.ref (q 0)])).length) Slot.unset).toArray = ls at hl ⊢
  have hl : lv_has ls 2 [(0, .ref (q 0))] := hl
  unfold f_X7_clear at h
  refine lv_aload_n hx hb dX7_clear_0 rfl (lv_at hl 0 rfl) ?_
  refine va_get (D := D) (ci := 7) (v := .int (I 0)) (C := RX7) (T := TX7) (N := 38) hx hb hts in_X7_clear_X7 hown hK hP 0 rfl rfl 0 (by decide) (hts (.fieldLink RX7 63 "LearnedReasonsModel" "names" "I") (by decide +kernel)) (fun _ h9 => h9) rfl dX7_clear_1 ?_
  refine lv_istore_n (lv' := [(1, .int (I 0)), (0, .ref (q 0))]) hx hb dX7_clear_4 rfl hl (by decide) rfl (fun ls hl => ?_)
  refine lv_aload_n hx hb dX7_clear_5 rfl (lv_at hl 1 rfl) ?_
  refine lv_iconst (v := 0) hx hb dX7_clear_6 (by decide) ?_
  refine va_put (D := D) (ci := 7) (v := .int 0) (ty := .int) (C := RX7) (T := TX7) (N := 38) hx hb hts in_X7_clear_X7 tyX7 tyX7_ok nmX7 hown hK hP (MUW_D hq) hS 0 rfl rfl 0 (by decide) (hts (.fieldLink RX7 63 "LearnedReasonsModel" "names" "I") (by decide +kernel)) (fun _ h9 => h9) rfl (by decide +kernel) rfl rfl (Nat.le_of_ble_eq_true rfl) dX7_clear_7 (fun H locs hP _ hS => ?_)
  have hP : va_P D vwCl (MUW cI cJ cZ q (fu I 0 0) J a b) H := hP
  refine lv_aload_n hx hb dX7_clear_10 rfl (lv_at hl 1 rfl) ?_
  refine lv_iconst (v := 0) hx hb dX7_clear_11 (by decide) ?_
  refine va_put (D := D) (ci := 7) (v := .int 0) (ty := .int) (C := RX7) (T := TX7) (N := 38) hx hb hts in_X7_clear_X7 tyX7 tyX7_ok nmX7 hown hK hP (MUW_D hq) hS 0 rfl rfl 1 (by decide) (hts (.fieldLink RX7 66 "LearnedReasonsModel" "things" "I") (by decide +kernel)) (fun _ h9 => h9) rfl (by decide +kernel) rfl rfl (Nat.le_of_ble_eq_true rfl) dX7_clear_12 (fun H locs hP _ hS => ?_)
  have hP : va_P D vwCl (MUW cI cJ cZ q (fu (fu I 0 0) 1 0) J a b) H := hP
  refine lv_aload_n hx hb dX7_clear_15 rfl (lv_at hl 1 rfl) ?_
  obtain ⟨x_1, hx_1, h⟩ := ob_some h
  refine va_callv (va_runV (As := []) (rest := []) ⟨hx, hb, hml, hown, hts⟩ (c_X7_emptyHand l D cI cJ cZ q hq F (fu (fu I 0 0) 1 0) J a b x_1 hx_1) (cwV 0 hts gX7_clear_X7_emptyHand rfl rfl rfl (by decide +kernel) (by rw [hR]; exact ⟨Nat.le_of_ble_eq_true rfl, Nat.le_of_ble_eq_true rfl⟩)) ⟨MUPc_blind, va_recv hK hP (ci := 7) (q0 := 0) rfl rfl, fun U hU hW => ⟨rfl, by rw [hU]; exact hP, va_K.moved hW.alike hK, trivial⟩⟩ rfl rfl hl.1 rfl (lv_room (Nat.le_of_ble_eq_true rfl)) dX7_clear_16 ⟨Nat.zero_le _, Nat.zero_le _⟩) hS (fun _ _ h => h) (fun _ h => h) (fun u t H1 locs ht hvm hw hB hz1 hk1 hS => ?_)
  obtain rfl := hw.symm
  rw [ht] at hB
  have hP : va_P D vwCl (MUW cI cJ cZ q (fu (fu (fu (fu (fu I 0 0) 1 0) 2 x_1.1) 3 x_1.2.1) 4 x_1.2.2) J a b) H1 := hB
  clear hB hz1 hk1 ht hvm
  generalize H1 = H at hP hS ⊢
  refine lv_aload_n hx hb dX7_clear_19 rfl (lv_at hl 1 rfl) ?_
  refine lv_iconst (v := 0) hx hb dX7_clear_20 (by decide) ?_
  refine va_put (D := D) (ci := 7) (v := .int 0) (ty := .int) (C := RX7) (T := TX7) (N := 38) hx hb hts in_X7_clear_X7 tyX7 tyX7_ok nmX7 hown hK hP (MUW_D hq) hS 0 rfl rfl 12 (by decide) (hts (.fieldLink RX7 169 "LearnedReasonsModel" "assumedYes" "I") (by decide +kernel)) (fun _ h9 => h9) rfl (by decide +kernel) rfl rfl (Nat.le_of_ble_eq_true rfl) dX7_clear_21 (fun H locs hP _ hS => ?_)
  have hP : va_P D vwCl (MUW cI cJ cZ q (fu (fu (fu (fu (fu (fu I 0 0) 1 0) 2 x_1.1) 3 x_1.2.1) 4 x_1.2.2) 5 0) J a b) H := hP
  refine lv_aload_n hx hb dX7_clear_24 rfl (lv_at hl 1 rfl) ?_
  refine lv_iconst (v := 0) hx hb dX7_clear_25 (by decide) ?_
  refine va_put (D := D) (ci := 7) (v := .int 0) (ty := .int) (C := RX7) (T := TX7) (N := 38) hx hb hts in_X7_clear_X7 tyX7 tyX7_ok nmX7 hown hK hP (MUW_D hq) hS 0 rfl rfl 13 (by decide) (hts (.fieldLink RX7 172 "LearnedReasonsModel" "assumedNo" "I") (by decide +kernel)) (fun _ h9 => h9) rfl (by decide +kernel) rfl rfl (Nat.le_of_ble_eq_true rfl) dX7_clear_26 (fun H locs hP _ hS => ?_)
  have hP : va_P D vwCl (MUW cI cJ cZ q (fu (fu (fu (fu (fu (fu (fu I 0 0) 1 0) 2 x_1.1) 3 x_1.2.1) 4 x_1.2.2) 5 0) 6 0) J a b) H := hP
  refine lv_aload_n hx hb dX7_clear_29 rfl (lv_at hl 1 rfl) ?_
  obtain ⟨x_2, hx_2, h⟩ := ob_some h
  refine va_callv (va_runV (As := []) (rest := []) ⟨hx, hb, hml, hown, hts⟩ (c_X7_change l D cI cJ cZ q hq F (fu (fu (fu (fu (fu (fu (fu I 0 0) 1 0) 2 x_1.1) 3 x_1.2.1) 4 x_1.2.2) 5 0) 6 0) J a b x_2 hx_2) (cwV 0 hts gX7_clear_X7_change rfl rfl rfl (by decide +kernel) (by rw [hR]; exact ⟨Nat.le_of_ble_eq_true rfl, Nat.le_of_ble_eq_true rfl⟩)) ⟨MUPc_blind, va_recv hK hP (ci := 7) (q0 := 0) rfl rfl, fun U hU hW => ⟨rfl, by rw [hU]; exact hP, va_K.moved hW.alike hK, trivial⟩⟩ rfl rfl hl.1 rfl (lv_room (Nat.le_of_ble_eq_true rfl)) dX7_clear_30 ⟨Nat.zero_le _, Nat.zero_le _⟩) hS (fun _ _ h => h) (fun _ h => h) (fun u t H1 locs ht hvm hw hB hz1 hk1 hS => ?_)
  obtain rfl := hw.symm
  rw [ht] at hB
  have hP : va_P D vwCl (MUW cI cJ cZ q (fu (fu (fu (fu (fu (fu (fu (fu (fu (fu I 0 0) 1 0) 2 x_1.1) 3 x_1.2.1) 4 x_1.2.2) 5 0) 6 0) 7 x_2.1) 8 x_2.2.1) 9 x_2.2.2) J a b) H1 := hB
  clear hB hz1 hk1 ht hvm
  generalize H1 = H at hP hS ⊢
  refine lv_iload_n hx hb dX7_clear_33 rfl (lv_at hl 0 rfl) ?_
  have hx0 := Option.some.inj h
  rw [hQ]
  exact W.iret (v := I 0) hx hb hr (fun t ht hW => ⟨⟨(I 0), (0, 0, x_1.1, x_1.2.1, x_1.2.2, 0, 0, x_2.1, x_2.2.1, x_2.2.2), rfl, ⟨congrArg (fun z => z.1) hx0, congrArg (fun z => z.2) hx0⟩, by show va_P _ _ _ t.heap; rw [ht]; exact hP⟩, hS.F ht⟩) hS.2.2 dX7_clear_34
set_option maxHeartbeats 4000000 in
set_option maxRecDepth 100000 in
theorem c_X7_bits (l : Launch) (F : Nat) (v0 : Int32) (x0 : Int32) (h : f_X7_bits F v0 = some x0) : Met l yX7_bits wsX7_bits ({ frames := 0, cells := 0, slots := 0, locals := 0 }) (va_Pc [.int v0] (fun _ => True)) (va_Qi (fun (r : Int32) (u : Unit) => r = x0) (fun _ _ => True) (fun _ => False)) 0 0 (fun _ => False) := by
  refine mt_of (cc := cX7_bits) (maxL := 3) (ret := (some .int)) (by decide) rfl ?_
  intro p e s m args below meth c s₁ B0 hml hv R Q hR hQ
  obtain ⟨hargs, -⟩ := hv
  have hx := B0.exec
  have hb := B0.bytes
  have hr := B0.returns
  have hts := atoms_spec (ws := wsX7_bits) B0.pre
  have hown : s.vm.findClass RX7 = some m.cls := findClass_of_methodNamed B0.named
  have hlocks := B0.notSynchronized
  have hS : va_S (fun _ => False) s.heap s.heap [] := va_S.rf
  have hl := lv_entry ([.int v0]) (n := 3) (Nat.le_of_ble_eq_true rfl)
  rw [hargs, lg_entry_eq]
  rw [← hargs]
  generalize (lg_sl ([.int v0]) ++ List.replicate (3 - (lg_sl ([.int v0])).length) Slot.unset).toArray = ls at hl ⊢
  have hl : lv_has ls 3 [(0, .int v0)] := hl
  unfold f_X7_bits at h
  have C4 : ∀ (n4 : Nat) (v0 : Int32) (v1 : Int32) (v2 : Int32), k_X7_bits_4 F n4 v0 v1 v2 = some x0 → ∀ (H : Heap) (locs : List Loc), va_S (fun _ => False) s.heap H locs → ∀ ls : Array Slot, lv_has ls 3 [(0, .int v0), (1, .int v1), (2, .int v2)] → W p l e R s m args below meth c H locs 0 0 Q (F0 m 4 ls []) := by
    intro n4
    induction n4 with
    | zero => intro v0 v1 v2 h; rw [k_X7_bits_4] at h; cases h
    | succ n4 ih4 =>
      intro v0 v1 v2 h H locs hS ls hl
      rw [k_X7_bits_4] at h
      refine lv_iload_n hx hb dX7_bits_4 rfl (lv_at hl 2 rfl) ?_
      refine lv_bipush (v := 14) hx hb dX7_bits_5 (by decide) ?_
      refine lv_icmp_ge (tgt := 24) hx hb dX7_bits_7 (by decide) (fun c_1 => ?_) (fun c_1 => ?_)
      · have h := if_t c_1 h
        refine lv_iload_n hx hb dX7_bits_24 rfl (lv_at hl 1 rfl) ?_
        have hx0 := Option.some.inj h
        rw [hQ]
        exact W.iret (v := v1) hx hb hr (fun t ht hW => ⟨⟨v1, (), rfl, hx0, trivial⟩, hS.F ht⟩) hS.2.2 dX7_bits_25
      · have h := if_f c_1 h
        refine lv_iload_n hx hb dX7_bits_10 rfl (lv_at hl 1 rfl) ?_
        refine lv_iload_n hx hb dX7_bits_11 rfl (lv_at hl 0 rfl) ?_
        refine lv_iload_n hx hb dX7_bits_12 rfl (lv_at hl 2 rfl) ?_
        refine lv_ishr hx hb dX7_bits_13 ?_
        refine lv_iconst (v := 1) hx hb dX7_bits_14 (by decide) ?_
        refine lv_iand hx hb dX7_bits_15 ?_
        refine lv_iadd hx hb dX7_bits_16 ?_
        refine lv_topi (fun v_2 ev_2 => ?_)
        have h := nmI_at ev_2 h
        refine lv_istore_n (lv' := [(1, .int v_2), (0, .int v0), (2, .int v2)]) hx hb dX7_bits_17 rfl hl (by decide) rfl (fun ls hl => ?_)
        refine lv_iinc (v := v2 + 1) (lv' := [(2, .int (v2 + 1)), (1, .int v_2), (0, .int v0)]) hx hb dX7_bits_18 hl (k := 2) rfl rfl (by decide) rfl (fun ls hl => ?_)
        refine lv_goto (tgt := 4) hx hb dX7_bits_21 (by decide) ?_
        exact ih4 v0 v_2 (v2 + 1) h _ _ hS ls (lv_sub hl [2, 1, 0] rfl)
  refine lv_iconst (v := 0) hx hb dX7_bits_0 (by decide) ?_
  refine lv_istore_n (lv' := [(1, .int 0), (0, .int v0)]) hx hb dX7_bits_1 rfl hl (by decide) rfl (fun ls hl => ?_)
  refine lv_iconst (v := 0) hx hb dX7_bits_2 (by decide) ?_
  refine lv_istore_n (lv' := [(2, .int 0), (1, .int 0), (0, .int v0)]) hx hb dX7_bits_3 rfl hl (by decide) rfl (fun ls hl => ?_)
  exact C4 F v0 0 0 h _ _ hS ls (lv_sub hl [2, 1, 0] rfl)
theorem in_X7_assume_X7 : ∀ w ∈ wsX70, w ∈ wsX7_assume := by decide +kernel
set_option maxHeartbeats 4000000 in
set_option maxRecDepth 100000 in
theorem c_X7_assume (l : Launch) (D : va_G) (cI cJ cZ : ClassId) (q : Nat → Nat) (hq : MUQ q) (F : Nat) (I : Nat → Int32) (J : Nat → Int64) (a : Nat → Nat → Int32) (b : Nat → Nat → Int64) (v1 : Int32) (x0 : Int32 × Int32 × Int32) (h : f_X7_assume F I J a b v1 = some x0) : Met l yX7_assume wsX7_assume ({ frames := 1, cells := 0, slots := 0, locals := 22 }) (MUPc D cI cJ cZ q I J a b [.ref (q 0), .int v1]) (va_Qi (fun (r : Int32) (u : Int32 × Int32) => r = x0.1 ∧ u = x0.2) (fun (u : Int32 × Int32) t => va_P D vwCl (MUW cI cJ cZ q (fu (fu I 5 u.1) 6 u.2) J a b) t.heap) (MUA q)) 0 0 (MUA q) := by
  refine mt_of (cc := cX7_assume) (maxL := 2) (ret := (some .int)) (by decide) rfl ?_
  intro p e s m args below meth c s₁ B0 hml hv R Q hR hQ
  obtain ⟨hargs, hP, hK, hN⟩ := hv
  have hx := B0.exec
  have hb := B0.bytes
  have hr := B0.returns
  have hts := atoms_spec (ws := wsX7_assume) B0.pre
  have hown : s.vm.findClass RX7 = some m.cls := findClass_of_methodNamed B0.named
  have hlocks := B0.notSynchronized
  have hS : va_S (MUA q) s.heap s.heap [] := va_S.rf
  have hl := lv_entry ([.ref (q 0), .int v1]) (n := 2) (Nat.le_of_ble_eq_true rfl)
  rw [hargs, lg_entry_eq]
  rw [← hargs]
  generalize (lg_sl ([.ref (q 0), .int v1]) ++ List.replicate (2 - (lg_sl ([.ref (q 0), .int v1])).length) Slot.unset).toArray = ls at hl ⊢
  have hl : lv_has ls 2 [(0, .ref (q 0)), (1, .int v1)] := hl
  unfold f_X7_assume at h
  refine lv_aload_n hx hb dX7_assume_0 rfl (lv_at hl 0 rfl) ?_
  refine lv_iload_n hx hb dX7_assume_1 rfl (lv_at hl 1 rfl) ?_
  obtain ⟨x_1, hx_1, h⟩ := ob_some h
  refine va_calli (va_runV (As := [.int v1]) (rest := []) ⟨hx, hb, hml, hown, hts⟩ (c_X7_isLiteral l D cI cJ cZ q hq F I J a b v1 x_1 hx_1) (cwV 1 hts gX7_assume_X7_isLiteral rfl rfl rfl (by decide +kernel) (by rw [hR]; exact ⟨Nat.le_of_ble_eq_true rfl, Nat.le_of_ble_eq_true rfl⟩)) ⟨MUPc_blind, va_recv hK hP (ci := 7) (q0 := 0) rfl rfl, fun U hU hW => ⟨rfl, by rw [hU]; exact hP, va_K.moved hW.alike hK, trivial⟩⟩ rfl rfl hl.1 rfl (lv_room (Nat.le_of_ble_eq_true rfl)) dX7_assume_2 ⟨Nat.zero_le _, Nat.zero_le _⟩) hS (fun _ _ h => h) (fun _ h => h) (fun r u t H1 locs ht hvm hw hB hz1 hk1 hS => ?_)
  obtain rfl := hw.symm
  rw [ht] at hB
  have hP : va_P D vwCl (MUW cI cJ cZ q I J a b) H1 := hB
  clear hB hz1 hk1 ht hvm
  generalize H1 = H at hP hS ⊢
  refine lv_if_ne (tgt := 10) hx hb dX7_assume_5 (by decide) (fun c_2 => ?_) (fun c_2 => ?_)
  · have h := if_f c_2 h
    refine lv_iload_n hx hb dX7_assume_10 rfl (lv_at hl 1 rfl) ?_
    refine lv_iconst (v := 2) hx hb dX7_assume_11 (by decide) ?_
    refine lv_irem hx hb dX7_assume_12 (by decide) ?_
    refine lv_if_ne (tgt := 33) hx hb dX7_assume_13 (by decide) (fun c_3 => ?_) (fun c_3 => ?_)
    · have h := if_f c_3 h
      refine lv_aload_n hx hb dX7_assume_33 rfl (lv_at hl 0 rfl) ?_
      refine lv_dup hx hb dX7_assume_34 rfl ?_
      refine va_get (D := D) (ci := 7) (v := .int (I 6)) (C := RX7) (T := TX7) (N := 38) hx hb hts in_X7_assume_X7 hown hK hP 0 rfl rfl 13 (by decide) (hts (.fieldLink RX7 172 "LearnedReasonsModel" "assumedNo" "I") (by decide +kernel)) (fun _ h9 => h9) rfl dX7_assume_35 ?_
      refine lv_iconst (v := 1) hx hb dX7_assume_38 (by decide) ?_
      refine lv_iload_n hx hb dX7_assume_39 rfl (lv_at hl 1 rfl) ?_
      refine lv_iconst (v := 2) hx hb dX7_assume_40 (by decide) ?_
      refine lv_idiv hx hb dX7_assume_41 (by decide) ?_
      refine lv_ishl hx hb dX7_assume_42 ?_
      refine lv_ior hx hb dX7_assume_43 ?_
      refine lv_topi (fun v_4 ev_4 => ?_)
      have h := nmI_at ev_4 h
      refine va_put (D := D) (ci := 7) (v := .int v_4) (ty := .int) (C := RX7) (T := TX7) (N := 38) hx hb hts in_X7_assume_X7 tyX7 tyX7_ok nmX7 hown hK hP (MUW_D hq) hS 0 rfl rfl 13 (by decide) (hts (.fieldLink RX7 172 "LearnedReasonsModel" "assumedNo" "I") (by decide +kernel)) (fun _ h9 => h9) rfl (by decide +kernel) rfl rfl (Nat.le_of_ble_eq_true rfl) dX7_assume_44 (fun H locs hP _ hS => ?_)
      have hP : va_P D vwCl (MUW cI cJ cZ q (fu I 6 v_4) J a b) H := hP
      refine lv_aload_n hx hb dX7_assume_47 rfl (lv_at hl 0 rfl) ?_
      refine va_get (D := D) (ci := 7) (v := .int (I 5)) (C := RX7) (T := TX7) (N := 38) hx hb hts in_X7_assume_X7 hown hK hP 0 rfl rfl 12 (by decide) (hts (.fieldLink RX7 169 "LearnedReasonsModel" "assumedYes" "I") (by decide +kernel)) (fun _ h9 => h9) rfl dX7_assume_48 ?_
      obtain ⟨x_5, hx_5, h⟩ := ob_some h
      refine va_calli (va_runS (As := [.int (I 5)]) (rest := []) ⟨hx, hb, hml, hown, hts⟩ (c_X7_bits l F (I 5) x_5 hx_5) (va_cwS 1 hts gX7_assume_X7_bits rfl rfl rfl (by decide +kernel) (by rw [hR]; exact ⟨Nat.le_of_ble_eq_true rfl, Nat.le_of_ble_eq_true rfl⟩)) ⟨fun _ _ _ _ h => h, fun U hU hW => ⟨rfl, trivial⟩⟩ rfl rfl hl.1 rfl (lv_room (Nat.le_of_ble_eq_true rfl)) dX7_assume_51 ⟨Nat.zero_le _, Nat.zero_le _⟩) hS (fun _ _ h => h.elim) (fun _ h => h.elim) (fun r u t H1 locs ht hvm hw hB hz1 hk1 hS => ?_)
      obtain rfl := hw.symm
      have hP := hP.kept (fun k x hx => hk1 x.1 (hP k x hx).lt (fun h => h))
      clear hB hz1 hk1 ht hvm
      generalize H1 = H at hP hS ⊢
      refine lv_aload_n hx hb dX7_assume_54 rfl (lv_at hl 0 rfl) ?_
      refine va_get (D := D) (ci := 7) (v := .int v_4) (C := RX7) (T := TX7) (N := 38) hx hb hts in_X7_assume_X7 hown hK hP 0 rfl rfl 13 (by decide) (hts (.fieldLink RX7 172 "LearnedReasonsModel" "assumedNo" "I") (by decide +kernel)) (fun _ h9 => h9) rfl dX7_assume_55 ?_
      obtain ⟨x_6, hx_6, h⟩ := ob_some h
      refine va_calli (va_runS (As := [.int v_4]) (rest := [.int x_5]) ⟨hx, hb, hml, hown, hts⟩ (c_X7_bits l F v_4 x_6 hx_6) (va_cwS 1 hts gX7_assume_X7_bits rfl rfl rfl (by decide +kernel) (by rw [hR]; exact ⟨Nat.le_of_ble_eq_true rfl, Nat.le_of_ble_eq_true rfl⟩)) ⟨fun _ _ _ _ h => h, fun U hU hW => ⟨rfl, trivial⟩⟩ rfl rfl hl.1 rfl (lv_room (Nat.le_of_ble_eq_true rfl)) dX7_assume_58 ⟨Nat.zero_le _, Nat.zero_le _⟩) hS (fun _ _ h => h.elim) (fun _ h => h.elim) (fun r u t H1 locs ht hvm hw hB hz1 hk1 hS => ?_)
      obtain rfl := hw.symm
      have hP := hP.kept (fun k x hx => hk1 x.1 (hP k x hx).lt (fun h => h))
      clear hB hz1 hk1 ht hvm
      generalize H1 = H at hP hS ⊢
      refine lv_iadd hx hb dX7_assume_61 ?_
      have hx0 := Option.some.inj h
      rw [hQ]
      exact W.iret (v := x_5 + x_6) hx hb hr (fun t ht hW => ⟨⟨(x_5 + x_6), ((I 5), v_4), rfl, ⟨congrArg (fun z => z.1) hx0, congrArg (fun z => z.2) hx0⟩, by show va_P _ _ _ t.heap; rw [ht]; exact hP⟩, hS.F ht⟩) hS.2.2 dX7_assume_62
    · have h := if_t c_3 h
      refine lv_aload_n hx hb dX7_assume_16 rfl (lv_at hl 0 rfl) ?_
      refine lv_dup hx hb dX7_assume_17 rfl ?_
      refine va_get (D := D) (ci := 7) (v := .int (I 5)) (C := RX7) (T := TX7) (N := 38) hx hb hts in_X7_assume_X7 hown hK hP 0 rfl rfl 12 (by decide) (hts (.fieldLink RX7 169 "LearnedReasonsModel" "assumedYes" "I") (by decide +kernel)) (fun _ h9 => h9) rfl dX7_assume_18 ?_
      refine lv_iconst (v := 1) hx hb dX7_assume_21 (by decide) ?_
      refine lv_iload_n hx hb dX7_assume_22 rfl (lv_at hl 1 rfl) ?_
      refine lv_iconst (v := 2) hx hb dX7_assume_23 (by decide) ?_
      refine lv_idiv hx hb dX7_assume_24 (by decide) ?_
      refine lv_ishl hx hb dX7_assume_25 ?_
      refine lv_ior hx hb dX7_assume_26 ?_
      refine lv_topi (fun v_7 ev_7 => ?_)
      have h := nmI_at ev_7 h
      refine va_put (D := D) (ci := 7) (v := .int v_7) (ty := .int) (C := RX7) (T := TX7) (N := 38) hx hb hts in_X7_assume_X7 tyX7 tyX7_ok nmX7 hown hK hP (MUW_D hq) hS 0 rfl rfl 12 (by decide) (hts (.fieldLink RX7 169 "LearnedReasonsModel" "assumedYes" "I") (by decide +kernel)) (fun _ h9 => h9) rfl (by decide +kernel) rfl rfl (Nat.le_of_ble_eq_true rfl) dX7_assume_27 (fun H locs hP _ hS => ?_)
      have hP : va_P D vwCl (MUW cI cJ cZ q (fu I 5 v_7) J a b) H := hP
      refine lv_goto (tgt := 47) hx hb dX7_assume_30 (by decide) ?_
      refine lv_aload_n hx hb dX7_assume_47 rfl (lv_at hl 0 rfl) ?_
      refine va_get (D := D) (ci := 7) (v := .int v_7) (C := RX7) (T := TX7) (N := 38) hx hb hts in_X7_assume_X7 hown hK hP 0 rfl rfl 12 (by decide) (hts (.fieldLink RX7 169 "LearnedReasonsModel" "assumedYes" "I") (by decide +kernel)) (fun _ h9 => h9) rfl dX7_assume_48 ?_
      obtain ⟨x_8, hx_8, h⟩ := ob_some h
      refine va_calli (va_runS (As := [.int v_7]) (rest := []) ⟨hx, hb, hml, hown, hts⟩ (c_X7_bits l F v_7 x_8 hx_8) (va_cwS 1 hts gX7_assume_X7_bits rfl rfl rfl (by decide +kernel) (by rw [hR]; exact ⟨Nat.le_of_ble_eq_true rfl, Nat.le_of_ble_eq_true rfl⟩)) ⟨fun _ _ _ _ h => h, fun U hU hW => ⟨rfl, trivial⟩⟩ rfl rfl hl.1 rfl (lv_room (Nat.le_of_ble_eq_true rfl)) dX7_assume_51 ⟨Nat.zero_le _, Nat.zero_le _⟩) hS (fun _ _ h => h.elim) (fun _ h => h.elim) (fun r u t H1 locs ht hvm hw hB hz1 hk1 hS => ?_)
      obtain rfl := hw.symm
      have hP := hP.kept (fun k x hx => hk1 x.1 (hP k x hx).lt (fun h => h))
      clear hB hz1 hk1 ht hvm
      generalize H1 = H at hP hS ⊢
      refine lv_aload_n hx hb dX7_assume_54 rfl (lv_at hl 0 rfl) ?_
      refine va_get (D := D) (ci := 7) (v := .int (I 6)) (C := RX7) (T := TX7) (N := 38) hx hb hts in_X7_assume_X7 hown hK hP 0 rfl rfl 13 (by decide) (hts (.fieldLink RX7 172 "LearnedReasonsModel" "assumedNo" "I") (by decide +kernel)) (fun _ h9 => h9) rfl dX7_assume_55 ?_
      obtain ⟨x_9, hx_9, h⟩ := ob_some h
      refine va_calli (va_runS (As := [.int (I 6)]) (rest := [.int x_8]) ⟨hx, hb, hml, hown, hts⟩ (c_X7_bits l F (I 6) x_9 hx_9) (va_cwS 1 hts gX7_assume_X7_bits rfl rfl rfl (by decide +kernel) (by rw [hR]; exact ⟨Nat.le_of_ble_eq_true rfl, Nat.le_of_ble_eq_true rfl⟩)) ⟨fun _ _ _ _ h => h, fun U hU hW => ⟨rfl, trivial⟩⟩ rfl rfl hl.1 rfl (lv_room (Nat.le_of_ble_eq_true rfl)) dX7_assume_58 ⟨Nat.zero_le _, Nat.zero_le _⟩) hS (fun _ _ h => h.elim) (fun _ h => h.elim) (fun r u t H1 locs ht hvm hw hB hz1 hk1 hS => ?_)
      obtain rfl := hw.symm
      have hP := hP.kept (fun k x hx => hk1 x.1 (hP k x hx).lt (fun h => h))
      clear hB hz1 hk1 ht hvm
      generalize H1 = H at hP hS ⊢
      refine lv_iadd hx hb dX7_assume_61 ?_
      have hx0 := Option.some.inj h
      rw [hQ]
      exact W.iret (v := x_8 + x_9) hx hb hr (fun t ht hW => ⟨⟨(x_8 + x_9), (v_7, (I 6)), rfl, ⟨congrArg (fun z => z.1) hx0, congrArg (fun z => z.2) hx0⟩, by show va_P _ _ _ t.heap; rw [ht]; exact hP⟩, hS.F ht⟩) hS.2.2 dX7_assume_62
  · have h := if_t c_2 h
    refine lv_iconst (v := (-1)) hx hb dX7_assume_8 (by decide) ?_
    have hx0 := Option.some.inj h
    rw [hQ]
    exact W.iret (v := (-1)) hx hb hr (fun t ht hW => ⟨⟨(-1), ((I 5), (I 6)), rfl, ⟨congrArg (fun z => z.1) hx0, congrArg (fun z => z.2) hx0⟩, by show va_P _ _ _ t.heap; rw [ht]; exact hP⟩, hS.F ht⟩) hS.2.2 dX7_assume_9
theorem in_X7_forget_X7 : ∀ w ∈ wsX70, w ∈ wsX7_forget := by decide +kernel
set_option maxHeartbeats 4000000 in
set_option maxRecDepth 100000 in
theorem c_X7_forget (l : Launch) (D : va_G) (cI cJ cZ : ClassId) (q : Nat → Nat) (hq : MUQ q) (F : Nat) (I : Nat → Int32) (J : Nat → Int64) (a : Nat → Nat → Int32) (b : Nat → Nat → Int64) (x0 : Int32 × Int32 × Int32) (h : f_X7_forget F I J a b = some x0) : Met l yX7_forget wsX7_forget ({ frames := 1, cells := 0, slots := 0, locals := 22 }) (MUPc D cI cJ cZ q I J a b [.ref (q 0)]) (va_Qi (fun (r : Int32) (u : Int32 × Int32) => r = x0.1 ∧ u = x0.2) (fun (u : Int32 × Int32) t => va_P D vwCl (MUW cI cJ cZ q (fu (fu I 5 u.1) 6 u.2) J a b) t.heap) (MUA q)) 0 0 (MUA q) := by
  refine mt_of (cc := cX7_forget) (maxL := 2) (ret := (some .int)) (by decide) rfl ?_
  intro p e s m args below meth c s₁ B0 hml hv R Q hR hQ
  obtain ⟨hargs, hP, hK, hN⟩ := hv
  have hx := B0.exec
  have hb := B0.bytes
  have hr := B0.returns
  have hts := atoms_spec (ws := wsX7_forget) B0.pre
  have hown : s.vm.findClass RX7 = some m.cls := findClass_of_methodNamed B0.named
  have hlocks := B0.notSynchronized
  have hS : va_S (MUA q) s.heap s.heap [] := va_S.rf
  have hl := lv_entry ([.ref (q 0)]) (n := 2) (Nat.le_of_ble_eq_true rfl)
  rw [hargs, lg_entry_eq]
  rw [← hargs]
  generalize (lg_sl ([.ref (q 0)]) ++ List.replicate (2 - (lg_sl ([.ref (q 0)])).length) Slot.unset).toArray = ls at hl ⊢
  have hl : lv_has ls 2 [(0, .ref (q 0))] := hl
  unfold f_X7_forget at h
  refine lv_aload_n hx hb dX7_forget_0 rfl (lv_at hl 0 rfl) ?_
  refine va_get (D := D) (ci := 7) (v := .int (I 5)) (C := RX7) (T := TX7) (N := 38) hx hb hts in_X7_forget_X7 hown hK hP 0 rfl rfl 12 (by decide) (hts (.fieldLink RX7 169 "LearnedReasonsModel" "assumedYes" "I") (by decide +kernel)) (fun _ h9 => h9) rfl dX7_forget_1 ?_
  obtain ⟨x_1, hx_1, h⟩ := ob_some h
  refine va_calli (va_runS (As := [.int (I 5)]) (rest := []) ⟨hx, hb, hml, hown, hts⟩ (c_X7_bits l F (I 5) x_1 hx_1) (va_cwS 1 hts gX7_forget_X7_bits rfl rfl rfl (by decide +kernel) (by rw [hR]; exact ⟨Nat.le_of_ble_eq_true rfl, Nat.le_of_ble_eq_true rfl⟩)) ⟨fun _ _ _ _ h => h, fun U hU hW => ⟨rfl, trivial⟩⟩ rfl rfl hl.1 rfl (lv_room (Nat.le_of_ble_eq_true rfl)) dX7_forget_4 ⟨Nat.zero_le _, Nat.zero_le _⟩) hS (fun _ _ h => h.elim) (fun _ h => h.elim) (fun r u t H1 locs ht hvm hw hB hz1 hk1 hS => ?_)
  obtain rfl := hw.symm
  have hP := hP.kept (fun k x hx => hk1 x.1 (hP k x hx).lt (fun h => h))
  clear hB hz1 hk1 ht hvm
  generalize H1 = H at hP hS ⊢
  refine lv_aload_n hx hb dX7_forget_7 rfl (lv_at hl 0 rfl) ?_
  refine va_get (D := D) (ci := 7) (v := .int (I 6)) (C := RX7) (T := TX7) (N := 38) hx hb hts in_X7_forget_X7 hown hK hP 0 rfl rfl 13 (by decide) (hts (.fieldLink RX7 172 "LearnedReasonsModel" "assumedNo" "I") (by decide +kernel)) (fun _ h9 => h9) rfl dX7_forget_8 ?_
  obtain ⟨x_2, hx_2, h⟩ := ob_some h
  refine va_calli (va_runS (As := [.int (I 6)]) (rest := [.int x_1]) ⟨hx, hb, hml, hown, hts⟩ (c_X7_bits l F (I 6) x_2 hx_2) (va_cwS 1 hts gX7_forget_X7_bits rfl rfl rfl (by decide +kernel) (by rw [hR]; exact ⟨Nat.le_of_ble_eq_true rfl, Nat.le_of_ble_eq_true rfl⟩)) ⟨fun _ _ _ _ h => h, fun U hU hW => ⟨rfl, trivial⟩⟩ rfl rfl hl.1 rfl (lv_room (Nat.le_of_ble_eq_true rfl)) dX7_forget_11 ⟨Nat.zero_le _, Nat.zero_le _⟩) hS (fun _ _ h => h.elim) (fun _ h => h.elim) (fun r u t H1 locs ht hvm hw hB hz1 hk1 hS => ?_)
  obtain rfl := hw.symm
  have hP := hP.kept (fun k x hx => hk1 x.1 (hP k x hx).lt (fun h => h))
  clear hB hz1 hk1 ht hvm
  generalize H1 = H at hP hS ⊢
  refine lv_iadd hx hb dX7_forget_14 ?_
  refine lv_topi (fun v_3 ev_3 => ?_)
  have h := nmI_at ev_3 h
  refine lv_istore_n (lv' := [(1, .int v_3), (0, .ref (q 0))]) hx hb dX7_forget_15 rfl hl (by decide) rfl (fun ls hl => ?_)
  refine lv_aload_n hx hb dX7_forget_16 rfl (lv_at hl 1 rfl) ?_
  refine lv_iconst (v := 0) hx hb dX7_forget_17 (by decide) ?_
  refine va_put (D := D) (ci := 7) (v := .int 0) (ty := .int) (C := RX7) (T := TX7) (N := 38) hx hb hts in_X7_forget_X7 tyX7 tyX7_ok nmX7 hown hK hP (MUW_D hq) hS 0 rfl rfl 12 (by decide) (hts (.fieldLink RX7 169 "LearnedReasonsModel" "assumedYes" "I") (by decide +kernel)) (fun _ h9 => h9) rfl (by decide +kernel) rfl rfl (Nat.le_of_ble_eq_true rfl) dX7_forget_18 (fun H locs hP _ hS => ?_)
  have hP : va_P D vwCl (MUW cI cJ cZ q (fu I 5 0) J a b) H := hP
  refine lv_aload_n hx hb dX7_forget_21 rfl (lv_at hl 1 rfl) ?_
  refine lv_iconst (v := 0) hx hb dX7_forget_22 (by decide) ?_
  refine va_put (D := D) (ci := 7) (v := .int 0) (ty := .int) (C := RX7) (T := TX7) (N := 38) hx hb hts in_X7_forget_X7 tyX7 tyX7_ok nmX7 hown hK hP (MUW_D hq) hS 0 rfl rfl 13 (by decide) (hts (.fieldLink RX7 172 "LearnedReasonsModel" "assumedNo" "I") (by decide +kernel)) (fun _ h9 => h9) rfl (by decide +kernel) rfl rfl (Nat.le_of_ble_eq_true rfl) dX7_forget_23 (fun H locs hP _ hS => ?_)
  have hP : va_P D vwCl (MUW cI cJ cZ q (fu (fu I 5 0) 6 0) J a b) H := hP
  refine lv_iload_n hx hb dX7_forget_26 rfl (lv_at hl 0 rfl) ?_
  have hx0 := Option.some.inj h
  rw [hQ]
  exact W.iret (v := v_3) hx hb hr (fun t ht hW => ⟨⟨v_3, (0, 0), rfl, ⟨congrArg (fun z => z.1) hx0, congrArg (fun z => z.2) hx0⟩, by show va_P _ _ _ t.heap; rw [ht]; exact hP⟩, hS.F ht⟩) hS.2.2 dX7_forget_27
theorem in_X7_byRow_X7 : ∀ w ∈ wsX70, w ∈ wsX7_byRow := by decide +kernel
set_option maxHeartbeats 4000000 in
set_option maxRecDepth 100000 in
theorem c_X7_byRow (l : Launch) (D : va_G) (cI cJ cZ : ClassId) (q : Nat → Nat) (hq : MUQ q) (F : Nat) (I : Nat → Int32) (J : Nat → Int64) (a : Nat → Nat → Int32) (b : Nat → Nat → Int64) (v1 : Int32) (x0 : Int32 × Int32 × Int32 × Int32) (h : f_X7_byRow F I J a b v1 = some x0) : Met l yX7_byRow wsX7_byRow ({ frames := 0, cells := 0, slots := 0, locals := 0 }) (MUPc D cI cJ cZ q I J a b [.ref (q 0), .int v1]) (va_Qi (fun (r : Int32) (u : Int32 × Int32 × Int32) => r = x0.1 ∧ u = x0.2) (fun (u : Int32 × Int32 × Int32) t => va_P D vwCl (MUW cI cJ cZ q (fu (fu (fu I 10 u.1) 11 u.2.1) 12 u.2.2) J a b) t.heap) (MUA q)) 0 0 (MUA q) := by
  refine mt_of (cc := cX7_byRow) (maxL := 6) (ret := (some .boolean)) (by decide) rfl ?_
  intro p e s m args below meth c s₁ B0 hml hv R Q hR hQ
  obtain ⟨hargs, hP, hK, hN⟩ := hv
  have hx := B0.exec
  have hb := B0.bytes
  have hr := B0.returns
  have hts := atoms_spec (ws := wsX7_byRow) B0.pre
  have hown : s.vm.findClass RX7 = some m.cls := findClass_of_methodNamed B0.named
  have hlocks := B0.notSynchronized
  have hS : va_S (MUA q) s.heap s.heap [] := va_S.rf
  have hl := lv_entry ([.ref (q 0), .int v1]) (n := 6) (Nat.le_of_ble_eq_true rfl)
  rw [hargs, lg_entry_eq]
  rw [← hargs]
  generalize (lg_sl ([.ref (q 0), .int v1]) ++ List.replicate (6 - (lg_sl ([.ref (q 0), .int v1])).length) Slot.unset).toArray = ls at hl ⊢
  have hl : lv_has ls 6 [(0, .ref (q 0)), (1, .int v1)] := hl
  unfold f_X7_byRow at h
  have C107 : ∀ (n107 : Nat) (v1 : Int32) (v2 : Int32) (v3 : Int32) (v4 : Int32) (I10 : Int32) (I11 : Int32), k_X7_byRow_107 F I J a b n107 v1 v2 v3 v4 I10 I11 = some x0 → ∀ (H : Heap) (locs : List Loc), va_P D vwCl (MUW cI cJ cZ q (fu (fu I 10 I10) 11 I11) J a b) H → va_S (MUA q) s.heap H locs → ∀ ls : Array Slot, lv_has ls 6 [(0, .ref (q 0)), (1, .int v1), (2, .int v2), (3, .int v3), (4, .int v4)] → W p l e R s m args below meth c H locs 0 0 Q (F0 m 107 ls []) := by
    intro n107
    induction n107 with
    | zero => intro v1 v2 v3 v4 I10 I11 h; rw [k_X7_byRow_107] at h; cases h
    | succ n107 ih107 =>
      intro v1 v2 v3 v4 I10 I11 h H locs hP hS ls hl
      rw [k_X7_byRow_107] at h
      have C187 : ∀ (v1 : Int32) (v2 : Int32) (v3 : Int32) (v4 : Int32) (v5 : Int32) (I10 : Int32) (I11 : Int32), k_X7_byRow_187 F I J a b (k_X7_byRow_107 F I J a b n107) v1 v2 v3 v4 v5 I10 I11 = some x0 → ∀ (H : Heap) (locs : List Loc), va_P D vwCl (MUW cI cJ cZ q (fu (fu I 10 I10) 11 I11) J a b) H → va_S (MUA q) s.heap H locs → ∀ ls : Array Slot, lv_has ls 6 [(0, .ref (q 0)), (1, .int v1), (2, .int v2), (3, .int v3), (4, .int v4), (5, .int v5)] → W p l e R s m args below meth c H locs 0 0 Q (F0 m 187 ls []) := by
        intro v1 v2 v3 v4 v5 I10 I11 h H locs hP hS ls hl
        rw [k_X7_byRow_187] at h
        refine lv_iload hx hb dX7_byRow_187 (lv_at hl 5 rfl) ?_
        refine lv_if_ge (tgt := 220) hx hb dX7_byRow_189 (by decide) (fun c_1 => ?_) (fun c_1 => ?_)
        · have h := if_t c_1 h
          refine lv_iinc (v := v4 + 1) (lv' := [(4, .int (v4 + 1)), (0, .ref (q 0)), (1, .int v1), (2, .int v2), (3, .int v3), (5, .int v5)]) hx hb dX7_byRow_220 hl (k := 4) rfl rfl (by decide) rfl (fun ls hl => ?_)
          refine lv_goto (tgt := 107) hx hb dX7_byRow_223 (by decide) ?_
          exact ih107 v1 v2 v3 (v4 + 1) I10 I11 h _ _ hP hS ls (lv_sub hl [1, 2, 3, 4, 0] rfl)
        · have h := if_f c_1 h
          refine lv_iload_n hx hb dX7_byRow_192 rfl (lv_at hl 2 rfl) ?_
          refine lv_iload hx hb dX7_byRow_193 (lv_at hl 5 rfl) ?_
          refine lv_isub hx hb dX7_byRow_195 ?_
          refine lv_aload_n hx hb dX7_byRow_196 rfl (lv_at hl 0 rfl) ?_
          refine va_get (D := D) (ci := 7) (v := .ref (q 5)) (C := RX7) (T := TX7) (N := 38) hx hb hts in_X7_byRow_X7 hown hK hP 0 rfl rfl 6 (by decide) (hts (.fieldLink RX7 23 "LearnedReasonsModel" "bounds" "[I") (by decide +kernel)) (fun _ h9 => h9) rfl dX7_byRow_197 ?_
          refine lv_iload_n hx hb dX7_byRow_200 rfl (lv_at hl 1 rfl) ?_
          obtain ⟨g_2, h⟩ := gd_some h
          refine va_iald hx hb hK hP 5 0 rfl rfl g_2 dX7_byRow_201 ?_
          refine lv_icmp_le (tgt := 220) hx hb dX7_byRow_202 (by decide) (fun c_3 => ?_) (fun c_3 => ?_)
          · have h := if_t c_3 h
            refine lv_iinc (v := v4 + 1) (lv' := [(4, .int (v4 + 1)), (0, .ref (q 0)), (1, .int v1), (2, .int v2), (3, .int v3), (5, .int v5)]) hx hb dX7_byRow_220 hl (k := 4) rfl rfl (by decide) rfl (fun ls hl => ?_)
            refine lv_goto (tgt := 107) hx hb dX7_byRow_223 (by decide) ?_
            exact ih107 v1 v2 v3 (v4 + 1) I10 I11 h _ _ hP hS ls (lv_sub hl [1, 2, 3, 4, 0] rfl)
          · have h := if_f c_3 h
            refine lv_aload_n hx hb dX7_byRow_205 rfl (lv_at hl 0 rfl) ?_
            refine lv_dup hx hb dX7_byRow_206 rfl ?_
            refine va_get (D := D) (ci := 7) (v := .int I10) (C := RX7) (T := TX7) (N := 38) hx hb hts in_X7_byRow_X7 hown hK hP 0 rfl rfl 19 (by decide) (hts (.fieldLink RX7 48 "LearnedReasonsModel" "yes" "I") (by decide +kernel)) (fun _ h9 => h9) rfl dX7_byRow_207 ?_
            refine lv_iconst (v := 1) hx hb dX7_byRow_210 (by decide) ?_
            refine lv_iload hx hb dX7_byRow_211 (lv_at hl 4 rfl) ?_
            refine lv_ishl hx hb dX7_byRow_213 ?_
            refine lv_ior hx hb dX7_byRow_214 ?_
            refine lv_topi (fun v_4 ev_4 => ?_)
            have h := nmI_at ev_4 h
            refine va_put (D := D) (ci := 7) (v := .int v_4) (ty := .int) (C := RX7) (T := TX7) (N := 38) hx hb hts in_X7_byRow_X7 tyX7 tyX7_ok nmX7 hown hK hP (MUW_D hq) hS 0 rfl rfl 19 (by decide) (hts (.fieldLink RX7 48 "LearnedReasonsModel" "yes" "I") (by decide +kernel)) (fun _ h9 => h9) rfl (by decide +kernel) rfl rfl (Nat.le_of_ble_eq_true rfl) dX7_byRow_215 (fun H locs hP _ hS => ?_)
            have hP : va_P D vwCl (MUW cI cJ cZ q (fu (fu I 10 v_4) 11 I11) J a b) H := hP
            refine lv_iconst (v := 1) hx hb dX7_byRow_218 (by decide) ?_
            refine lv_istore_n (lv' := [(3, .int 1), (0, .ref (q 0)), (1, .int v1), (2, .int v2), (4, .int v4), (5, .int v5)]) hx hb dX7_byRow_219 rfl hl (by decide) rfl (fun ls hl => ?_)
            refine lv_iinc (v := v4 + 1) (lv' := [(4, .int (v4 + 1)), (3, .int 1), (0, .ref (q 0)), (1, .int v1), (2, .int v2), (5, .int v5)]) hx hb dX7_byRow_220 hl (k := 4) rfl rfl (by decide) rfl (fun ls hl => ?_)
            refine lv_goto (tgt := 107) hx hb dX7_byRow_223 (by decide) ?_
            exact ih107 v1 v2 1 (v4 + 1) v_4 I11 h _ _ hP hS ls (lv_sub hl [2, 3, 4, 1, 0] rfl)
      refine lv_iload hx hb dX7_byRow_107 (lv_at hl 4 rfl) ?_
      refine lv_aload_n hx hb dX7_byRow_109 rfl (lv_at hl 0 rfl) ?_
      refine va_get (D := D) (ci := 7) (v := .int (I 0)) (C := RX7) (T := TX7) (N := 38) hx hb hts in_X7_byRow_X7 hown hK hP 0 rfl rfl 0 (by decide) (hts (.fieldLink RX7 63 "LearnedReasonsModel" "names" "I") (by decide +kernel)) (fun _ h9 => h9) rfl dX7_byRow_110 ?_
      refine lv_icmp_ge (tgt := 226) hx hb dX7_byRow_113 (by decide) (fun c_5 => ?_) (fun c_5 => ?_)
      · have h := if_t c_5 h
        refine lv_iload_n hx hb dX7_byRow_226 rfl (lv_at hl 3 rfl) ?_
        obtain ⟨z_6, h⟩ := gz_some h
        have hx0 := Option.some.inj h
        rw [hQ]
        exact W.zret (v := v3) hx hb hr (z_6.1) (fun t ht hW => ⟨⟨v3, (I10, I11, (I 12)), rfl, ⟨congrArg (fun z => z.1) hx0, congrArg (fun z => z.2) hx0⟩, by show va_P _ _ _ t.heap; rw [ht]; exact hP⟩, hS.F ht⟩) hS.2.2 dX7_byRow_227
      · have h := if_f c_5 h
        refine lv_aload_n hx hb dX7_byRow_116 rfl (lv_at hl 0 rfl) ?_
        refine va_get (D := D) (ci := 7) (v := .ref (q 6)) (C := RX7) (T := TX7) (N := 38) hx hb hts in_X7_byRow_X7 hown hK hP 0 rfl rfl 7 (by decide) (hts (.fieldLink RX7 26 "LearnedReasonsModel" "weights" "[I") (by decide +kernel)) (fun _ h9 => h9) rfl dX7_byRow_117 ?_
        refine lv_bipush (v := 14) hx hb dX7_byRow_120 (by decide) ?_
        refine lv_iload_n hx hb dX7_byRow_122 rfl (lv_at hl 1 rfl) ?_
        refine lv_imul hx hb dX7_byRow_123 ?_
        refine lv_iload hx hb dX7_byRow_124 (lv_at hl 4 rfl) ?_
        refine lv_iadd hx hb dX7_byRow_126 ?_
        obtain ⟨g_7, h⟩ := gd_some h
        refine va_iald hx hb hK hP 6 0 rfl rfl g_7 dX7_byRow_127 ?_
        refine lv_topi (fun v_8 ev_8 => ?_)
        have h := nmI_at ev_8 h
        refine lv_istore (lv' := [(5, .int v_8), (0, .ref (q 0)), (1, .int v1), (2, .int v2), (3, .int v3), (4, .int v4)]) hx hb dX7_byRow_128 hl (by decide) rfl (fun ls hl => ?_)
        refine lv_aload_n hx hb dX7_byRow_130 rfl (lv_at hl 1 rfl) ?_
        refine va_get (D := D) (ci := 7) (v := .int I10) (C := RX7) (T := TX7) (N := 38) hx hb hts in_X7_byRow_X7 hown hK hP 0 rfl rfl 19 (by decide) (hts (.fieldLink RX7 48 "LearnedReasonsModel" "yes" "I") (by decide +kernel)) (fun _ h9 => h9) rfl dX7_byRow_131 ?_
        refine lv_aload_n hx hb dX7_byRow_134 rfl (lv_at hl 1 rfl) ?_
        refine va_get (D := D) (ci := 7) (v := .int I11) (C := RX7) (T := TX7) (N := 38) hx hb hts in_X7_byRow_X7 hown hK hP 0 rfl rfl 20 (by decide) (hts (.fieldLink RX7 52 "LearnedReasonsModel" "no" "I") (by decide +kernel)) (fun _ h9 => h9) rfl dX7_byRow_135 ?_
        refine lv_ior hx hb dX7_byRow_138 ?_
        refine lv_iload hx hb dX7_byRow_139 (lv_at hl 5 rfl) ?_
        refine lv_ishr hx hb dX7_byRow_141 ?_
        refine lv_iconst (v := 1) hx hb dX7_byRow_142 (by decide) ?_
        refine lv_iand hx hb dX7_byRow_143 ?_
        refine lv_iconst (v := 1) hx hb dX7_byRow_144 (by decide) ?_
        refine lv_icmp_ne (tgt := 151) hx hb dX7_byRow_145 (by decide) (fun c_9 => ?_) (fun c_9 => ?_)
        · have h := if_f c_9 h
          refine lv_iload hx hb dX7_byRow_151 (lv_at hl 0 rfl) ?_
          refine lv_if_le (tgt := 187) hx hb dX7_byRow_153 (by decide) (fun c_10 => ?_) (fun c_10 => ?_)
          · have h := if_t c_10 h
            exact C187 v1 v2 v3 v4 v_8 I10 I11 h _ _ hP hS ls (lv_sub hl [1, 2, 3, 4, 5, 0] rfl)
          · have h := if_f c_10 h
            refine lv_iload_n hx hb dX7_byRow_156 rfl (lv_at hl 3 rfl) ?_
            refine lv_iload hx hb dX7_byRow_157 (lv_at hl 0 rfl) ?_
            refine lv_iadd hx hb dX7_byRow_159 ?_
            refine lv_aload_n hx hb dX7_byRow_160 rfl (lv_at hl 1 rfl) ?_
            refine va_get (D := D) (ci := 7) (v := .ref (q 5)) (C := RX7) (T := TX7) (N := 38) hx hb hts in_X7_byRow_X7 hown hK hP 0 rfl rfl 6 (by decide) (hts (.fieldLink RX7 23 "LearnedReasonsModel" "bounds" "[I") (by decide +kernel)) (fun _ h9 => h9) rfl dX7_byRow_161 ?_
            refine lv_iload_n hx hb dX7_byRow_164 rfl (lv_at hl 2 rfl) ?_
            obtain ⟨g_11, h⟩ := gd_some h
            refine va_iald hx hb hK hP 5 0 rfl rfl g_11 dX7_byRow_165 ?_
            refine lv_icmp_le (tgt := 187) hx hb dX7_byRow_166 (by decide) (fun c_12 => ?_) (fun c_12 => ?_)
            · have h := if_t c_12 h
              exact C187 v1 v2 v3 v4 v_8 I10 I11 h _ _ hP hS ls (lv_sub hl [1, 2, 3, 4, 5, 0] rfl)
            · have h := if_f c_12 h
              refine lv_aload_n hx hb dX7_byRow_169 rfl (lv_at hl 1 rfl) ?_
              refine lv_dup hx hb dX7_byRow_170 rfl ?_
              refine va_get (D := D) (ci := 7) (v := .int I11) (C := RX7) (T := TX7) (N := 38) hx hb hts in_X7_byRow_X7 hown hK hP 0 rfl rfl 20 (by decide) (hts (.fieldLink RX7 52 "LearnedReasonsModel" "no" "I") (by decide +kernel)) (fun _ h9 => h9) rfl dX7_byRow_171 ?_
              refine lv_iconst (v := 1) hx hb dX7_byRow_174 (by decide) ?_
              refine lv_iload hx hb dX7_byRow_175 (lv_at hl 5 rfl) ?_
              refine lv_ishl hx hb dX7_byRow_177 ?_
              refine lv_ior hx hb dX7_byRow_178 ?_
              refine lv_topi (fun v_13 ev_13 => ?_)
              have h := nmI_at ev_13 h
              refine va_put (D := D) (ci := 7) (v := .int v_13) (ty := .int) (C := RX7) (T := TX7) (N := 38) hx hb hts in_X7_byRow_X7 tyX7 tyX7_ok nmX7 hown hK hP (MUW_D hq) hS 0 rfl rfl 20 (by decide) (hts (.fieldLink RX7 52 "LearnedReasonsModel" "no" "I") (by decide +kernel)) (fun _ h9 => h9) rfl (by decide +kernel) rfl rfl (Nat.le_of_ble_eq_true rfl) dX7_byRow_179 (fun H locs hP _ hS => ?_)
              have hP : va_P D vwCl (MUW cI cJ cZ q (fu (fu I 10 I10) 11 v_13) J a b) H := hP
              refine lv_iconst (v := 1) hx hb dX7_byRow_182 (by decide) ?_
              refine lv_istore_n (lv' := [(3, .int 1), (5, .int v_8), (0, .ref (q 0)), (1, .int v1), (2, .int v2), (4, .int v4)]) hx hb dX7_byRow_183 rfl hl (by decide) rfl (fun ls hl => ?_)
              refine lv_goto (tgt := 220) hx hb dX7_byRow_184 (by decide) ?_
              refine lv_iinc (v := v4 + 1) (lv' := [(4, .int (v4 + 1)), (3, .int 1), (5, .int v_8), (0, .ref (q 0)), (1, .int v1), (2, .int v2)]) hx hb dX7_byRow_220 hl (k := 5) rfl rfl (by decide) rfl (fun ls hl => ?_)
              refine lv_goto (tgt := 107) hx hb dX7_byRow_223 (by decide) ?_
              exact ih107 v1 v2 1 (v4 + 1) I10 v_13 h _ _ hP hS ls (lv_sub hl [3, 4, 5, 1, 0] rfl)
        · have h := if_t c_9 h
          refine lv_goto (tgt := 220) hx hb dX7_byRow_148 (by decide) ?_
          refine lv_iinc (v := v4 + 1) (lv' := [(4, .int (v4 + 1)), (5, .int v_8), (0, .ref (q 0)), (1, .int v1), (2, .int v2), (3, .int v3)]) hx hb dX7_byRow_220 hl (k := 5) rfl rfl (by decide) rfl (fun ls hl => ?_)
          refine lv_goto (tgt := 107) hx hb dX7_byRow_223 (by decide) ?_
          exact ih107 v1 v2 v3 (v4 + 1) I10 I11 h _ _ hP hS ls (lv_sub hl [2, 3, 4, 5, 0] rfl)
  have C4 : ∀ (n4 : Nat) (v1 : Int32) (v2 : Int32) (v3 : Int32), k_X7_byRow_4 F I J a b n4 v1 v2 v3 = some x0 → ∀ (H : Heap) (locs : List Loc), va_P D vwCl (MUW cI cJ cZ q I J a b) H → va_S (MUA q) s.heap H locs → ∀ ls : Array Slot, lv_has ls 6 [(0, .ref (q 0)), (1, .int v1), (2, .int v2), (3, .int v3)] → W p l e R s m args below meth c H locs 0 0 Q (F0 m 4 ls []) := by
    intro n4
    induction n4 with
    | zero => intro v1 v2 v3 h; rw [k_X7_byRow_4] at h; cases h
    | succ n4 ih4 =>
      intro v1 v2 v3 h H locs hP hS ls hl
      rw [k_X7_byRow_4] at h
      have C46 : ∀ (v1 : Int32) (v2 : Int32) (v3 : Int32) (v4 : Int32) (s0 : Int32), k_X7_byRow_46 F I J a b (k_X7_byRow_4 F I J a b n4) v1 v2 v3 v4 s0 = some x0 → ∀ (H : Heap) (locs : List Loc), va_P D vwCl (MUW cI cJ cZ q I J a b) H → va_S (MUA q) s.heap H locs → ∀ ls : Array Slot, lv_has ls 6 [(0, .ref (q 0)), (1, .int v1), (2, .int v2), (3, .int v3), (4, .int v4)] → W p l e R s m args below meth c H locs 0 0 Q (F0 m 46 ls [.int s0]) := by
        intro v1 v2 v3 v4 s0 h H locs hP hS ls hl
        rw [k_X7_byRow_46] at h
        refine lv_istore (lv' := [(5, .int s0), (0, .ref (q 0)), (1, .int v1), (2, .int v2), (3, .int v3), (4, .int v4)]) hx hb dX7_byRow_46 hl (by decide) rfl (fun ls hl => ?_)
        refine lv_iload_n hx hb dX7_byRow_48 rfl (lv_at hl 3 rfl) ?_
        refine lv_aload_n hx hb dX7_byRow_49 rfl (lv_at hl 1 rfl) ?_
        refine va_get (D := D) (ci := 7) (v := .int (I 10)) (C := RX7) (T := TX7) (N := 38) hx hb hts in_X7_byRow_X7 hown hK hP 0 rfl rfl 19 (by decide) (hts (.fieldLink RX7 48 "LearnedReasonsModel" "yes" "I") (by decide +kernel)) (fun _ h9 => h9) rfl dX7_byRow_50 ?_
        refine lv_iload_n hx hb dX7_byRow_53 rfl (lv_at hl 4 rfl) ?_
        refine lv_ishr hx hb dX7_byRow_54 ?_
        refine lv_iconst (v := 1) hx hb dX7_byRow_55 (by decide) ?_
        refine lv_iand hx hb dX7_byRow_56 ?_
        refine lv_iconst (v := 1) hx hb dX7_byRow_57 (by decide) ?_
        refine lv_icmp_eq (tgt := 71) hx hb dX7_byRow_58 (by decide) (fun c_14 => ?_) (fun c_14 => ?_)
        · have h := if_t c_14 h
          refine lv_iload hx hb dX7_byRow_71 (lv_at hl 5 rfl) ?_
          refine lv_goto (tgt := 77) hx hb dX7_byRow_73 (by decide) ?_
          refine lv_iadd hx hb dX7_byRow_77 ?_
          refine lv_topi (fun v_15 ev_15 => ?_)
          have h := nmI_at ev_15 h
          refine lv_istore_n (lv' := [(2, .int v_15), (5, .int s0), (0, .ref (q 0)), (1, .int v1), (3, .int v3), (4, .int v4)]) hx hb dX7_byRow_78 rfl hl (by decide) rfl (fun ls hl => ?_)
          refine lv_iinc (v := v3 + 1) (lv' := [(3, .int (v3 + 1)), (2, .int v_15), (5, .int s0), (0, .ref (q 0)), (1, .int v1), (4, .int v4)]) hx hb dX7_byRow_79 hl (k := 4) rfl rfl (by decide) rfl (fun ls hl => ?_)
          refine lv_goto (tgt := 4) hx hb dX7_byRow_82 (by decide) ?_
          exact ih4 v1 v_15 (v3 + 1) h _ _ hP hS ls (lv_sub hl [3, 4, 1, 0] rfl)
        · have h := if_f c_14 h
          refine lv_iload hx hb dX7_byRow_61 (lv_at hl 0 rfl) ?_
          refine lv_if_eq (tgt := 76) hx hb dX7_byRow_63 (by decide) (fun c_16 => ?_) (fun c_16 => ?_)
          · have h := if_t c_16 h
            refine lv_iconst (v := 0) hx hb dX7_byRow_76 (by decide) ?_
            refine lv_iadd hx hb dX7_byRow_77 ?_
            refine lv_topi (fun v_17 ev_17 => ?_)
            have h := nmI_at ev_17 h
            refine lv_istore_n (lv' := [(2, .int v_17), (5, .int s0), (0, .ref (q 0)), (1, .int v1), (3, .int v3), (4, .int v4)]) hx hb dX7_byRow_78 rfl hl (by decide) rfl (fun ls hl => ?_)
            refine lv_iinc (v := v3 + 1) (lv' := [(3, .int (v3 + 1)), (2, .int v_17), (5, .int s0), (0, .ref (q 0)), (1, .int v1), (4, .int v4)]) hx hb dX7_byRow_79 hl (k := 4) rfl rfl (by decide) rfl (fun ls hl => ?_)
            refine lv_goto (tgt := 4) hx hb dX7_byRow_82 (by decide) ?_
            exact ih4 v1 v_17 (v3 + 1) h _ _ hP hS ls (lv_sub hl [3, 4, 1, 0] rfl)
          · have h := if_f c_16 h
            refine lv_iload hx hb dX7_byRow_66 (lv_at hl 5 rfl) ?_
            refine lv_if_ge (tgt := 76) hx hb dX7_byRow_68 (by decide) (fun c_18 => ?_) (fun c_18 => ?_)
            · have h := if_t c_18 h
              refine lv_iconst (v := 0) hx hb dX7_byRow_76 (by decide) ?_
              refine lv_iadd hx hb dX7_byRow_77 ?_
              refine lv_topi (fun v_19 ev_19 => ?_)
              have h := nmI_at ev_19 h
              refine lv_istore_n (lv' := [(2, .int v_19), (5, .int s0), (0, .ref (q 0)), (1, .int v1), (3, .int v3), (4, .int v4)]) hx hb dX7_byRow_78 rfl hl (by decide) rfl (fun ls hl => ?_)
              refine lv_iinc (v := v3 + 1) (lv' := [(3, .int (v3 + 1)), (2, .int v_19), (5, .int s0), (0, .ref (q 0)), (1, .int v1), (4, .int v4)]) hx hb dX7_byRow_79 hl (k := 4) rfl rfl (by decide) rfl (fun ls hl => ?_)
              refine lv_goto (tgt := 4) hx hb dX7_byRow_82 (by decide) ?_
              exact ih4 v1 v_19 (v3 + 1) h _ _ hP hS ls (lv_sub hl [3, 4, 1, 0] rfl)
            · have h := if_f c_18 h
              refine lv_iload hx hb dX7_byRow_71 (lv_at hl 5 rfl) ?_
              refine lv_goto (tgt := 77) hx hb dX7_byRow_73 (by decide) ?_
              refine lv_iadd hx hb dX7_byRow_77 ?_
              refine lv_topi (fun v_20 ev_20 => ?_)
              have h := nmI_at ev_20 h
              refine lv_istore_n (lv' := [(2, .int v_20), (5, .int s0), (0, .ref (q 0)), (1, .int v1), (3, .int v3), (4, .int v4)]) hx hb dX7_byRow_78 rfl hl (by decide) rfl (fun ls hl => ?_)
              refine lv_iinc (v := v3 + 1) (lv' := [(3, .int (v3 + 1)), (2, .int v_20), (5, .int s0), (0, .ref (q 0)), (1, .int v1), (4, .int v4)]) hx hb dX7_byRow_79 hl (k := 4) rfl rfl (by decide) rfl (fun ls hl => ?_)
              refine lv_goto (tgt := 4) hx hb dX7_byRow_82 (by decide) ?_
              exact ih4 v1 v_20 (v3 + 1) h _ _ hP hS ls (lv_sub hl [3, 4, 1, 0] rfl)
      refine lv_iload_n hx hb dX7_byRow_4 rfl (lv_at hl 3 rfl) ?_
      refine lv_aload_n hx hb dX7_byRow_5 rfl (lv_at hl 0 rfl) ?_
      refine va_get (D := D) (ci := 7) (v := .int (I 0)) (C := RX7) (T := TX7) (N := 38) hx hb hts in_X7_byRow_X7 hown hK hP 0 rfl rfl 0 (by decide) (hts (.fieldLink RX7 63 "LearnedReasonsModel" "names" "I") (by decide +kernel)) (fun _ h9 => h9) rfl dX7_byRow_6 ?_
      refine lv_icmp_ge (tgt := 85) hx hb dX7_byRow_9 (by decide) (fun c_21 => ?_) (fun c_21 => ?_)
      · have h := if_t c_21 h
        refine lv_iload_n hx hb dX7_byRow_85 rfl (lv_at hl 2 rfl) ?_
        refine lv_aload_n hx hb dX7_byRow_86 rfl (lv_at hl 0 rfl) ?_
        refine va_get (D := D) (ci := 7) (v := .ref (q 5)) (C := RX7) (T := TX7) (N := 38) hx hb hts in_X7_byRow_X7 hown hK hP 0 rfl rfl 6 (by decide) (hts (.fieldLink RX7 23 "LearnedReasonsModel" "bounds" "[I") (by decide +kernel)) (fun _ h9 => h9) rfl dX7_byRow_87 ?_
        refine lv_iload_n hx hb dX7_byRow_90 rfl (lv_at hl 1 rfl) ?_
        obtain ⟨g_22, h⟩ := gd_some h
        refine va_iald hx hb hK hP 5 0 rfl rfl g_22 dX7_byRow_91 ?_
        refine lv_icmp_le (tgt := 102) hx hb dX7_byRow_92 (by decide) (fun c_23 => ?_) (fun c_23 => ?_)
        · have h := if_t c_23 h
          refine lv_iconst (v := 0) hx hb dX7_byRow_102 (by decide) ?_
          refine lv_istore_n (lv' := [(3, .int 0), (0, .ref (q 0)), (1, .int v1), (2, .int v2)]) hx hb dX7_byRow_103 rfl hl (by decide) rfl (fun ls hl => ?_)
          refine lv_iconst (v := 0) hx hb dX7_byRow_104 (by decide) ?_
          refine lv_istore (lv' := [(4, .int 0), (3, .int 0), (0, .ref (q 0)), (1, .int v1), (2, .int v2)]) hx hb dX7_byRow_105 hl (by decide) rfl (fun ls hl => ?_)
          exact C107 F v1 v2 0 0 (I 10) (I 11) h _ _ hP hS ls (lv_sub hl [2, 3, 4, 1, 0] rfl)
        · have h := if_f c_23 h
          refine lv_aload_n hx hb dX7_byRow_95 rfl (lv_at hl 0 rfl) ?_
          refine lv_iconst (v := 1) hx hb dX7_byRow_96 (by decide) ?_
          refine va_put (D := D) (ci := 7) (v := .int 1) (ty := .boolean) (C := RX7) (T := TX7) (N := 38) hx hb hts in_X7_byRow_X7 tyX7 tyX7_ok nmX7 hown hK hP (MUW_D hq) hS 0 rfl rfl 21 (by decide) (hts (.fieldLink RX7 59 "LearnedReasonsModel" "clash" "Z") (by decide +kernel)) (fun _ h9 => h9) rfl (by decide +kernel) rfl rfl (Nat.le_of_ble_eq_true rfl) dX7_byRow_97 (fun H locs hP _ hS => ?_)
          have hP : va_P D vwCl (MUW cI cJ cZ q (fu I 12 1) J a b) H := hP
          refine lv_iconst (v := 0) hx hb dX7_byRow_100 (by decide) ?_
          have hx0 := Option.some.inj h
          rw [hQ]
          exact W.zret (v := 0) hx hb hr (rfl) (fun t ht hW => ⟨⟨0, ((I 10), (I 11), 1), rfl, ⟨congrArg (fun z => z.1) hx0, congrArg (fun z => z.2) hx0⟩, by show va_P _ _ _ t.heap; rw [ht]; exact hP⟩, hS.F ht⟩) hS.2.2 dX7_byRow_101
      · have h := if_f c_21 h
        refine lv_aload_n hx hb dX7_byRow_12 rfl (lv_at hl 0 rfl) ?_
        refine va_get (D := D) (ci := 7) (v := .ref (q 6)) (C := RX7) (T := TX7) (N := 38) hx hb hts in_X7_byRow_X7 hown hK hP 0 rfl rfl 7 (by decide) (hts (.fieldLink RX7 26 "LearnedReasonsModel" "weights" "[I") (by decide +kernel)) (fun _ h9 => h9) rfl dX7_byRow_13 ?_
        refine lv_bipush (v := 14) hx hb dX7_byRow_16 (by decide) ?_
        refine lv_iload_n hx hb dX7_byRow_18 rfl (lv_at hl 1 rfl) ?_
        refine lv_imul hx hb dX7_byRow_19 ?_
        refine lv_iload_n hx hb dX7_byRow_20 rfl (lv_at hl 3 rfl) ?_
        refine lv_iadd hx hb dX7_byRow_21 ?_
        obtain ⟨g_24, h⟩ := gd_some h
        refine va_iald hx hb hK hP 6 0 rfl rfl g_24 dX7_byRow_22 ?_
        refine lv_topi (fun v_25 ev_25 => ?_)
        have h := nmI_at ev_25 h
        refine lv_istore (lv' := [(4, .int v_25), (0, .ref (q 0)), (1, .int v1), (2, .int v2), (3, .int v3)]) hx hb dX7_byRow_23 hl (by decide) rfl (fun ls hl => ?_)
        refine lv_aload_n hx hb dX7_byRow_25 rfl (lv_at hl 1 rfl) ?_
        refine va_get (D := D) (ci := 7) (v := .int (I 10)) (C := RX7) (T := TX7) (N := 38) hx hb hts in_X7_byRow_X7 hown hK hP 0 rfl rfl 19 (by decide) (hts (.fieldLink RX7 48 "LearnedReasonsModel" "yes" "I") (by decide +kernel)) (fun _ h9 => h9) rfl dX7_byRow_26 ?_
        refine lv_aload_n hx hb dX7_byRow_29 rfl (lv_at hl 1 rfl) ?_
        refine va_get (D := D) (ci := 7) (v := .int (I 11)) (C := RX7) (T := TX7) (N := 38) hx hb hts in_X7_byRow_X7 hown hK hP 0 rfl rfl 20 (by decide) (hts (.fieldLink RX7 52 "LearnedReasonsModel" "no" "I") (by decide +kernel)) (fun _ h9 => h9) rfl dX7_byRow_30 ?_
        refine lv_ior hx hb dX7_byRow_33 ?_
        refine lv_iload_n hx hb dX7_byRow_34 rfl (lv_at hl 4 rfl) ?_
        refine lv_ishr hx hb dX7_byRow_35 ?_
        refine lv_iconst (v := 1) hx hb dX7_byRow_36 (by decide) ?_
        refine lv_iand hx hb dX7_byRow_37 ?_
        refine lv_if_ne (tgt := 45) hx hb dX7_byRow_38 (by decide) (fun c_26 => ?_) (fun c_26 => ?_)
        · have h := if_f c_26 h
          refine lv_iconst (v := 0) hx hb dX7_byRow_45 (by decide) ?_
          exact C46 v1 v2 v3 v_25 0 h _ _ hP hS ls (lv_sub hl [1, 2, 3, 4, 0] rfl)
        · have h := if_t c_26 h
          refine lv_iconst (v := 1) hx hb dX7_byRow_41 (by decide) ?_
          refine lv_goto (tgt := 46) hx hb dX7_byRow_42 (by decide) ?_
          exact C46 v1 v2 v3 v_25 1 h _ _ hP hS ls (lv_sub hl [1, 2, 3, 4, 0] rfl)
  refine lv_iconst (v := 0) hx hb dX7_byRow_0 (by decide) ?_
  refine lv_istore_n (lv' := [(2, .int 0), (0, .ref (q 0)), (1, .int v1)]) hx hb dX7_byRow_1 rfl hl (by decide) rfl (fun ls hl => ?_)
  refine lv_iconst (v := 0) hx hb dX7_byRow_2 (by decide) ?_
  refine lv_istore_n (lv' := [(3, .int 0), (2, .int 0), (0, .ref (q 0)), (1, .int v1)]) hx hb dX7_byRow_3 rfl hl (by decide) rfl (fun ls hl => ?_)
  exact C4 F v1 0 0 h _ _ hP hS ls (lv_sub hl [2, 3, 1, 0] rfl)
