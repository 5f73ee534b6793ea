theorem in_X1_bar_X1 : ∀ w ∈ wsX10, w ∈ wsX1_bar := by decide +kernel
set_option maxHeartbeats 4000000 in
set_option maxRecDepth 100000 in
theorem c_X1_bar (l : Launch) (D : va_G) (cI cJ : ClassId) (q : Nat → Nat) (hq : CUQ q) (F : Nat) (I : Nat → Int32) (J : Nat → Int64) (a : Nat → Nat → Int32) (b : Nat → Nat → Int64) (v1 : Int32) (x0 : (Nat → Int32)) (h : f_X1_bar F I J a b v1 = some x0) : Met l yX1_bar wsX1_bar ({ frames := 0, cells := 0, slots := 0, locals := 0 }) (CUPc D cI cJ q I J a b [.ref (q 3), .int v1]) (va_Qv (fun (u : (Nat → Int32)) => u = x0) (fun (u : (Nat → Int32)) t => va_P D vwCl (CUW cI cJ q I J (fu a 7 u) b) t.heap) (CUA q)) 0 0 (CUA q) := by
  refine mt_of (cc := cX1_bar) (maxL := 2) (ret := none) (by decide) rfl ?_
  intro p e s m args below meth c s₁ B0 hml hv R Q hR hQ
  obtain ⟨hargs, hP, hK, hN⟩ := hv
  have hx := B0.exec
  have hb := B0.bytes
  have hr := B0.returns
  have hts := atoms_spec (ws := wsX1_bar) B0.pre
  have hown : s.vm.findClass RX1 = some m.cls := findClass_of_methodNamed B0.named
  have hlocks := B0.notSynchronized
  have hS : va_S (CUA q) s.heap s.heap [] := va_S.rf
  have hl := lv_entry ([.ref (q 3), .int v1]) (n := 2) (Nat.le_of_ble_eq_true rfl)
  rw [hargs, lg_entry_eq]
  rw [← hargs]
  generalize (lg_sl ([.ref (q 3), .int v1]) ++ List.replicate (2 - (lg_sl ([.ref (q 3), .int v1])).length) Slot.unset).toArray = ls at hl ⊢
  have hl : lv_has ls 2 [(0, .ref (q 3)), (1, .int v1)] := hl
  unfold f_X1_bar at h
  refine lv_aload_n hx hb dX1_bar_0 rfl (lv_at hl 0 rfl) ?_
  refine va_get (D := D) (ci := 1) (v := .ref (q 14)) (C := RX1) (T := TX1) (N := 3) hx hb hts in_X1_bar_X1 hown hK hP 3 rfl rfl 2 (by decide) (hts (.fieldLink RX1 15 "LearnedReasons$Learned" "barred" "[I") (by decide +kernel)) (fun _ h9 => h9) rfl dX1_bar_1 ?_
  refine lv_iload_n hx hb dX1_bar_4 rfl (lv_at hl 1 rfl) ?_
  refine lv_iconst (v := 5) hx hb dX1_bar_5 (by decide) ?_
  refine lv_ishr hx hb dX1_bar_6 ?_
  refine lv_sipush (v := 511) hx hb dX1_bar_7 (by decide) ?_
  refine lv_iand hx hb dX1_bar_10 ?_
  refine lv_topi (fun v_1 ev_1 => ?_)
  have h := nmI_at ev_1 h
  refine lv_dup2_11 hx hb dX1_bar_11 rfl rfl ?_
  obtain ⟨g_2, h⟩ := gd_some h
  refine va_iald hx hb hK hP 14 0 rfl rfl g_2 dX1_bar_12 ?_
  refine lv_iconst (v := 1) hx hb dX1_bar_13 (by decide) ?_
  refine lv_iload_n hx hb dX1_bar_14 rfl (lv_at hl 1 rfl) ?_
  refine lv_bipush (v := 31) hx hb dX1_bar_15 (by decide) ?_
  refine lv_iand hx hb dX1_bar_17 ?_
  refine lv_ishl hx hb dX1_bar_18 ?_
  refine lv_ior hx hb dX1_bar_19 ?_
  obtain ⟨g_3, h⟩ := gd_some h
  refine va_iast hx hb hK hP (CUW_D hq) hS 14 0 rfl rfl g_3 dX1_bar_20 (fun H locs hP _ hS => ?_)
  have hP : va_P D vwCl (CUW cI cJ q I J (fu a 7 (upd (a 7) v_1.toNatClampNeg (((a 7) v_1.toNatClampNeg) ||| ((1 : Int32) <<< ((v1 &&& 31) &&& 31))))) b) H := hP
  have hx0 := Option.some.inj h
  rw [hQ]
  exact W.vret hx hb hr (fun t ht hW => ⟨⟨(upd (a 7) v_1.toNatClampNeg (((a 7) v_1.toNatClampNeg) ||| ((1 : Int32) <<< ((v1 &&& 31) &&& 31)))), rfl, hx0, by show va_P _ _ _ t.heap; rw [ht]; exact hP⟩, hS.F ht⟩) hS.2.2 dX1_bar_21
theorem in_X1_add_X1 : ∀ w ∈ wsX10, w ∈ wsX1_add := by decide +kernel
set_option maxHeartbeats 4000000 in
set_option maxRecDepth 100000 in
theorem c_X1_add (l : Launch) (D : va_G) (cI cJ : ClassId) (q : Nat → Nat) (hq : CUQ q) (F : Nat) (I : Nat → Int32) (J : Nat → Int64) (a : Nat → Nat → Int32) (b : Nat → Nat → Int64) (v1 : Int32) (v2 : Int32) (x0 : Int32 × (Nat → Int32) × (Nat → Int32)) (h : f_X1_add F I J a b v1 v2 = some x0) : Met l yX1_add wsX1_add ({ frames := 1, cells := 0, slots := 0, locals := 21 }) (CUPc D cI cJ q I J a b [.ref (q 3), .int v1, .int v2]) (va_Qv (fun (u : Int32 × (Nat → Int32) × (Nat → Int32)) => u = x0) (fun (u : Int32 × (Nat → Int32) × (Nat → Int32)) t => va_P D vwCl (CUW cI cJ q (fu I 7 u.1) J (fu (fu a 6 u.2.1) 7 u.2.2) b) t.heap) (CUA q)) 0 0 (CUA q) := by
  refine mt_of (cc := cX1_add) (maxL := 5) (ret := none) (by decide) rfl ?_
  intro p e s m args below meth c s₁ B0 hml hv R Q hR hQ
  obtain ⟨hargs, hP, hK, hN⟩ := hv
  have hx := B0.exec
  have hb := B0.bytes
  have hr := B0.returns
  have hts := atoms_spec (ws := wsX1_add) B0.pre
  have hown : s.vm.findClass RX1 = some m.cls := findClass_of_methodNamed B0.named
  have hlocks := B0.notSynchronized
  have hS : va_S (CUA q) s.heap s.heap [] := va_S.rf
  have hl := lv_entry ([.ref (q 3), .int v1, .int v2]) (n := 5) (Nat.le_of_ble_eq_true rfl)
  rw [hargs, lg_entry_eq]
  rw [← hargs]
  generalize (lg_sl ([.ref (q 3), .int v1, .int v2]) ++ List.replicate (5 - (lg_sl ([.ref (q 3), .int v1, .int v2])).length) Slot.unset).toArray = ls at hl ⊢
  have hl : lv_has ls 5 [(0, .ref (q 3)), (1, .int v1), (2, .int v2)] := hl
  unfold f_X1_add at h
  have C40 : ∀ (n40 : Nat) (v1 : Int32) (v3 : Int32) (v4 : Int32) (I7 : Int32) (a6 : Nat → Int32) (a7 : Nat → Int32), k_X1_add_40 F I J a b n40 v1 v3 v4 I7 a6 a7 = some x0 → ∀ (H : Heap) (locs : List Loc), va_P D vwCl (CUW cI cJ q (fu I 7 I7) J (fu (fu a 6 a6) 7 a7) b) H → va_S (CUA q) s.heap H locs → ∀ ls : Array Slot, lv_has ls 5 [(0, .ref (q 3)), (1, .int v1), (3, .int v3), (4, .int v4)] → W p l e R s m args below meth c H locs 0 0 Q (F0 m 40 ls []) := by
    intro n40
    induction n40 with
    | zero => intro v1 v3 v4 I7 a6 a7 h; rw [k_X1_add_40] at h; cases h
    | succ n40 ih40 =>
      intro v1 v3 v4 I7 a6 a7 h H locs hP hS ls hl
      rw [k_X1_add_40] at h
      refine lv_iload hx hb dX1_add_40 (lv_at hl 3 rfl) ?_
      refine lv_if_le (tgt := 64) hx hb dX1_add_42 (by decide) (fun c_1 => ?_) (fun c_1 => ?_)
      · have h := if_t c_1 h
        refine lv_aload_n hx hb dX1_add_64 rfl (lv_at hl 0 rfl) ?_
        refine lv_iload_n hx hb dX1_add_65 rfl (lv_at hl 1 rfl) ?_
        obtain ⟨x_2, hx_2, h⟩ := ob_some h
        refine va_callv (va_runV (As := [.int v1]) (rest := []) ⟨hx, hb, hml, hown, hts⟩ (c_X1_bar l D cI cJ q hq F (fu I 7 I7) J (fu (fu a 6 a6) 7 a7) b v1 x_2 hx_2) (cwV 1 hts gX1_add_X1_bar rfl rfl rfl (by decide +kernel) (by rw [hR]; exact ⟨Nat.le_of_ble_eq_true rfl, Nat.le_of_ble_eq_true rfl⟩)) ⟨CUPc_blind, va_recv hK hP (ci := 1) (q0 := 3) rfl rfl, fun U hU hW => ⟨rfl, by rw [hU]; exact hP, va_K.moved hW.alike hK, va_Nw.warmM hW hN⟩⟩ rfl rfl hl.1 rfl (lv_room (Nat.le_of_ble_eq_true rfl)) dX1_add_66 ⟨Nat.zero_le _, Nat.zero_le _⟩) hS (fun _ _ h => h) (fun _ h => h) (fun u t H1 locs ht hvm hw hB hz1 hk1 hS => ?_)
        obtain rfl := hw.symm
        rw [ht] at hB
        have hP : va_P D vwCl (CUW cI cJ q (fu I 7 I7) J (fu (fu a 6 a6) 7 x_2) b) H1 := hB
        clear hB hz1 hk1 ht hvm
        generalize H1 = H at hP hS ⊢
        have hx0 := Option.some.inj h
        rw [hQ]
        exact W.vret hx hb hr (fun t ht hW => ⟨⟨(I7, a6, x_2), rfl, hx0, by show va_P _ _ _ t.heap; rw [ht]; exact hP⟩, hS.F ht⟩) hS.2.2 dX1_add_69
      · have h := if_f c_1 h
        refine lv_aload_n hx hb dX1_add_45 rfl (lv_at hl 0 rfl) ?_
        refine lv_iload_n hx hb dX1_add_46 rfl (lv_at hl 1 rfl) ?_
        refine lv_iload hx hb dX1_add_47 (lv_at hl 3 rfl) ?_
        refine lv_ior hx hb dX1_add_49 ?_
        obtain ⟨x_3, hx_3, h⟩ := ob_some h
        refine va_callv (va_runV (As := [.int (v1 ||| v4)]) (rest := []) ⟨hx, hb, hml, hown, hts⟩ (c_X1_bar l D cI cJ q hq F (fu I 7 I7) J (fu (fu a 6 a6) 7 a7) b (v1 ||| v4) x_3 hx_3) (cwV 1 hts gX1_add_X1_bar rfl rfl rfl (by decide +kernel) (by rw [hR]; exact ⟨Nat.le_of_ble_eq_true rfl, Nat.le_of_ble_eq_true rfl⟩)) ⟨CUPc_blind, va_recv hK hP (ci := 1) (q0 := 3) rfl rfl, fun U hU hW => ⟨rfl, by rw [hU]; exact hP, va_K.moved hW.alike hK, va_Nw.warmM hW hN⟩⟩ rfl rfl hl.1 rfl (lv_room (Nat.le_of_ble_eq_true rfl)) dX1_add_50 ⟨Nat.zero_le _, Nat.zero_le _⟩) hS (fun _ _ h => h) (fun _ h => h) (fun u t H1 locs ht hvm hw hB hz1 hk1 hS => ?_)
        obtain rfl := hw.symm
        rw [ht] at hB
        have hP : va_P D vwCl (CUW cI cJ q (fu I 7 I7) J (fu (fu a 6 a6) 7 x_3) b) H1 := hB
        clear hB hz1 hk1 ht hvm
        generalize H1 = H at hP hS ⊢
        refine lv_iload hx hb dX1_add_53 (lv_at hl 3 rfl) ?_
        refine lv_iconst (v := 1) hx hb dX1_add_55 (by decide) ?_
        refine lv_isub hx hb dX1_add_56 ?_
        refine lv_iload_n hx hb dX1_add_57 rfl (lv_at hl 2 rfl) ?_
        refine lv_iand hx hb dX1_add_58 ?_
        refine lv_topi (fun v_4 ev_4 => ?_)
        have h := nmI_at ev_4 h
        refine lv_istore (lv' := [(4, .int v_4), (0, .ref (q 3)), (1, .int v1), (3, .int v3)]) hx hb dX1_add_59 hl (by decide) rfl (fun ls hl => ?_)
        refine lv_goto (tgt := 40) hx hb dX1_add_61 (by decide) ?_
        exact ih40 v1 v3 v_4 I7 a6 x_3 h _ _ hP hS ls (lv_sub hl [1, 2, 3, 0] rfl)
  refine lv_aload_n hx hb dX1_add_0 rfl (lv_at hl 0 rfl) ?_
  refine va_get (D := D) (ci := 1) (v := .int (I 7)) (C := RX1) (T := TX1) (N := 3) hx hb hts in_X1_add_X1 hown hK hP 3 rfl rfl 0 (by decide) (hts (.fieldLink RX1 18 "LearnedReasons$Learned" "size" "I") (by decide +kernel)) (fun _ h9 => h9) rfl dX1_add_1 ?_
  refine lv_sipush (v := 8192) hx hb dX1_add_4 (by decide) ?_
  refine lv_icmp_lt (tgt := 11) hx hb dX1_add_7 (by decide) (fun c_5 => ?_) (fun c_5 => ?_)
  · have h := if_t c_5 h
    refine lv_aload_n hx hb dX1_add_11 rfl (lv_at hl 0 rfl) ?_
    refine va_get (D := D) (ci := 1) (v := .ref (q 13)) (C := RX1) (T := TX1) (N := 3) hx hb hts in_X1_add_X1 hown hK hP 3 rfl rfl 1 (by decide) (hts (.fieldLink RX1 11 "LearnedReasons$Learned" "clauses" "[I") (by decide +kernel)) (fun _ h9 => h9) rfl dX1_add_12 ?_
    refine lv_aload_n hx hb dX1_add_15 rfl (lv_at hl 0 rfl) ?_
    refine va_get (D := D) (ci := 1) (v := .int (I 7)) (C := RX1) (T := TX1) (N := 3) hx hb hts in_X1_add_X1 hown hK hP 3 rfl rfl 0 (by decide) (hts (.fieldLink RX1 18 "LearnedReasons$Learned" "size" "I") (by decide +kernel)) (fun _ h9 => h9) rfl dX1_add_16 ?_
    refine lv_iload_n hx hb dX1_add_19 rfl (lv_at hl 1 rfl) ?_
    obtain ⟨g_6, h⟩ := gd_some h
    refine va_iast hx hb hK hP (CUW_D hq) hS 13 0 rfl rfl g_6 dX1_add_20 (fun H locs hP _ hS => ?_)
    have hP : va_P D vwCl (CUW cI cJ q I J (fu a 6 (upd (a 6) (I 7).toNatClampNeg v1)) b) H := hP
    refine lv_aload_n hx hb dX1_add_21 rfl (lv_at hl 0 rfl) ?_
    refine lv_dup hx hb dX1_add_22 rfl ?_
    refine va_get (D := D) (ci := 1) (v := .int (I 7)) (C := RX1) (T := TX1) (N := 3) hx hb hts in_X1_add_X1 hown hK hP 3 rfl rfl 0 (by decide) (hts (.fieldLink RX1 18 "LearnedReasons$Learned" "size" "I") (by decide +kernel)) (fun _ h9 => h9) rfl dX1_add_23 ?_
    refine lv_iconst (v := 1) hx hb dX1_add_26 (by decide) ?_
    refine lv_iadd hx hb dX1_add_27 ?_
    refine lv_topi (fun v_7 ev_7 => ?_)
    have h := nmI_at ev_7 h
    refine va_put (D := D) (ci := 1) (v := .int v_7) (ty := .int) (C := RX1) (T := TX1) (N := 3) hx hb hts in_X1_add_X1 tyX1 tyX1_ok nmX1 hown hK hP (CUW_D hq) hS 3 rfl rfl 0 (by decide) (hts (.fieldLink RX1 18 "LearnedReasons$Learned" "size" "I") (by decide +kernel)) (fun _ h9 => h9) rfl (by decide +kernel) rfl rfl (Nat.le_of_ble_eq_true rfl) dX1_add_28 (fun H locs hP _ hS => ?_)
    have hP : va_P D vwCl (CUW cI cJ q (fu I 7 v_7) J (fu a 6 (upd (a 6) (I 7).toNatClampNeg v1)) b) H := hP
    refine lv_iload_n hx hb dX1_add_31 rfl (lv_at hl 2 rfl) ?_
    refine lv_iload_n hx hb dX1_add_32 rfl (lv_at hl 1 rfl) ?_
    refine lv_iconst (v := (-1)) hx hb dX1_add_33 (by decide) ?_
    refine lv_ixor hx hb dX1_add_34 ?_
    refine lv_iand hx hb dX1_add_35 ?_
    refine lv_topi (fun v_8 ev_8 => ?_)
    have h := nmI_at ev_8 h
    refine lv_istore_n (lv' := [(3, .int v_8), (0, .ref (q 3)), (1, .int v1), (2, .int v2)]) hx hb dX1_add_36 rfl hl (by decide) rfl (fun ls hl => ?_)
    refine lv_iload_n hx hb dX1_add_37 rfl (lv_at hl 0 rfl) ?_
    refine lv_istore (lv' := [(4, .int v_8), (3, .int v_8), (0, .ref (q 3)), (1, .int v1), (2, .int v2)]) hx hb dX1_add_38 hl (by decide) rfl (fun ls hl => ?_)
    exact C40 F v1 v_8 v_8 v_7 (upd (a 6) (I 7).toNatClampNeg v1) (a 7) h _ _ hP hS ls (lv_sub hl [2, 3, 1, 0] rfl)
  · have h := if_f c_5 h
    have hx0 := Option.some.inj h
    rw [hQ]
    exact W.vret hx hb hr (fun t ht hW => ⟨⟨((I 7), (a 6), (a 7)), rfl, hx0, by show va_P _ _ _ t.heap; rw [ht]; exact hP⟩, hS.F ht⟩) hS.2.2 dX1_add_10
set_option maxHeartbeats 4000000 in
set_option maxRecDepth 100000 in
theorem c_X4_latest (l : Launch) (F : Nat) (v0 : Int32) (x0 : Int32) (h : f_X4_latest F v0 = some x0) : Met l yX4_latest wsX4_latest ({ frames := 0, cells := 0, slots := 0, locals := 0 }) (va_Pc [.int v0] (fun _ => True)) (va_Qi (fun (r : Int32) (u : Unit) => r = x0) (fun _ _ => True) (fun _ => False)) 0 0 (fun _ => False) := by
  refine mt_of (cc := cX4_latest) (maxL := 2) (ret := (some .int)) (by decide) rfl ?_
  intro p e s m args below meth c s₁ B0 hml hv R Q hR hQ
  obtain ⟨hargs, -⟩ := hv
  have hx := B0.exec
  have hb := B0.bytes
  have hr := B0.returns
  have hts := atoms_spec (ws := wsX4_latest) B0.pre
  have hown : s.vm.findClass RX4 = some m.cls := findClass_of_methodNamed B0.named
  have hlocks := B0.notSynchronized
  have hS : va_S (fun _ => False) s.heap s.heap [] := va_S.rf
  have hl := lv_entry ([.int v0]) (n := 2) (Nat.le_of_ble_eq_true rfl)
  rw [hargs, lg_entry_eq]
  rw [← hargs]
  generalize (lg_sl ([.int v0]) ++ List.replicate (2 - (lg_sl ([.int v0])).length) Slot.unset).toArray = ls at hl ⊢
  have hl : lv_has ls 2 [(0, .int v0)] := hl
  unfold f_X4_latest at h
  have C3 : ∀ (n3 : Nat) (v0 : Int32) (v1 : Int32), k_X4_latest_3 F n3 v0 v1 = some x0 → ∀ (H : Heap) (locs : List Loc), va_S (fun _ => False) s.heap H locs → ∀ ls : Array Slot, lv_has ls 2 [(0, .int v0), (1, .int v1)] → W p l e R s m args below meth c H locs 0 0 Q (F0 m 3 ls []) := by
    intro n3
    induction n3 with
    | zero => intro v0 v1 h; rw [k_X4_latest_3] at h; cases h
    | succ n3 ih3 =>
      intro v0 v1 h H locs hS ls hl
      rw [k_X4_latest_3] at h
      refine lv_iload_n hx hb dX4_latest_3 rfl (lv_at hl 1 rfl) ?_
      refine lv_if_lt (tgt := 26) hx hb dX4_latest_4 (by decide) (fun c_1 => ?_) (fun c_1 => ?_)
      · have h := if_t c_1 h
        refine lv_iconst (v := 0) hx hb dX4_latest_26 (by decide) ?_
        have hx0 := Option.some.inj h
        rw [hQ]
        exact W.iret (v := 0) hx hb hr (fun t ht hW => ⟨⟨0, (), rfl, hx0, trivial⟩, hS.F ht⟩) hS.2.2 dX4_latest_27
      · have h := if_f c_1 h
        refine lv_iload_n hx hb dX4_latest_7 rfl (lv_at hl 0 rfl) ?_
        refine lv_iload_n hx hb dX4_latest_8 rfl (lv_at hl 1 rfl) ?_
        refine lv_ishr hx hb dX4_latest_9 ?_
        refine lv_iconst (v := 1) hx hb dX4_latest_10 (by decide) ?_
        refine lv_iand hx hb dX4_latest_11 ?_
        refine lv_iconst (v := 1) hx hb dX4_latest_12 (by decide) ?_
        refine lv_icmp_ne (tgt := 20) hx hb dX4_latest_13 (by decide) (fun c_2 => ?_) (fun c_2 => ?_)
        · have h := if_f c_2 h
          refine lv_iinc (v := v1 + (-1)) (lv' := [(1, .int (v1 + (-1))), (0, .int v0)]) hx hb dX4_latest_20 hl (k := 1) rfl rfl (by decide) rfl (fun ls hl => ?_)
          refine lv_goto (tgt := 3) hx hb dX4_latest_23 (by decide) ?_
          exact ih3 v0 (v1 + (-1)) h _ _ hS ls (lv_sub hl [1, 0] rfl)
        · have h := if_t c_2 h
          refine lv_iconst (v := 1) hx hb dX4_latest_16 (by decide) ?_
          refine lv_iload_n hx hb dX4_latest_17 rfl (lv_at hl 1 rfl) ?_
          refine lv_ishl hx hb dX4_latest_18 ?_
          have hx0 := Option.some.inj h
          rw [hQ]
          exact W.iret (v := (1 : Int32) <<< (v1 &&& 31)) hx hb hr (fun t ht hW => ⟨⟨((1 : Int32) <<< (v1 &&& 31)), (), rfl, hx0, trivial⟩, hS.F ht⟩) hS.2.2 dX4_latest_19
  refine lv_bipush (v := 13) hx hb dX4_latest_0 (by decide) ?_
  refine lv_istore_n (lv' := [(1, .int 13), (0, .int v0)]) hx hb dX4_latest_2 rfl hl (by decide) rfl (fun ls hl => ?_)
  exact C3 F v0 13 h _ _ hS ls (lv_sub hl [1, 0] rfl)
theorem in_X4_learn_X4 : ∀ w ∈ wsX40, w ∈ wsX4_learn := by decide +kernel
set_option maxHeartbeats 4000000 in
set_option maxRecDepth 100000 in
theorem c_X4_learn (l : Launch) (D : va_G) (cI cJ : ClassId) (q : Nat → Nat) (hq : CUQ q) (F : Nat) (I : Nat → Int32) (J : Nat → Int64) (a : Nat → Nat → Int32) (b : Nat → Nat → Int64) (v1 : Int32) (x0 : Int32 × Int32 × (Nat → Int32) × (Nat → Int32)) (h : f_X4_learn F I J a b v1 = some x0) : Met l yX4_learn wsX4_learn ({ frames := 2, cells := 0, slots := 0, locals := 45 }) (CUPc D cI cJ q I J a b [.ref (q 5), .int v1]) (va_Qv (fun (u : Int32 × Int32 × (Nat → Int32) × (Nat → Int32)) => u = x0) (fun (u : Int32 × Int32 × (Nat → Int32) × (Nat → Int32)) t => va_P D vwCl (CUW cI cJ q (fu (fu I 7 u.1) 16 u.2.1) J (fu (fu a 6 u.2.2.1) 7 u.2.2.2) b) t.heap) (CUA q)) 0 0 (CUA q) := by
  refine mt_of (cc := cX4_learn) (maxL := 3) (ret := none) (by decide) rfl ?_
  intro p e s m args below meth c s₁ B0 hml hv R Q hR hQ
  obtain ⟨hargs, hP, hK, hN⟩ := hv
  have hx := B0.exec
  have hb := B0.bytes
  have hr := B0.returns
  have hts := atoms_spec (ws := wsX4_learn) B0.pre
  have hown : s.vm.findClass RX4 = some m.cls := findClass_of_methodNamed B0.named
  have hlocks := B0.notSynchronized
  have hS : va_S (CUA q) s.heap s.heap [] := va_S.rf
  have hl := lv_entry ([.ref (q 5), .int v1]) (n := 3) (Nat.le_of_ble_eq_true rfl)
  rw [hargs, lg_entry_eq]
  rw [← hargs]
  generalize (lg_sl ([.ref (q 5), .int v1]) ++ List.replicate (3 - (lg_sl ([.ref (q 5), .int v1])).length) Slot.unset).toArray = ls at hl ⊢
  have hl : lv_has ls 3 [(0, .ref (q 5)), (1, .int v1)] := hl
  unfold f_X4_learn at h
  refine lv_aload_n hx hb dX4_learn_0 rfl (lv_at hl 0 rfl) ?_
  refine va_get (D := D) (ci := 4) (v := .ref (q 3)) (C := RX4) (T := TX4) (N := 9) hx hb hts in_X4_learn_X4 hown hK hP 5 rfl rfl 2 (by decide) (hts (.fieldLink RX4 19 "LearnedReasons$Search" "learnedClauses" "LLearnedReasons$Learned;") (by decide +kernel)) (fun _ h9 => h9) rfl dX4_learn_1 ?_
  refine lv_iload_n hx hb dX4_learn_4 rfl (lv_at hl 1 rfl) ?_
  refine lv_aload_n hx hb dX4_learn_5 rfl (lv_at hl 0 rfl) ?_
  refine va_get (D := D) (ci := 4) (v := .ref (q 1)) (C := RX4) (T := TX4) (N := 9) hx hb hts in_X4_learn_X4 hown hK hP 5 rfl rfl 0 (by decide) (hts (.fieldLink RX4 9 "LearnedReasons$Search" "things" "LLearnedReasons$Things;") (by decide +kernel)) (fun _ h9 => h9) rfl dX4_learn_6 ?_
  obtain ⟨x_1, hx_1, h⟩ := ob_some h
  refine va_calli (va_runV (As := []) (rest := [.int v1, .ref (q 3)]) ⟨hx, hb, hml, hown, hts⟩ (c_X5_allNames l D cI cJ q hq F I J a b x_1 hx_1) (cwV 0 hts gX4_learn_X5_allNames rfl rfl rfl (by decide +kernel) (by rw [hR]; exact ⟨Nat.le_of_ble_eq_true rfl, Nat.le_of_ble_eq_true rfl⟩)) ⟨CUPc_blind, va_recv hK hP (ci := 5) (q0 := 1) rfl rfl, fun U hU hW => ⟨rfl, by rw [hU]; exact hP, va_K.moved hW.alike hK, va_Nw.warmM hW hN⟩⟩ rfl rfl hl.1 rfl (lv_room (Nat.le_of_ble_eq_true rfl)) dX4_learn_9 ⟨Nat.zero_le _, Nat.zero_le _⟩) hS (fun _ _ h => h) (fun _ h => h) (fun r u t H1 locs ht hvm hw hB hz1 hk1 hS => ?_)
  obtain rfl := hw.symm
  rw [ht] at hB
  have hP : va_P D vwCl (CUW cI cJ q I J a b) H1 := hB
  clear hB hz1 hk1 ht hvm
  generalize H1 = H at hP hS ⊢
  obtain ⟨x_2, hx_2, h⟩ := ob_some h
  refine va_callv (va_runV (As := [.int v1, .int x_1]) (rest := []) ⟨hx, hb, hml, hown, hts⟩ (c_X1_add l D cI cJ q hq F I J a b v1 x_1 x_2 hx_2) (cwV 2 hts gX4_learn_X1_add rfl rfl rfl (by decide +kernel) (by rw [hR]; exact ⟨Nat.le_of_ble_eq_true rfl, Nat.le_of_ble_eq_true rfl⟩)) ⟨CUPc_blind, va_recv hK hP (ci := 1) (q0 := 3) rfl rfl, fun U hU hW => ⟨rfl, by rw [hU]; exact hP, va_K.moved hW.alike hK, va_Nw.warmM hW hN⟩⟩ rfl rfl hl.1 rfl (lv_room (Nat.le_of_ble_eq_true rfl)) dX4_learn_12 ⟨Nat.zero_le _, Nat.zero_le _⟩) hS (fun _ _ h => h) (fun _ h => h) (fun u t H1 locs ht hvm hw hB hz1 hk1 hS => ?_)
  obtain rfl := hw.symm
  rw [ht] at hB
  have hP : va_P D vwCl (CUW cI cJ q (fu I 7 x_2.1) J (fu (fu a 6 x_2.2.1) 7 x_2.2.2) b) H1 := hB
  clear hB hz1 hk1 ht hvm
  generalize H1 = H at hP hS ⊢
  refine lv_iload_n hx hb dX4_learn_15 rfl (lv_at hl 1 rfl) ?_
  refine lv_iload_n hx hb dX4_learn_16 rfl (lv_at hl 1 rfl) ?_
  obtain ⟨x_3, hx_3, h⟩ := ob_some h
  refine va_calli (va_runS (As := [.int v1]) (rest := [.int v1]) ⟨hx, hb, hml, hown, hts⟩ (c_X4_latest l F v1 x_3 hx_3) (va_cwS 1 hts gX4_learn_X4_latest rfl rfl rfl (by decide +kernel) (by rw [hR]; exact ⟨Nat.le_of_ble_eq_true rfl, Nat.le_of_ble_eq_true rfl⟩)) ⟨fun _ _ _ _ h => h, fun U hU hW => ⟨rfl, trivial⟩⟩ rfl rfl hl.1 rfl (lv_room (Nat.le_of_ble_eq_true rfl)) dX4_learn_17 ⟨Nat.zero_le _, Nat.zero_le _⟩) hS (fun _ _ h => h.elim) (fun _ h => h.elim) (fun r u t H1 locs ht hvm hw hB hz1 hk1 hS => ?_)
  obtain rfl := hw.symm
  have hP := hP.kept (fun k x hx => hk1 x.1 (hP k x hx).lt (fun h => h))
  clear hB hz1 hk1 ht hvm
  generalize H1 = H at hP hS ⊢
  refine lv_iconst (v := (-1)) hx hb dX4_learn_20 (by decide) ?_
  refine lv_ixor hx hb dX4_learn_21 ?_
  refine lv_iand hx hb dX4_learn_22 ?_
  obtain ⟨x_4, hx_4, h⟩ := ob_some h
  refine va_calli (va_runS (As := [.int (v1 &&& (x_3 ^^^ (-1)))]) (rest := []) ⟨hx, hb, hml, hown, hts⟩ (c_X4_latest l F (v1 &&& (x_3 ^^^ (-1))) x_4 hx_4) (va_cwS 1 hts gX4_learn_X4_latest rfl rfl rfl (by decide +kernel) (by rw [hR]; exact ⟨Nat.le_of_ble_eq_true rfl, Nat.le_of_ble_eq_true rfl⟩)) ⟨fun _ _ _ _ h => h, fun U hU hW => ⟨rfl, trivial⟩⟩ rfl rfl hl.1 rfl (lv_room (Nat.le_of_ble_eq_true rfl)) dX4_learn_23 ⟨Nat.zero_le _, Nat.zero_le _⟩) hS (fun _ _ h => h.elim) (fun _ h => h.elim) (fun r u t H1 locs ht hvm hw hB hz1 hk1 hS => ?_)
  obtain rfl := hw.symm
  have hP := hP.kept (fun k x hx => hk1 x.1 (hP k x hx).lt (fun h => h))
  clear hB hz1 hk1 ht hvm
  generalize H1 = H at hP hS ⊢
  refine lv_istore_n (lv' := [(2, .int x_4), (0, .ref (q 5)), (1, .int v1)]) hx hb dX4_learn_26 rfl hl (by decide) rfl (fun ls hl => ?_)
  refine lv_aload_n hx hb dX4_learn_27 rfl (lv_at hl 1 rfl) ?_
  refine lv_dup hx hb dX4_learn_28 rfl ?_
  refine va_get (D := D) (ci := 4) (v := .int (I 16)) (C := RX4) (T := TX4) (N := 9) hx hb hts in_X4_learn_X4 hown hK hP 5 rfl rfl 8 (by decide) (hts (.fieldLink RX4 31 "LearnedReasons$Search" "choices" "I") (by decide +kernel)) (fun _ h9 => h9) rfl dX4_learn_29 ?_
  refine lv_iload_n hx hb dX4_learn_32 rfl (lv_at hl 0 rfl) ?_
  refine lv_if_ne (tgt := 40) hx hb dX4_learn_33 (by decide) (fun c_5 => ?_) (fun c_5 => ?_)
  · have h := if_f c_5 h
    refine lv_iconst (v := 2) hx hb dX4_learn_40 (by decide) ?_
    refine lv_iload_n hx hb dX4_learn_41 rfl (lv_at hl 0 rfl) ?_
    refine lv_imul hx hb dX4_learn_42 ?_
    refine lv_iconst (v := 1) hx hb dX4_learn_43 (by decide) ?_
    refine lv_isub hx hb dX4_learn_44 ?_
    refine lv_iand hx hb dX4_learn_45 ?_
    refine lv_topi (fun v_6 ev_6 => ?_)
    have h := nmI_at ev_6 h
    refine va_put (D := D) (ci := 4) (v := .int v_6) (ty := .int) (C := RX4) (T := TX4) (N := 9) hx hb hts in_X4_learn_X4 tyX4 tyX4_ok nmX4 hown hK hP (CUW_D hq) hS 5 rfl rfl 8 (by decide) (hts (.fieldLink RX4 31 "LearnedReasons$Search" "choices" "I") (by decide +kernel)) (fun _ h9 => h9) rfl (by decide +kernel) rfl rfl (Nat.le_of_ble_eq_true rfl) dX4_learn_46 (fun H locs hP _ hS => ?_)
    have hP : va_P D vwCl (CUW cI cJ q (fu (fu I 7 x_2.1) 16 v_6) J (fu (fu a 6 x_2.2.1) 7 x_2.2.2) b) H := hP
    have hx0 := Option.some.inj h
    rw [hQ]
    exact W.vret hx hb hr (fun t ht hW => ⟨⟨(x_2.1, v_6, x_2.2.1, x_2.2.2), rfl, hx0, by show va_P _ _ _ t.heap; rw [ht]; exact hP⟩, hS.F ht⟩) hS.2.2 dX4_learn_49
  · have h := if_t c_5 h
    refine lv_iconst (v := 0) hx hb dX4_learn_36 (by decide) ?_
    refine lv_goto (tgt := 45) hx hb dX4_learn_37 (by decide) ?_
    refine lv_iand hx hb dX4_learn_45 ?_
    refine lv_topi (fun v_7 ev_7 => ?_)
    have h := nmI_at ev_7 h
    refine va_put (D := D) (ci := 4) (v := .int v_7) (ty := .int) (C := RX4) (T := TX4) (N := 9) hx hb hts in_X4_learn_X4 tyX4 tyX4_ok nmX4 hown hK hP (CUW_D hq) hS 5 rfl rfl 8 (by decide) (hts (.fieldLink RX4 31 "LearnedReasons$Search" "choices" "I") (by decide +kernel)) (fun _ h9 => h9) rfl (by decide +kernel) rfl rfl (Nat.le_of_ble_eq_true rfl) dX4_learn_46 (fun H locs hP _ hS => ?_)
    have hP : va_P D vwCl (CUW cI cJ q (fu (fu I 7 x_2.1) 16 v_7) J (fu (fu a 6 x_2.2.1) 7 x_2.2.2) b) H := hP
    have hx0 := Option.some.inj h
    rw [hQ]
    exact W.vret hx hb hr (fun t ht hW => ⟨⟨(x_2.1, v_7, x_2.2.1, x_2.2.2), rfl, hx0, by show va_P _ _ _ t.heap; rw [ht]; exact hP⟩, hS.F ht⟩) hS.2.2 dX4_learn_49
theorem in_X4_run_X4 : ∀ w ∈ wsX40, w ∈ wsX4_run := by decide +kernel
set_option maxHeartbeats 4000000 in
set_option maxRecDepth 100000 in
theorem c_X4_run (l : Launch) (D : va_G) (cI cJ : ClassId) (q : Nat → Nat) (hq : CUQ q) (F : Nat) (I : Nat → Int32) (J : Nat → Int64) (a : Nat → Nat → Int32) (b : Nat → Nat → Int64) (x0 : Int32 × Int32 × Int32 × Int32 × Int32 × Int32 × Int32 × Int32 × Int32 × Int32 × (Nat → Int32) × (Nat → Int32)) (h : f_X4_run F I J a b = some x0) : Met l yX4_run wsX4_run ({ frames := 6, cells := 0, slots := 0, locals := 143 }) (CUPc D cI cJ q I J a b [.ref (q 5)]) (va_Qv (fun (u : Int32 × Int32 × Int32 × Int32 × Int32 × Int32 × Int32 × Int32 × Int32 × Int32 × (Nat → Int32) × (Nat → Int32)) => u = x0) (fun (u : Int32 × Int32 × Int32 × Int32 × Int32 × Int32 × Int32 × Int32 × Int32 × Int32 × (Nat → Int32) × (Nat → Int32)) t => va_P D vwCl (CUW cI cJ q (fu (fu (fu (fu (fu (fu (fu (fu (fu (fu I 7 u.1) 8 u.2.1) 9 u.2.2.1) 10 u.2.2.2.1) 11 u.2.2.2.2.1) 12 u.2.2.2.2.2.1) 13 u.2.2.2.2.2.2.1) 14 u.2.2.2.2.2.2.2.1) 15 u.2.2.2.2.2.2.2.2.1) 16 u.2.2.2.2.2.2.2.2.2.1) J (fu (fu a 6 u.2.2.2.2.2.2.2.2.2.2.1) 7 u.2.2.2.2.2.2.2.2.2.2.2) b) t.heap) (CUA q)) 0 0 (CUA q) := by
  refine mt_of (cc := cX4_run) (maxL := 2) (ret := none) (by decide) rfl ?_
  intro p e s m args below meth c s₁ B0 hml hv R Q hR hQ
  obtain ⟨hargs, hP, hK, hN⟩ := hv
  have hx := B0.exec
  have hb := B0.bytes
  have hr := B0.returns
  have hts := atoms_spec (ws := wsX4_run) B0.pre
  have hown : s.vm.findClass RX4 = some m.cls := findClass_of_methodNamed B0.named
  have hlocks := B0.notSynchronized
  have hS : va_S (CUA q) s.heap s.heap [] := va_S.rf
  have hl := lv_entry ([.ref (q 5)]) (n := 2) (Nat.le_of_ble_eq_true rfl)
  rw [hargs, lg_entry_eq]
  rw [← hargs]
  generalize (lg_sl ([.ref (q 5)]) ++ List.replicate (2 - (lg_sl ([.ref (q 5)])).length) Slot.unset).toArray = ls at hl ⊢
  have hl : lv_has ls 2 [(0, .ref (q 5))] := hl
  unfold f_X4_run at h
  have C14 : ∀ (n14 : Nat) (v1 : Int32) (I7 : Int32) (I8 : Int32) (I9 : Int32) (I10 : Int32) (I11 : Int32) (I12 : Int32) (I13 : Int32) (I14 : Int32) (I15 : Int32) (I16 : Int32) (a6 : Nat → Int32) (a7 : Nat → Int32), k_X4_run_14 F I J a b n14 v1 I7 I8 I9 I10 I11 I12 I13 I14 I15 I16 a6 a7 = some x0 → ∀ (H : Heap) (locs : List Loc), va_P D vwCl (CUW cI cJ q (fu (fu (fu (fu (fu (fu (fu (fu (fu (fu I 7 I7) 8 I8) 9 I9) 10 I10) 11 I11) 12 I12) 13 I13) 14 I14) 15 I15) 16 I16) J (fu (fu a 6 a6) 7 a7) b) H → va_S (CUA q) s.heap H locs → ∀ ls : Array Slot, lv_has ls 2 [(0, .ref (q 5)), (1, .int v1)] → W p l e R s m args below meth c H locs 0 0 Q (F0 m 14 ls []) := by
    intro n14
    induction n14 with
    | zero => intro v1 I7 I8 I9 I10 I11 I12 I13 I14 I15 I16 a6 a7 h; rw [k_X4_run_14] at h; cases h
    | succ n14 ih14 =>
      intro v1 I7 I8 I9 I10 I11 I12 I13 I14 I15 I16 a6 a7 h H locs hP hS ls hl
      rw [k_X4_run_14] at h
      have C73 : ∀ (v1 : Int32) (s0 : Int32) (I7 : Int32) (I8 : Int32) (I9 : Int32) (I10 : Int32) (I11 : Int32) (I12 : Int32) (I13 : Int32) (I14 : Int32) (I15 : Int32) (I16 : Int32) (a6 : Nat → Int32) (a7 : Nat → Int32), k_X4_run_73 F I J a b (k_X4_run_14 F I J a b n14) v1 s0 I7 I8 I9 I10 I11 I12 I13 I14 I15 I16 a6 a7 = some x0 → ∀ (H : Heap) (locs : List Loc), va_P D vwCl (CUW cI cJ q (fu (fu (fu (fu (fu (fu (fu (fu (fu (fu I 7 I7) 8 I8) 9 I9) 10 I10) 11 I11) 12 I12) 13 I13) 14 I14) 15 I15) 16 I16) J (fu (fu a 6 a6) 7 a7) b) H → va_S (CUA q) s.heap H locs → ∀ ls : Array Slot, lv_has ls 2 [(0, .ref (q 5)), (1, .int v1)] → W p l e R s m args below meth c H locs 0 0 Q (F0 m 73 ls [.int s0, .ref (q 5)]) := by
        intro v1 s0 I7 I8 I9 I10 I11 I12 I13 I14 I15 I16 a6 a7 h H locs hP hS ls hl
        rw [k_X4_run_73] at h
        obtain ⟨z_1, h⟩ := gz_some h
        refine va_put (D := D) (ci := 4) (v := .int s0) (ty := .boolean) (C := RX4) (T := TX4) (N := 9) hx hb hts in_X4_run_X4 tyX4 tyX4_ok nmX4 hown hK hP (CUW_D hq) hS 5 rfl rfl 3 (by decide) (hts (.fieldLink RX4 23 "LearnedReasons$Search" "isDone" "Z") (by decide +kernel)) (fun _ h9 => h9) rfl (by decide +kernel) z_1.1 z_1.2 (Nat.le_of_ble_eq_true rfl) dX4_run_73 (fun H locs hP _ hS => ?_)
        have hP : va_P D vwCl (CUW cI cJ q (fu (fu (fu (fu (fu (fu (fu (fu (fu (fu I 7 I7) 8 I8) 9 I9) 10 I10) 11 s0) 12 I12) 13 I13) 14 I14) 15 I15) 16 I16) J (fu (fu a 6 a6) 7 a7) b) H := hP
        refine lv_aload_n hx hb dX4_run_76 rfl (lv_at hl 0 rfl) ?_
        refine va_get (D := D) (ci := 4) (v := .int s0) (C := RX4) (T := TX4) (N := 9) hx hb hts in_X4_run_X4 hown hK hP 5 rfl rfl 3 (by decide) (hts (.fieldLink RX4 23 "LearnedReasons$Search" "isDone" "Z") (by decide +kernel)) (fun _ h9 => h9) rfl dX4_run_77 ?_
        refine lv_if_ne (tgt := 91) hx hb dX4_run_80 (by decide) (fun c_2 => ?_) (fun c_2 => ?_)
        · have h := if_f c_2 h
          refine lv_iinc (v := v1 + 1) (lv' := [(1, .int (v1 + 1)), (0, .ref (q 5))]) hx hb dX4_run_91 hl (k := 1) rfl rfl (by decide) rfl (fun ls hl => ?_)
          refine lv_goto (tgt := 14) hx hb dX4_run_94 (by decide) ?_
          exact ih14 (v1 + 1) I7 I8 I9 I10 s0 I12 I13 I14 I15 I16 a6 a7 h _ _ hP hS ls (lv_sub hl [1, 0] rfl)
        · have h := if_t c_2 h
          refine lv_aload_n hx hb dX4_run_83 rfl (lv_at hl 0 rfl) ?_
          refine lv_aload_n hx hb dX4_run_84 rfl (lv_at hl 0 rfl) ?_
          obtain ⟨x_3, hx_3, h⟩ := ob_some h
          refine va_calli (va_runV (As := []) (rest := [.ref (q 5)]) ⟨hx, hb, hml, hown, hts⟩ (c_X4_reason l D cI cJ q hq F (fu (fu (fu (fu (fu (fu (fu (fu (fu (fu I 7 I7) 8 I8) 9 I9) 10 I10) 11 s0) 12 I12) 13 I13) 14 I14) 15 I15) 16 I16) J (fu (fu a 6 a6) 7 a7) b x_3 hx_3) (cwV 0 hts gX4_run_X4_reason rfl rfl rfl (by decide +kernel) (by rw [hR]; exact ⟨Nat.le_of_ble_eq_true rfl, Nat.le_of_ble_eq_true rfl⟩)) ⟨CUPc_blind, va_recv hK hP (ci := 4) (q0 := 5) rfl rfl, fun U hU hW => ⟨rfl, by rw [hU]; exact hP, va_K.moved hW.alike hK, va_Nw.warmM hW hN⟩⟩ rfl rfl hl.1 rfl (lv_room (Nat.le_of_ble_eq_true rfl)) dX4_run_85 ⟨Nat.zero_le _, Nat.zero_le _⟩) hS (fun _ _ h => h) (fun _ h => h) (fun r u t H1 locs ht hvm hw hB hz1 hk1 hS => ?_)
          obtain ⟨rfl, rfl⟩ := hw
          rw [ht] at hB
          have hP : va_P D vwCl (CUW cI cJ q (fu (fu (fu (fu (fu (fu (fu (fu (fu (fu I 7 I7) 8 x_3.2.1) 9 x_3.2.2.1) 10 x_3.2.2.2) 11 s0) 12 I12) 13 I13) 14 I14) 15 I15) 16 I16) J (fu (fu a 6 a6) 7 a7) b) H1 := hB
          clear hB hz1 hk1 ht hvm
          generalize H1 = H at hP hS ⊢
          obtain ⟨x_4, hx_4, h⟩ := ob_some h
          refine va_callv (va_runV (As := [.int x_3.1]) (rest := []) ⟨hx, hb, hml, hown, hts⟩ (c_X4_learn l D cI cJ q hq F (fu (fu (fu (fu (fu (fu (fu (fu (fu (fu I 7 I7) 8 x_3.2.1) 9 x_3.2.2.1) 10 x_3.2.2.2) 11 s0) 12 I12) 13 I13) 14 I14) 15 I15) 16 I16) J (fu (fu a 6 a6) 7 a7) b x_3.1 x_4 hx_4) (cwV 1 hts gX4_run_X4_learn rfl rfl rfl (by decide +kernel) (by rw [hR]; exact ⟨Nat.le_of_ble_eq_true rfl, Nat.le_of_ble_eq_true rfl⟩)) ⟨CUPc_blind, va_recv hK hP (ci := 4) (q0 := 5) rfl rfl, fun U hU hW => ⟨rfl, by rw [hU]; exact hP, va_K.moved hW.alike hK, va_Nw.warmM hW hN⟩⟩ rfl rfl hl.1 rfl (lv_room (Nat.le_of_ble_eq_true rfl)) dX4_run_88 ⟨Nat.zero_le _, Nat.zero_le _⟩) hS (fun _ _ h => h) (fun _ h => h) (fun u t H1 locs ht hvm hw hB hz1 hk1 hS => ?_)
          obtain rfl := hw.symm
          rw [ht] at hB
          have hP : va_P D vwCl (CUW cI cJ q (fu (fu (fu (fu (fu (fu (fu (fu (fu (fu I 7 x_4.1) 8 x_3.2.1) 9 x_3.2.2.1) 10 x_3.2.2.2) 11 s0) 12 I12) 13 I13) 14 I14) 15 I15) 16 x_4.2.1) J (fu (fu a 6 x_4.2.2.1) 7 x_4.2.2.2) b) H1 := hB
          clear hB hz1 hk1 ht hvm
          generalize H1 = H at hP hS ⊢
          refine lv_iinc (v := v1 + 1) (lv' := [(1, .int (v1 + 1)), (0, .ref (q 5))]) hx hb dX4_run_91 hl (k := 1) rfl rfl (by decide) rfl (fun ls hl => ?_)
          refine lv_goto (tgt := 14) hx hb dX4_run_94 (by decide) ?_
          exact ih14 (v1 + 1) x_4.1 x_3.2.1 x_3.2.2.1 x_3.2.2.2 s0 I12 I13 I14 I15 x_4.2.1 x_4.2.2.1 x_4.2.2.2 h _ _ hP hS ls (lv_sub hl [1, 0] rfl)
      refine lv_iload_n hx hb dX4_run_14 rfl (lv_at hl 1 rfl) ?_
      refine lv_ldc (v := 1000000) hx hb hown (hts (.constant RX4 30 1000000) (by decide +kernel)) dX4_run_15 ?_
      refine lv_icmp_ge (tgt := 97) hx hb dX4_run_17 (by decide) (fun c_5 => ?_) (fun c_5 => ?_)
      · have h := if_t c_5 h
        have hx0 := Option.some.inj h
        rw [hQ]
        exact W.vret hx hb hr (fun t ht hW => ⟨⟨(I7, I8, I9, I10, I11, I12, I13, I14, I15, I16, a6, a7), rfl, hx0, by show va_P _ _ _ t.heap; rw [ht]; exact hP⟩, hS.F ht⟩) hS.2.2 dX4_run_97
      · have h := if_f c_5 h
        refine lv_aload_n hx hb dX4_run_20 rfl (lv_at hl 0 rfl) ?_
        refine va_get (D := D) (ci := 4) (v := .int I11) (C := RX4) (T := TX4) (N := 9) hx hb hts in_X4_run_X4 hown hK hP 5 rfl rfl 3 (by decide) (hts (.fieldLink RX4 23 "LearnedReasons$Search" "isDone" "Z") (by decide +kernel)) (fun _ h9 => h9) rfl dX4_run_21 ?_
        refine lv_if_ne (tgt := 97) hx hb dX4_run_24 (by decide) (fun c_6 => ?_) (fun c_6 => ?_)
        · have h := if_f c_6 h
          have hx0 := Option.some.inj h
          rw [hQ]
          exact W.vret hx hb hr (fun t ht hW => ⟨⟨(I7, I8, I9, I10, I11, I12, I13, I14, I15, I16, a6, a7), rfl, hx0, by show va_P _ _ _ t.heap; rw [ht]; exact hP⟩, hS.F ht⟩) hS.2.2 dX4_run_97
        · have h := if_t c_6 h
          refine lv_aload_n hx hb dX4_run_27 rfl (lv_at hl 0 rfl) ?_
          refine va_get (D := D) (ci := 4) (v := .ref (q 4)) (C := RX4) (T := TX4) (N := 9) hx hb hts in_X4_run_X4 hown hK hP 5 rfl rfl 1 (by decide) (hts (.fieldLink RX4 15 "LearnedReasons$Search" "atOnce" "LLearnedReasons$AtOnce;") (by decide +kernel)) (fun _ h9 => h9) rfl dX4_run_28 ?_
          refine lv_iconst (v := 0) hx hb dX4_run_31 (by decide) ?_
          refine lv_aload_n hx hb dX4_run_32 rfl (lv_at hl 0 rfl) ?_
          refine va_get (D := D) (ci := 4) (v := .int I16) (C := RX4) (T := TX4) (N := 9) hx hb hts in_X4_run_X4 hown hK hP 5 rfl rfl 8 (by decide) (hts (.fieldLink RX4 31 "LearnedReasons$Search" "choices" "I") (by decide +kernel)) (fun _ h9 => h9) rfl dX4_run_33 ?_
          refine lv_iconst (v := 2) hx hb dX4_run_36 (by decide) ?_
          obtain ⟨x_7, hx_7, h⟩ := ob_some h
          refine va_calli (va_runV (As := [.int 0, .int I16, .int 2]) (rest := []) ⟨hx, hb, hml, hown, hts⟩ (c_X0_clashes l D cI cJ q hq F (fu (fu (fu (fu (fu (fu (fu (fu (fu (fu I 7 I7) 8 I8) 9 I9) 10 I10) 11 I11) 12 I12) 13 I13) 14 I14) 15 I15) 16 I16) J (fu (fu a 6 a6) 7 a7) b 0 I16 2 x_7 hx_7) (cwV 3 hts gX4_run_X0_clashes rfl rfl rfl (by decide +kernel) (by rw [hR]; exact ⟨Nat.le_of_ble_eq_true rfl, Nat.le_of_ble_eq_true rfl⟩)) ⟨CUPc_blind, va_recv hK hP (ci := 0) (q0 := 4) rfl rfl, fun U hU hW => ⟨rfl, by rw [hU]; exact hP, va_K.moved hW.alike hK, va_Nw.warmM hW hN⟩⟩ rfl rfl hl.1 rfl (lv_room (Nat.le_of_ble_eq_true rfl)) dX4_run_37 ⟨Nat.zero_le _, Nat.zero_le _⟩) hS (fun _ _ h => h) (fun _ h => h) (fun r u t H1 locs ht hvm hw hB hz1 hk1 hS => ?_)
          obtain ⟨rfl, rfl⟩ := hw
          rw [ht] at hB
          have hP : va_P D vwCl (CUW cI cJ q (fu (fu (fu (fu (fu (fu (fu (fu (fu (fu I 7 I7) 8 x_7.2.1) 9 x_7.2.2.1) 10 x_7.2.2.2) 11 I11) 12 I12) 13 I13) 14 I14) 15 I15) 16 I16) J (fu (fu a 6 a6) 7 a7) b) H1 := hB
          clear hB hz1 hk1 ht hvm
          generalize H1 = H at hP hS ⊢
          refine lv_if_ne (tgt := 50) hx hb dX4_run_40 (by decide) (fun c_8 => ?_) (fun c_8 => ?_)
          · have h := if_f c_8 h
            refine lv_aload_n hx hb dX4_run_50 rfl (lv_at hl 0 rfl) ?_
            refine lv_dup hx hb dX4_run_51 rfl ?_
            refine va_get (D := D) (ci := 4) (v := .int I14) (C := RX4) (T := TX4) (N := 9) hx hb hts in_X4_run_X4 hown hK hP 5 rfl rfl 6 (by decide) (hts (.fieldLink RX4 44 "LearnedReasons$Search" "conflicts" "I") (by decide +kernel)) (fun _ h9 => h9) rfl dX4_run_52 ?_
            refine lv_iconst (v := 1) hx hb dX4_run_55 (by decide) ?_
            refine lv_iadd hx hb dX4_run_56 ?_
            refine lv_topi (fun v_9 ev_9 => ?_)
            have h := nmI_at ev_9 h
            refine va_put (D := D) (ci := 4) (v := .int v_9) (ty := .int) (C := RX4) (T := TX4) (N := 9) hx hb hts in_X4_run_X4 tyX4 tyX4_ok nmX4 hown hK hP (CUW_D hq) hS 5 rfl rfl 6 (by decide) (hts (.fieldLink RX4 44 "LearnedReasons$Search" "conflicts" "I") (by decide +kernel)) (fun _ h9 => h9) rfl (by decide +kernel) rfl rfl (Nat.le_of_ble_eq_true rfl) dX4_run_57 (fun H locs hP _ hS => ?_)
            have hP : va_P D vwCl (CUW cI cJ q (fu (fu (fu (fu (fu (fu (fu (fu (fu (fu I 7 I7) 8 x_7.2.1) 9 x_7.2.2.1) 10 x_7.2.2.2) 11 I11) 12 I12) 13 I13) 14 v_9) 15 I15) 16 I16) J (fu (fu a 6 a6) 7 a7) b) H := hP
            refine lv_aload_n hx hb dX4_run_60 rfl (lv_at hl 0 rfl) ?_
            refine lv_aload_n hx hb dX4_run_61 rfl (lv_at hl 0 rfl) ?_
            refine va_get (D := D) (ci := 4) (v := .int I16) (C := RX4) (T := TX4) (N := 9) hx hb hts in_X4_run_X4 hown hK hP 5 rfl rfl 8 (by decide) (hts (.fieldLink RX4 31 "LearnedReasons$Search" "choices" "I") (by decide +kernel)) (fun _ h9 => h9) rfl dX4_run_62 ?_
            refine lv_if_ne (tgt := 72) hx hb dX4_run_65 (by decide) (fun c_10 => ?_) (fun c_10 => ?_)
            · have h := if_f c_10 h
              refine lv_iconst (v := 0) hx hb dX4_run_72 (by decide) ?_
              exact C73 v1 0 I7 x_7.2.1 x_7.2.2.1 x_7.2.2.2 I11 I12 I13 v_9 I15 I16 a6 a7 h _ _ hP hS ls (lv_sub hl [0, 1] rfl)
            · have h := if_t c_10 h
              refine lv_iconst (v := 1) hx hb dX4_run_68 (by decide) ?_
              refine lv_goto (tgt := 73) hx hb dX4_run_69 (by decide) ?_
              exact C73 v1 1 I7 x_7.2.1 x_7.2.2.1 x_7.2.2.2 I11 I12 I13 v_9 I15 I16 a6 a7 h _ _ hP hS ls (lv_sub hl [0, 1] rfl)
          · have h := if_t c_8 h
            refine lv_aload_n hx hb dX4_run_43 rfl (lv_at hl 0 rfl) ?_
            obtain ⟨x_11, hx_11, h⟩ := ob_some h
            refine va_callv (va_runV (As := []) (rest := []) ⟨hx, hb, hml, hown, hts⟩ (c_X4_choose l D cI cJ q hq F (fu (fu (fu (fu (fu (fu (fu (fu (fu (fu I 7 I7) 8 x_7.2.1) 9 x_7.2.2.1) 10 x_7.2.2.2) 11 I11) 12 I12) 13 I13) 14 I14) 15 I15) 16 I16) J (fu (fu a 6 a6) 7 a7) b x_11 hx_11) (cwV 0 hts gX4_run_X4_choose rfl rfl rfl (by decide +kernel) (by rw [hR]; exact ⟨Nat.le_of_ble_eq_true rfl, Nat.le_of_ble_eq_true rfl⟩)) ⟨CUPc_blind, va_recv hK hP (ci := 4) (q0 := 5) rfl rfl, fun U hU hW => ⟨rfl, by rw [hU]; exact hP, va_K.moved hW.alike hK, va_Nw.warmM hW hN⟩⟩ rfl rfl hl.1 rfl (lv_room (Nat.le_of_ble_eq_true rfl)) dX4_run_44 ⟨Nat.zero_le _, Nat.zero_le _⟩) hS (fun _ _ h => h) (fun _ h => h) (fun u t H1 locs ht hvm hw hB hz1 hk1 hS => ?_)
            obtain rfl := hw.symm
            rw [ht] at hB
            have hP : va_P D vwCl (CUW cI cJ q (fu (fu (fu (fu (fu (fu (fu (fu (fu (fu I 7 I7) 8 x_7.2.1) 9 x_7.2.2.1) 10 x_7.2.2.2) 11 x_11.1) 12 x_11.2.1) 13 x_11.2.2.1) 14 I14) 15 x_11.2.2.2.1) 16 x_11.2.2.2.2) J (fu (fu a 6 a6) 7 a7) b) H1 := hB
            clear hB hz1 hk1 ht hvm
            generalize H1 = H at hP hS ⊢
            refine lv_goto (tgt := 91) hx hb dX4_run_47 (by decide) ?_
            refine lv_iinc (v := v1 + 1) (lv' := [(1, .int (v1 + 1)), (0, .ref (q 5))]) hx hb dX4_run_91 hl (k := 1) rfl rfl (by decide) rfl (fun ls hl => ?_)
            refine lv_goto (tgt := 14) hx hb dX4_run_94 (by decide) ?_
            exact ih14 (v1 + 1) I7 x_7.2.1 x_7.2.2.1 x_7.2.2.2 x_11.1 x_11.2.1 x_11.2.2.1 I14 x_11.2.2.2.1 x_11.2.2.2.2 a6 a7 h _ _ hP hS ls (lv_sub hl [1, 0] rfl)
  refine lv_aload_n hx hb dX4_run_0 rfl (lv_at hl 0 rfl) ?_
  refine va_get (D := D) (ci := 4) (v := .int (I 11)) (C := RX4) (T := TX4) (N := 9) hx hb hts in_X4_run_X4 hown hK hP 5 rfl rfl 3 (by decide) (hts (.fieldLink RX4 23 "LearnedReasons$Search" "isDone" "Z") (by decide +kernel)) (fun _ h9 => h9) rfl dX4_run_1 ?_
  refine lv_if_eq (tgt := 8) hx hb dX4_run_4 (by decide) (fun c_12 => ?_) (fun c_12 => ?_)
  · have h := if_t c_12 h
    refine lv_aload_n hx hb dX4_run_8 rfl (lv_at hl 0 rfl) ?_
    obtain ⟨x_13, hx_13, h⟩ := ob_some h
    refine va_callv (va_runV (As := []) (rest := []) ⟨hx, hb, hml, hown, hts⟩ (c_X4_start l D cI cJ q hq F I J a b x_13 hx_13) (cwV 0 hts gX4_run_X4_start rfl rfl rfl (by decide +kernel) (by rw [hR]; exact ⟨Nat.le_of_ble_eq_true rfl, Nat.le_of_ble_eq_true rfl⟩)) ⟨CUPc_blind, va_recv hK hP (ci := 4) (q0 := 5) rfl rfl, fun U hU hW => ⟨rfl, by rw [hU]; exact hP, va_K.moved hW.alike hK, va_Nw.warmM hW hN⟩⟩ rfl rfl hl.1 rfl (lv_room (Nat.le_of_ble_eq_true rfl)) dX4_run_9 ⟨Nat.zero_le _, Nat.zero_le _⟩) hS (fun _ _ h => h) (fun _ h => h) (fun u t H1 locs ht hvm hw hB hz1 hk1 hS => ?_)
    obtain rfl := hw.symm
    rw [ht] at hB
    have hP : va_P D vwCl (CUW cI cJ q (fu (fu (fu (fu (fu (fu I 7 x_13.1) 12 x_13.2.1) 13 x_13.2.2.1) 14 x_13.2.2.2.1) 15 x_13.2.2.2.2.1) 16 x_13.2.2.2.2.2.1) J (fu a 7 x_13.2.2.2.2.2.2) b) H1 := hB
    clear hB hz1 hk1 ht hvm
    generalize H1 = H at hP hS ⊢
    refine lv_iconst (v := 0) hx hb dX4_run_12 (by decide) ?_
    refine lv_istore_n (lv' := [(1, .int 0), (0, .ref (q 5))]) hx hb dX4_run_13 rfl hl (by decide) rfl (fun ls hl => ?_)
    exact C14 F 0 x_13.1 (I 8) (I 9) (I 10) (I 11) x_13.2.1 x_13.2.2.1 x_13.2.2.2.1 x_13.2.2.2.2.1 x_13.2.2.2.2.2.1 (a 6) x_13.2.2.2.2.2.2 h _ _ hP hS ls (lv_sub hl [1, 0] rfl)
  · have h := if_f c_12 h
    have hx0 := Option.some.inj h
    rw [hQ]
    exact W.vret hx hb hr (fun t ht hW => ⟨⟨((I 7), (I 8), (I 9), (I 10), (I 11), (I 12), (I 13), (I 14), (I 15), (I 16), (a 6), (a 7)), rfl, hx0, by show va_P _ _ _ t.heap; rw [ht]; exact hP⟩, hS.F ht⟩) hS.2.2 dX4_run_7
theorem in_X4_hasModel_X4 : ∀ w ∈ wsX40, w ∈ wsX4_hasModel := by decide +kernel
set_option maxHeartbeats 4000000 in
set_option maxRecDepth 100000 in
theorem c_X4_hasModel (l : Launch) (D : va_G) (cI cJ : ClassId) (q : Nat → Nat) (hq : CUQ q) (F : Nat) (I : Nat → Int32) (J : Nat → Int64) (a : Nat → Nat → Int32) (b : Nat → Nat → Int64) (x0 : Int32) (h : f_X4_hasModel F I J a b = some x0) : Met l yX4_hasModel wsX4_hasModel ({ frames := 0, cells := 0, slots := 0, locals := 0 }) (CUPc D cI cJ q I J a b [.ref (q 5)]) (va_Qi (fun (r : Int32) (u : Unit) => r = x0) (fun (u : Unit) t => va_P D vwCl (CUW cI cJ q I J a b) t.heap) (CUA q)) 0 0 (CUA q) := by
  refine mt_of (cc := cX4_hasModel) (maxL := 1) (ret := (some .boolean)) (by decide) rfl ?_
  intro p e s m args below meth c s₁ B0 hml hv R Q hR hQ
  obtain ⟨hargs, hP, hK, hN⟩ := hv
  have hx := B0.exec
  have hb := B0.bytes
  have hr := B0.returns
  have hts := atoms_spec (ws := wsX4_hasModel) B0.pre
  have hown : s.vm.findClass RX4 = some m.cls := findClass_of_methodNamed B0.named
  have hlocks := B0.notSynchronized
  have hS : va_S (CUA q) s.heap s.heap [] := va_S.rf
  have hl := lv_entry ([.ref (q 5)]) (n := 1) (Nat.le_of_ble_eq_true rfl)
  rw [hargs, lg_entry_eq]
  rw [← hargs]
  generalize (lg_sl ([.ref (q 5)]) ++ List.replicate (1 - (lg_sl ([.ref (q 5)])).length) Slot.unset).toArray = ls at hl ⊢
  have hl : lv_has ls 1 [(0, .ref (q 5))] := hl
  unfold f_X4_hasModel at h
  refine lv_aload_n hx hb dX4_hasModel_0 rfl (lv_at hl 0 rfl) ?_
  refine va_get (D := D) (ci := 4) (v := .int (I 12)) (C := RX4) (T := TX4) (N := 9) hx hb hts in_X4_hasModel_X4 hown hK hP 5 rfl rfl 4 (by decide) (hts (.fieldLink RX4 55 "LearnedReasons$Search" "found" "Z") (by decide +kernel)) (fun _ h9 => h9) rfl dX4_hasModel_1 ?_
  obtain ⟨z_1, h⟩ := gz_some h
  have hx0 := Option.some.inj h
  rw [hQ]
  exact W.zret (v := I 12) hx hb hr (z_1.1) (fun t ht hW => ⟨⟨(I 12), (), rfl, hx0, by show va_P _ _ _ t.heap; rw [ht]; exact hP⟩, hS.F ht⟩) hS.2.2 dX4_hasModel_4
theorem in_X6_search_X6 : ∀ w ∈ wsX60, w ∈ wsX6_search := by decide +kernel
set_option maxHeartbeats 4000000 in
set_option maxRecDepth 100000 in
theorem c_X6_search (l : Launch) (D : va_G) (cI cJ : ClassId) (q : Nat → Nat) (hq : CUQ q) (F : Nat) (I : Nat → Int32) (J : Nat → Int64) (a : Nat → Nat → Int32) (b : Nat → Nat → Int64) (x0 : Int32 × Int32 × Int32 × Int32 × Int32 × Int32 × Int32 × Int32 × Int32 × Int32 × Int32 × (Nat → Int32) × (Nat → Int32)) (h : f_X6_search F I J a b = some x0) : Met l yX6_search wsX6_search ({ frames := 7, cells := 0, slots := 0, locals := 164 }) (CUPc D cI cJ q I J a b [.ref (q 0)]) (va_Qi (fun (r : Int32) (u : Int32 × Int32 × Int32 × Int32 × Int32 × Int32 × Int32 × Int32 × Int32 × Int32 × (Nat → Int32) × (Nat → Int32)) => r = x0.1 ∧ u = x0.2) (fun (u : Int32 × Int32 × Int32 × Int32 × Int32 × Int32 × Int32 × Int32 × Int32 × Int32 × (Nat → Int32) × (Nat → Int32)) t => va_P D vwCl (CUW cI cJ q (fu (fu (fu (fu (fu (fu (fu (fu (fu (fu I 7 u.1) 8 u.2.1) 9 u.2.2.1) 10 u.2.2.2.1) 11 u.2.2.2.2.1) 12 u.2.2.2.2.2.1) 13 u.2.2.2.2.2.2.1) 14 u.2.2.2.2.2.2.2.1) 15 u.2.2.2.2.2.2.2.2.1) 16 u.2.2.2.2.2.2.2.2.2.1) J (fu (fu a 6 u.2.2.2.2.2.2.2.2.2.2.1) 7 u.2.2.2.2.2.2.2.2.2.2.2) b) t.heap) (CUA q)) 0 0 (CUA q) := by
  refine mt_of (cc := cX6_search) (maxL := 1) (ret := (some .int)) (by decide) rfl ?_
  intro p e s m args below meth c s₁ B0 hml hv R Q hR hQ
  obtain ⟨hargs, hP, hK, hN⟩ := hv
  have hx := B0.exec
  have hb := B0.bytes
  have hr := B0.returns
  have hts := atoms_spec (ws := wsX6_search) B0.pre
  have hown : s.vm.findClass RX6 = some m.cls := findClass_of_methodNamed B0.named
  have hlocks := B0.notSynchronized
  have hS : va_S (CUA q) s.heap s.heap [] := va_S.rf
  have hl := lv_entry ([.ref (q 0)]) (n := 1) (Nat.le_of_ble_eq_true rfl)
  rw [hargs, lg_entry_eq]
  rw [← hargs]
  generalize (lg_sl ([.ref (q 0)]) ++ List.replicate (1 - (lg_sl ([.ref (q 0)])).length) Slot.unset).toArray = ls at hl ⊢
  have hl : lv_has ls 1 [(0, .ref (q 0))] := hl
  unfold f_X6_search at h
  refine lv_aload_n hx hb dX6_search_0 rfl (lv_at hl 0 rfl) ?_
  refine va_get (D := D) (ci := 6) (v := .ref (q 5)) (C := RX6) (T := TX6) (N := 9) hx hb hts in_X6_search_X6 hown hK hP 0 rfl rfl 3 (by decide) (hts (.fieldLink RX6 40 "LearnedReasons" "theSearch" "LLearnedReasons$Search;") (by decide +kernel)) (fun _ h9 => h9) rfl dX6_search_1 ?_
  obtain ⟨x_1, hx_1, h⟩ := ob_some h
  refine va_callv (va_runV (As := []) (rest := []) ⟨hx, hb, hml, hown, hts⟩ (c_X4_run l D cI cJ q hq F I J a b x_1 hx_1) (cwV 0 hts gX6_search_X4_run rfl rfl rfl (by decide +kernel) (by rw [hR]; exact ⟨Nat.le_of_ble_eq_true rfl, Nat.le_of_ble_eq_true rfl⟩)) ⟨CUPc_blind, va_recv hK hP (ci := 4) (q0 := 5) rfl rfl, fun U hU hW => ⟨rfl, by rw [hU]; exact hP, va_K.moved hW.alike hK, va_Nw.warmM hW hN⟩⟩ rfl rfl hl.1 rfl (lv_room (Nat.le_of_ble_eq_true rfl)) dX6_search_4 ⟨Nat.zero_le _, Nat.zero_le _⟩) hS (fun _ _ h => h) (fun _ h => h) (fun u t H1 locs ht hvm hw hB hz1 hk1 hS => ?_)
  obtain rfl := hw.symm
  rw [ht] at hB
  have hP : va_P D vwCl (CUW cI cJ q (fu (fu (fu (fu (fu (fu (fu (fu (fu (fu I 7 x_1.1) 8 x_1.2.1) 9 x_1.2.2.1) 10 x_1.2.2.2.1) 11 x_1.2.2.2.2.1) 12 x_1.2.2.2.2.2.1) 13 x_1.2.2.2.2.2.2.1) 14 x_1.2.2.2.2.2.2.2.1) 15 x_1.2.2.2.2.2.2.2.2.1) 16 x_1.2.2.2.2.2.2.2.2.2.1) J (fu (fu a 6 x_1.2.2.2.2.2.2.2.2.2.2.1) 7 x_1.2.2.2.2.2.2.2.2.2.2.2) b) H1 := hB
  clear hB hz1 hk1 ht hvm
  generalize H1 = H at hP hS ⊢
  refine lv_aload_n hx hb dX6_search_7 rfl (lv_at hl 0 rfl) ?_
  refine va_get (D := D) (ci := 6) (v := .ref (q 5)) (C := RX6) (T := TX6) (N := 9) hx hb hts in_X6_search_X6 hown hK hP 0 rfl rfl 3 (by decide) (hts (.fieldLink RX6 40 "LearnedReasons" "theSearch" "LLearnedReasons$Search;") (by decide +kernel)) (fun _ h9 => h9) rfl dX6_search_8 ?_
  obtain ⟨x_2, hx_2, h⟩ := ob_some h
  refine va_calli (va_runV (As := []) (rest := []) ⟨hx, hb, hml, hown, hts⟩ (c_X4_hasModel l D cI cJ q hq F (fu (fu (fu (fu (fu (fu (fu (fu (fu (fu I 7 x_1.1) 8 x_1.2.1) 9 x_1.2.2.1) 10 x_1.2.2.2.1) 11 x_1.2.2.2.2.1) 12 x_1.2.2.2.2.2.1) 13 x_1.2.2.2.2.2.2.1) 14 x_1.2.2.2.2.2.2.2.1) 15 x_1.2.2.2.2.2.2.2.2.1) 16 x_1.2.2.2.2.2.2.2.2.2.1) J (fu (fu a 6 x_1.2.2.2.2.2.2.2.2.2.2.1) 7 x_1.2.2.2.2.2.2.2.2.2.2.2) b x_2 hx_2) (cwV 0 hts gX6_search_X4_hasModel rfl rfl rfl (by decide +kernel) (by rw [hR]; exact ⟨Nat.le_of_ble_eq_true rfl, Nat.le_of_ble_eq_true rfl⟩)) ⟨CUPc_blind, va_recv hK hP (ci := 4) (q0 := 5) rfl rfl, fun U hU hW => ⟨rfl, by rw [hU]; exact hP, va_K.moved hW.alike hK, va_Nw.warmM hW hN⟩⟩ rfl rfl hl.1 rfl (lv_room (Nat.le_of_ble_eq_true rfl)) dX6_search_11 ⟨Nat.zero_le _, Nat.zero_le _⟩) hS (fun _ _ h => h) (fun _ h => h) (fun r u t H1 locs ht hvm hw hB hz1 hk1 hS => ?_)
  obtain rfl := hw.symm
  rw [ht] at hB
  have hP : va_P D vwCl (CUW cI cJ q (fu (fu (fu (fu (fu (fu (fu (fu (fu (fu I 7 x_1.1) 8 x_1.2.1) 9 x_1.2.2.1) 10 x_1.2.2.2.1) 11 x_1.2.2.2.2.1) 12 x_1.2.2.2.2.2.1) 13 x_1.2.2.2.2.2.2.1) 14 x_1.2.2.2.2.2.2.2.1) 15 x_1.2.2.2.2.2.2.2.2.1) 16 x_1.2.2.2.2.2.2.2.2.2.1) J (fu (fu a 6 x_1.2.2.2.2.2.2.2.2.2.2.1) 7 x_1.2.2.2.2.2.2.2.2.2.2.2) b) H1 := hB
  clear hB hz1 hk1 ht hvm
  generalize H1 = H at hP hS ⊢
  refine lv_if_eq (tgt := 21) hx hb dX6_search_14 (by decide) (fun c_3 => ?_) (fun c_3 => ?_)
  · have h := if_t c_3 h
    refine lv_iconst (v := 0) hx hb dX6_search_21 (by decide) ?_
    have hx0 := Option.some.inj h
    rw [hQ]
    exact W.iret (v := 0) hx hb hr (fun t ht hW => ⟨⟨0, (x_1.1, x_1.2.1, x_1.2.2.1, x_1.2.2.2.1, x_1.2.2.2.2.1, x_1.2.2.2.2.2.1, x_1.2.2.2.2.2.2.1, x_1.2.2.2.2.2.2.2.1, x_1.2.2.2.2.2.2.2.2.1, x_1.2.2.2.2.2.2.2.2.2.1, x_1.2.2.2.2.2.2.2.2.2.2.1, x_1.2.2.2.2.2.2.2.2.2.2.2), rfl, ⟨congrArg (fun z => z.1) hx0, congrArg (fun z => z.2) hx0⟩, by show va_P _ _ _ t.heap; rw [ht]; exact hP⟩, hS.F ht⟩) hS.2.2 dX6_search_22
  · have h := if_f c_3 h
    refine lv_iconst (v := 1) hx hb dX6_search_17 (by decide) ?_
    refine lv_goto (tgt := 22) hx hb dX6_search_18 (by decide) ?_
    have hx0 := Option.some.inj h
    rw [hQ]
    exact W.iret (v := 1) hx hb hr (fun t ht hW => ⟨⟨1, (x_1.1, x_1.2.1, x_1.2.2.1, x_1.2.2.2.1, x_1.2.2.2.2.1, x_1.2.2.2.2.2.1, x_1.2.2.2.2.2.2.1, x_1.2.2.2.2.2.2.2.1, x_1.2.2.2.2.2.2.2.2.1, x_1.2.2.2.2.2.2.2.2.2.1, x_1.2.2.2.2.2.2.2.2.2.2.1, x_1.2.2.2.2.2.2.2.2.2.2.2), rfl, ⟨congrArg (fun z => z.1) hx0, congrArg (fun z => z.2) hx0⟩, by show va_P _ _ _ t.heap; rw [ht]; exact hP⟩, hS.F ht⟩) hS.2.2 dX6_search_22
theorem in_X4_firstModel_X4 : ∀ w ∈ wsX40, w ∈ wsX4_firstModel := by decide +kernel
set_option maxHeartbeats 4000000 in
set_option maxRecDepth 100000 in
theorem c_X4_firstModel (l : Launch) (D : va_G) (cI cJ : ClassId) (q : Nat → Nat) (hq : CUQ q) (F : Nat) (I : Nat → Int32) (J : Nat → Int64) (a : Nat → Nat → Int32) (b : Nat → Nat → Int64) (x0 : Int32) (h : f_X4_firstModel F I J a b = some x0) : Met l yX4_firstModel wsX4_firstModel ({ frames := 0, cells := 0, slots := 0, locals := 0 }) (CUPc D cI cJ q I J a b [.ref (q 5)]) (va_Qi (fun (r : Int32) (u : Unit) => r = x0) (fun (u : Unit) t => va_P D vwCl (CUW cI cJ q I J a b) t.heap) (CUA q)) 0 0 (CUA q) := by
  refine mt_of (cc := cX4_firstModel) (maxL := 1) (ret := (some .int)) (by decide) rfl ?_
  intro p e s m args below meth c s₁ B0 hml hv R Q hR hQ
  obtain ⟨hargs, hP, hK, hN⟩ := hv
  have hx := B0.exec
  have hb := B0.bytes
  have hr := B0.returns
  have hts := atoms_spec (ws := wsX4_firstModel) B0.pre
  have hown : s.vm.findClass RX4 = some m.cls := findClass_of_methodNamed B0.named
  have hlocks := B0.notSynchronized
  have hS : va_S (CUA q) s.heap s.heap [] := va_S.rf
  have hl := lv_entry ([.ref (q 5)]) (n := 1) (Nat.le_of_ble_eq_true rfl)
  rw [hargs, lg_entry_eq]
  rw [← hargs]
  generalize (lg_sl ([.ref (q 5)]) ++ List.replicate (1 - (lg_sl ([.ref (q 5)])).length) Slot.unset).toArray = ls at hl ⊢
  have hl : lv_has ls 1 [(0, .ref (q 5))] := hl
  unfold f_X4_firstModel at h
  refine lv_aload_n hx hb dX4_firstModel_0 rfl (lv_at hl 0 rfl) ?_
  refine va_get (D := D) (ci := 4) (v := .int (I 13)) (C := RX4) (T := TX4) (N := 9) hx hb hts in_X4_firstModel_X4 hown hK hP 5 rfl rfl 5 (by decide) (hts (.fieldLink RX4 58 "LearnedReasons$Search" "model" "I") (by decide +kernel)) (fun _ h9 => h9) rfl dX4_firstModel_1 ?_
  have hx0 := Option.some.inj h
  rw [hQ]
  exact W.iret (v := I 13) hx hb hr (fun t ht hW => ⟨⟨(I 13), (), rfl, hx0, by show va_P _ _ _ t.heap; rw [ht]; exact hP⟩, hS.F ht⟩) hS.2.2 dX4_firstModel_4
theorem in_X6_value_X6 : ∀ w ∈ wsX60, w ∈ wsX6_value := by decide +kernel
set_option maxHeartbeats 4000000 in
set_option maxRecDepth 100000 in
theorem c_X6_value (l : Launch) (D : va_G) (cI cJ : ClassId) (q : Nat → Nat) (hq : CUQ q) (F : Nat) (I : Nat → Int32) (J : Nat → Int64) (a : Nat → Nat → Int32) (b : Nat → Nat → Int64) (v1 : Int32) (x0 : Int32 × Int32 × Int32 × Int32 × Int32 × Int32 × Int32 × Int32 × Int32 × Int32 × Int32 × (Nat → Int32) × (Nat → Int32)) (h : f_X6_value F I J a b v1 = some x0) : Met l yX6_value wsX6_value ({ frames := 7, cells := 0, slots := 0, locals := 164 }) (CUPc D cI cJ q I J a b [.ref (q 0), .int v1]) (va_Qi (fun (r : Int32) (u : Int32 × Int32 × Int32 × Int32 × Int32 × Int32 × Int32 × Int32 × Int32 × Int32 × (Nat → Int32) × (Nat → Int32)) => r = x0.1 ∧ u = x0.2) (fun (u : Int32 × Int32 × Int32 × Int32 × Int32 × Int32 × Int32 × Int32 × Int32 × Int32 × (Nat → Int32) × (Nat → Int32)) t => va_P D vwCl (CUW cI cJ q (fu (fu (fu (fu (fu (fu (fu (fu (fu (fu I 7 u.1) 8 u.2.1) 9 u.2.2.1) 10 u.2.2.2.1) 11 u.2.2.2.2.1) 12 u.2.2.2.2.2.1) 13 u.2.2.2.2.2.2.1) 14 u.2.2.2.2.2.2.2.1) 15 u.2.2.2.2.2.2.2.2.1) 16 u.2.2.2.2.2.2.2.2.2.1) J (fu (fu a 6 u.2.2.2.2.2.2.2.2.2.2.1) 7 u.2.2.2.2.2.2.2.2.2.2.2) b) t.heap) (CUA q)) 0 0 (CUA q) := by
  refine mt_of (cc := cX6_value) (maxL := 2) (ret := (some .int)) (by decide) rfl ?_
  intro p e s m args below meth c s₁ B0 hml hv R Q hR hQ
  obtain ⟨hargs, hP, hK, hN⟩ := hv
  have hx := B0.exec
  have hb := B0.bytes
  have hr := B0.returns
  have hts := atoms_spec (ws := wsX6_value) B0.pre
  have hown : s.vm.findClass RX6 = some m.cls := findClass_of_methodNamed B0.named
  have hlocks := B0.notSynchronized
  have hS : va_S (CUA q) s.heap s.heap [] := va_S.rf
  have hl := lv_entry ([.ref (q 0), .int v1]) (n := 2) (Nat.le_of_ble_eq_true rfl)
  rw [hargs, lg_entry_eq]
  rw [← hargs]
  generalize (lg_sl ([.ref (q 0), .int v1]) ++ List.replicate (2 - (lg_sl ([.ref (q 0), .int v1])).length) Slot.unset).toArray = ls at hl ⊢
  have hl : lv_has ls 2 [(0, .ref (q 0)), (1, .int v1)] := hl
  unfold f_X6_value at h
  refine lv_aload_n hx hb dX6_value_0 rfl (lv_at hl 0 rfl) ?_
  refine va_get (D := D) (ci := 6) (v := .ref (q 1)) (C := RX6) (T := TX6) (N := 9) hx hb hts in_X6_value_X6 hown hK hP 0 rfl rfl 0 (by decide) (hts (.fieldLink RX6 10 "LearnedReasons" "things" "LLearnedReasons$Things;") (by decide +kernel)) (fun _ h9 => h9) rfl dX6_value_1 ?_
  refine lv_iload_n hx hb dX6_value_4 rfl (lv_at hl 1 rfl) ?_
  obtain ⟨x_1, hx_1, h⟩ := ob_some h
  refine va_calli (va_runV (As := [.int v1]) (rest := []) ⟨hx, hb, hml, hown, hts⟩ (c_X5_isName l D cI cJ q hq F I J a b v1 x_1 hx_1) (cwV 1 hts gX6_value_X5_isName rfl rfl rfl (by decide +kernel) (by rw [hR]; exact ⟨Nat.le_of_ble_eq_true rfl, Nat.le_of_ble_eq_true rfl⟩)) ⟨CUPc_blind, va_recv hK hP (ci := 5) (q0 := 1) rfl rfl, fun U hU hW => ⟨rfl, by rw [hU]; exact hP, va_K.moved hW.alike hK, va_Nw.warmM hW hN⟩⟩ rfl rfl hl.1 rfl (lv_room (Nat.le_of_ble_eq_true rfl)) dX6_value_5 ⟨Nat.zero_le _, Nat.zero_le _⟩) hS (fun _ _ h => h) (fun _ h => h) (fun r u t H1 locs ht hvm hw hB hz1 hk1 hS => ?_)
  obtain rfl := hw.symm
  rw [ht] at hB
  have hP : va_P D vwCl (CUW cI cJ q I J a b) H1 := hB
  clear hB hz1 hk1 ht hvm
  generalize H1 = H at hP hS ⊢
  refine lv_if_ne (tgt := 13) hx hb dX6_value_8 (by decide) (fun c_2 => ?_) (fun c_2 => ?_)
  · have h := if_f c_2 h
    refine lv_aload_n hx hb dX6_value_13 rfl (lv_at hl 0 rfl) ?_
    refine va_get (D := D) (ci := 6) (v := .ref (q 5)) (C := RX6) (T := TX6) (N := 9) hx hb hts in_X6_value_X6 hown hK hP 0 rfl rfl 3 (by decide) (hts (.fieldLink RX6 40 "LearnedReasons" "theSearch" "LLearnedReasons$Search;") (by decide +kernel)) (fun _ h9 => h9) rfl dX6_value_14 ?_
    obtain ⟨x_3, hx_3, h⟩ := ob_some h
    refine va_callv (va_runV (As := []) (rest := []) ⟨hx, hb, hml, hown, hts⟩ (c_X4_run l D cI cJ q hq F I J a b x_3 hx_3) (cwV 0 hts gX6_value_X4_run rfl rfl rfl (by decide +kernel) (by rw [hR]; exact ⟨Nat.le_of_ble_eq_true rfl, Nat.le_of_ble_eq_true rfl⟩)) ⟨CUPc_blind, va_recv hK hP (ci := 4) (q0 := 5) rfl rfl, fun U hU hW => ⟨rfl, by rw [hU]; exact hP, va_K.moved hW.alike hK, va_Nw.warmM hW hN⟩⟩ rfl rfl hl.1 rfl (lv_room (Nat.le_of_ble_eq_true rfl)) dX6_value_17 ⟨Nat.zero_le _, Nat.zero_le _⟩) hS (fun _ _ h => h) (fun _ h => h) (fun u t H1 locs ht hvm hw hB hz1 hk1 hS => ?_)
    obtain rfl := hw.symm
    rw [ht] at hB
    have hP : va_P D vwCl (CUW cI cJ q (fu (fu (fu (fu (fu (fu (fu (fu (fu (fu I 7 x_3.1) 8 x_3.2.1) 9 x_3.2.2.1) 10 x_3.2.2.2.1) 11 x_3.2.2.2.2.1) 12 x_3.2.2.2.2.2.1) 13 x_3.2.2.2.2.2.2.1) 14 x_3.2.2.2.2.2.2.2.1) 15 x_3.2.2.2.2.2.2.2.2.1) 16 x_3.2.2.2.2.2.2.2.2.2.1) J (fu (fu a 6 x_3.2.2.2.2.2.2.2.2.2.2.1) 7 x_3.2.2.2.2.2.2.2.2.2.2.2) b) H1 := hB
    clear hB hz1 hk1 ht hvm
    generalize H1 = H at hP hS ⊢
    refine lv_aload_n hx hb dX6_value_20 rfl (lv_at hl 0 rfl) ?_
    refine va_get (D := D) (ci := 6) (v := .ref (q 5)) (C := RX6) (T := TX6) (N := 9) hx hb hts in_X6_value_X6 hown hK hP 0 rfl rfl 3 (by decide) (hts (.fieldLink RX6 40 "LearnedReasons" "theSearch" "LLearnedReasons$Search;") (by decide +kernel)) (fun _ h9 => h9) rfl dX6_value_21 ?_
    obtain ⟨x_4, hx_4, h⟩ := ob_some h
    refine va_calli (va_runV (As := []) (rest := []) ⟨hx, hb, hml, hown, hts⟩ (c_X4_hasModel l D cI cJ q hq F (fu (fu (fu (fu (fu (fu (fu (fu (fu (fu I 7 x_3.1) 8 x_3.2.1) 9 x_3.2.2.1) 10 x_3.2.2.2.1) 11 x_3.2.2.2.2.1) 12 x_3.2.2.2.2.2.1) 13 x_3.2.2.2.2.2.2.1) 14 x_3.2.2.2.2.2.2.2.1) 15 x_3.2.2.2.2.2.2.2.2.1) 16 x_3.2.2.2.2.2.2.2.2.2.1) J (fu (fu a 6 x_3.2.2.2.2.2.2.2.2.2.2.1) 7 x_3.2.2.2.2.2.2.2.2.2.2.2) b x_4 hx_4) (cwV 0 hts gX6_value_X4_hasModel rfl rfl rfl (by decide +kernel) (by rw [hR]; exact ⟨Nat.le_of_ble_eq_true rfl, Nat.le_of_ble_eq_true rfl⟩)) ⟨CUPc_blind, va_recv hK hP (ci := 4) (q0 := 5) rfl rfl, fun U hU hW => ⟨rfl, by rw [hU]; exact hP, va_K.moved hW.alike hK, va_Nw.warmM hW hN⟩⟩ rfl rfl hl.1 rfl (lv_room (Nat.le_of_ble_eq_true rfl)) dX6_value_24 ⟨Nat.zero_le _, Nat.zero_le _⟩) hS (fun _ _ h => h) (fun _ h => h) (fun r u t H1 locs ht hvm hw hB hz1 hk1 hS => ?_)
    obtain rfl := hw.symm
    rw [ht] at hB
    have hP : va_P D vwCl (CUW cI cJ q (fu (fu (fu (fu (fu (fu (fu (fu (fu (fu I 7 x_3.1) 8 x_3.2.1) 9 x_3.2.2.1) 10 x_3.2.2.2.1) 11 x_3.2.2.2.2.1) 12 x_3.2.2.2.2.2.1) 13 x_3.2.2.2.2.2.2.1) 14 x_3.2.2.2.2.2.2.2.1) 15 x_3.2.2.2.2.2.2.2.2.1) 16 x_3.2.2.2.2.2.2.2.2.2.1) J (fu (fu a 6 x_3.2.2.2.2.2.2.2.2.2.2.1) 7 x_3.2.2.2.2.2.2.2.2.2.2.2) b) H1 := hB
    clear hB hz1 hk1 ht hvm
    generalize H1 = H at hP hS ⊢
    refine lv_if_ne (tgt := 33) hx hb dX6_value_27 (by decide) (fun c_5 => ?_) (fun c_5 => ?_)
    · have h := if_f c_5 h
      refine lv_aload_n hx hb dX6_value_33 rfl (lv_at hl 0 rfl) ?_
      refine va_get (D := D) (ci := 6) (v := .ref (q 5)) (C := RX6) (T := TX6) (N := 9) hx hb hts in_X6_value_X6 hown hK hP 0 rfl rfl 3 (by decide) (hts (.fieldLink RX6 40 "LearnedReasons" "theSearch" "LLearnedReasons$Search;") (by decide +kernel)) (fun _ h9 => h9) rfl dX6_value_34 ?_
      obtain ⟨x_6, hx_6, h⟩ := ob_some h
      refine va_calli (va_runV (As := []) (rest := []) ⟨hx, hb, hml, hown, hts⟩ (c_X4_firstModel l D cI cJ q hq F (fu (fu (fu (fu (fu (fu (fu (fu (fu (fu I 7 x_3.1) 8 x_3.2.1) 9 x_3.2.2.1) 10 x_3.2.2.2.1) 11 x_3.2.2.2.2.1) 12 x_3.2.2.2.2.2.1) 13 x_3.2.2.2.2.2.2.1) 14 x_3.2.2.2.2.2.2.2.1) 15 x_3.2.2.2.2.2.2.2.2.1) 16 x_3.2.2.2.2.2.2.2.2.2.1) J (fu (fu a 6 x_3.2.2.2.2.2.2.2.2.2.2.1) 7 x_3.2.2.2.2.2.2.2.2.2.2.2) b x_6 hx_6) (cwV 0 hts gX6_value_X4_firstModel rfl rfl rfl (by decide +kernel) (by rw [hR]; exact ⟨Nat.le_of_ble_eq_true rfl, Nat.le_of_ble_eq_true rfl⟩)) ⟨CUPc_blind, va_recv hK hP (ci := 4) (q0 := 5) rfl rfl, fun U hU hW => ⟨rfl, by rw [hU]; exact hP, va_K.moved hW.alike hK, va_Nw.warmM hW hN⟩⟩ rfl rfl hl.1 rfl (lv_room (Nat.le_of_ble_eq_true rfl)) dX6_value_37 ⟨Nat.zero_le _, Nat.zero_le _⟩) hS (fun _ _ h => h) (fun _ h => h) (fun r u t H1 locs ht hvm hw hB hz1 hk1 hS => ?_)
      obtain rfl := hw.symm
      rw [ht] at hB
      have hP : va_P D vwCl (CUW cI cJ q (fu (fu (fu (fu (fu (fu (fu (fu (fu (fu I 7 x_3.1) 8 x_3.2.1) 9 x_3.2.2.1) 10 x_3.2.2.2.1) 11 x_3.2.2.2.2.1) 12 x_3.2.2.2.2.2.1) 13 x_3.2.2.2.2.2.2.1) 14 x_3.2.2.2.2.2.2.2.1) 15 x_3.2.2.2.2.2.2.2.2.1) 16 x_3.2.2.2.2.2.2.2.2.2.1) J (fu (fu a 6 x_3.2.2.2.2.2.2.2.2.2.2.1) 7 x_3.2.2.2.2.2.2.2.2.2.2.2) b) H1 := hB
      clear hB hz1 hk1 ht hvm
      generalize H1 = H at hP hS ⊢
      refine lv_iload_n hx hb dX6_value_40 rfl (lv_at hl 1 rfl) ?_
      refine lv_ishr hx hb dX6_value_41 ?_
      refine lv_iconst (v := 1) hx hb dX6_value_42 (by decide) ?_
      refine lv_iand hx hb dX6_value_43 ?_
      have hx0 := Option.some.inj h
      rw [hQ]
      exact W.iret (v := (x_6 >>> (v1 &&& 31)) &&& 1) hx hb hr (fun t ht hW => ⟨⟨((x_6 >>> (v1 &&& 31)) &&& 1), (x_3.1, x_3.2.1, x_3.2.2.1, x_3.2.2.2.1, x_3.2.2.2.2.1, x_3.2.2.2.2.2.1, x_3.2.2.2.2.2.2.1, x_3.2.2.2.2.2.2.2.1, x_3.2.2.2.2.2.2.2.2.1, x_3.2.2.2.2.2.2.2.2.2.1, x_3.2.2.2.2.2.2.2.2.2.2.1, x_3.2.2.2.2.2.2.2.2.2.2.2), rfl, ⟨congrArg (fun z => z.1) hx0, congrArg (fun z => z.2) hx0⟩, by show va_P _ _ _ t.heap; rw [ht]; exact hP⟩, hS.F ht⟩) hS.2.2 dX6_value_44
    · have h := if_t c_5 h
      refine lv_bipush (v := (-3)) hx hb dX6_value_30 (by decide) ?_
      have hx0 := Option.some.inj h
      rw [hQ]
      exact W.iret (v := (-3)) hx hb hr (fun t ht hW => ⟨⟨(-3), (x_3.1, x_3.2.1, x_3.2.2.1, x_3.2.2.2.1, x_3.2.2.2.2.1, x_3.2.2.2.2.2.1, x_3.2.2.2.2.2.2.1, x_3.2.2.2.2.2.2.2.1, x_3.2.2.2.2.2.2.2.2.1, x_3.2.2.2.2.2.2.2.2.2.1, x_3.2.2.2.2.2.2.2.2.2.2.1, x_3.2.2.2.2.2.2.2.2.2.2.2), rfl, ⟨congrArg (fun z => z.1) hx0, congrArg (fun z => z.2) hx0⟩, by show va_P _ _ _ t.heap; rw [ht]; exact hP⟩, hS.F ht⟩) hS.2.2 dX6_value_32
  · have h := if_t c_2 h
    refine lv_iconst (v := (-1)) hx hb dX6_value_11 (by decide) ?_
    have hx0 := Option.some.inj h
    rw [hQ]
    exact W.iret (v := (-1)) hx hb hr (fun t ht hW => ⟨⟨(-1), ((I 7), (I 8), (I 9), (I 10), (I 11), (I 12), (I 13), (I 14), (I 15), (I 16), (a 6), (a 7)), rfl, ⟨congrArg (fun z => z.1) hx0, congrArg (fun z => z.2) hx0⟩, by show va_P _ _ _ t.heap; rw [ht]; exact hP⟩, hS.F ht⟩) hS.2.2 dX6_value_12
