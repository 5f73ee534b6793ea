theorem in_X3_readRow_X3 : ∀ w ∈ wsX30, w ∈ wsX3_readRow := by decide +kernel
set_option maxHeartbeats 4000000 in
set_option maxRecDepth 100000 in
theorem c_X3_readRow (l : Launch) (D : va_G) (cI cJ : ClassId) (q : Nat → Nat) (hq : CUQ q) (F : Nat) (I : Nat → Int32) (J : Nat → Int64) (a : Nat → Nat → Int32) (b : Nat → Nat → Int64) (v1 : Int32) (x0 : (Nat → Int32) × (Nat → Int32) × (Nat → Int64)) (h : f_X3_readRow F I J a b v1 = some x0) : Met l yX3_readRow wsX3_readRow ({ frames := 1, cells := 0, slots := 0, locals := 25 }) (CUPc D cI cJ q I J a b [.ref (q 6), .int v1]) (va_Qv (fun (u : (Nat → Int32) × (Nat → Int32) × (Nat → Int64)) => u = x0) (fun (u : (Nat → Int32) × (Nat → Int32) × (Nat → Int64)) t => va_P D vwCl (CUW cI cJ q I J (fu (fu a 9 u.1) 10 u.2.1) (fu b 0 u.2.2)) t.heap) (CUA q)) 0 0 (CUA q) := by
  refine mt_of (cc := cX3_readRow) (maxL := 5) (ret := none) (by decide) rfl ?_
  intro p e s m args below meth c s₁ B0 hml hv R Q hR hQ
  obtain ⟨hargs, hP, hK, hN⟩ := hv
  have hx := B0.exec
  have hb := B0.bytes
  have hr := B0.returns
  have hts := atoms_spec (ws := wsX3_readRow) B0.pre
  have hown : s.vm.findClass RX3 = some m.cls := findClass_of_methodNamed B0.named
  have hlocks := B0.notSynchronized
  have hS : va_S (CUA q) s.heap s.heap [] := va_S.rf
  have hl := lv_entry ([.ref (q 6), .int v1]) (n := 5) (Nat.le_of_ble_eq_true rfl)
  rw [hargs, lg_entry_eq]
  rw [← hargs]
  generalize (lg_sl ([.ref (q 6), .int v1]) ++ List.replicate (5 - (lg_sl ([.ref (q 6), .int v1])).length) Slot.unset).toArray = ls at hl ⊢
  have hl : lv_has ls 5 [(0, .ref (q 6)), (1, .int v1)] := hl
  unfold f_X3_readRow at h
  have C87 : ∀ (n87 : Nat) (v1 : Int32) (v2 : Int32) (v3 : Int32) (v4 : Int32) (a9 : Nat → Int32) (a10 : Nat → Int32) (b0 : Nat → Int64), k_X3_readRow_87 F I J a b n87 v1 v2 v3 v4 a9 a10 b0 = some x0 → ∀ (H : Heap) (locs : List Loc), va_P D vwCl (CUW cI cJ q I J (fu (fu a 9 a9) 10 a10) (fu b 0 b0)) H → va_S (CUA q) s.heap H locs → ∀ ls : Array Slot, lv_has ls 5 [(0, .ref (q 6)), (1, .int v1), (2, .int v2), (3, .int v3), (4, .int v4)] → W p l e R s m args below meth c H locs 0 0 Q (F0 m 87 ls []) := by
    intro n87
    induction n87 with
    | zero => intro v1 v2 v3 v4 a9 a10 b0 h; rw [k_X3_readRow_87] at h; cases h
    | succ n87 ih87 =>
      intro v1 v2 v3 v4 a9 a10 b0 h H locs hP hS ls hl
      rw [k_X3_readRow_87] at h
      refine lv_iload hx hb dX3_readRow_87 (lv_at hl 4 rfl) ?_
      refine lv_iload_n hx hb dX3_readRow_89 rfl (lv_at hl 3 rfl) ?_
      refine lv_icmp_ge (tgt := 121) hx hb dX3_readRow_90 (by decide) (fun c_1 => ?_) (fun c_1 => ?_)
      · have h := if_t c_1 h
        have hx0 := Option.some.inj h
        rw [hQ]
        exact W.vret hx hb hr (fun t ht hW => ⟨⟨(a9, a10, b0), rfl, hx0, by show va_P _ _ _ t.heap; rw [ht]; exact hP⟩, hS.F ht⟩) hS.2.2 dX3_readRow_121
      · have h := if_f c_1 h
        refine lv_aload_n hx hb dX3_readRow_93 rfl (lv_at hl 0 rfl) ?_
        refine lv_iload hx hb dX3_readRow_94 (lv_at hl 4 rfl) ?_
        refine lv_iload_n hx hb dX3_readRow_96 rfl (lv_at hl 1 rfl) ?_
        refine lv_aload_n hx hb dX3_readRow_97 rfl (lv_at hl 0 rfl) ?_
        refine lv_iload hx hb dX3_readRow_98 (lv_at hl 4 rfl) ?_
        obtain ⟨x_2, hx_2, h⟩ := ob_some h
        refine va_calli (va_runV (As := [.int v4]) (rest := [.int v1, .int v4, .ref (q 6)]) ⟨hx, hb, hml, hown, hts⟩ (c_X3_sumOf l D cI cJ q hq F I J (fu (fu a 9 a9) 10 a10) (fu b 0 b0) v4 x_2 hx_2) (cwV 1 hts gX3_readRow_X3_sumOf rfl rfl rfl (by decide +kernel) (by rw [hR]; exact ⟨Nat.le_of_ble_eq_true rfl, Nat.le_of_ble_eq_true rfl⟩)) ⟨CUPc_blind, va_recv hK hP (ci := 3) (q0 := 6) rfl rfl, fun U hU hW => ⟨rfl, by rw [hU]; exact hP, va_K.moved hW.alike hK, va_Nw.warmM hW hN⟩⟩ rfl rfl hl.1 rfl (lv_room (Nat.le_of_ble_eq_true rfl)) dX3_readRow_100 ⟨Nat.zero_le _, Nat.zero_le _⟩) hS (fun _ _ h => h) (fun _ h => h) (fun r u t H1 locs ht hvm hw hB hz1 hk1 hS => ?_)
        obtain rfl := hw.symm
        rw [ht] at hB
        have hP : va_P D vwCl (CUW cI cJ q I J (fu (fu a 9 a9) 10 a10) (fu b 0 b0)) H1 := hB
        clear hB hz1 hk1 ht hvm
        generalize H1 = H at hP hS ⊢
        refine lv_iload_n hx hb dX3_readRow_103 rfl (lv_at hl 2 rfl) ?_
        refine lv_icmp_le (tgt := 111) hx hb dX3_readRow_104 (by decide) (fun c_3 => ?_) (fun c_3 => ?_)
        · have h := if_t c_3 h
          refine lv_iconst (v := 0) hx hb dX3_readRow_111 (by decide) ?_
          obtain ⟨x_4, hx_4, h⟩ := ob_some h
          refine va_callv (va_runV (As := [.int v4, .int v1, .int 0]) (rest := []) ⟨hx, hb, hml, hown, hts⟩ (c_X3_mark l D cI cJ q hq F I J (fu (fu a 9 a9) 10 a10) (fu b 0 b0) v4 v1 0 x_4 hx_4) (cwV 3 hts gX3_readRow_X3_mark rfl rfl rfl (by decide +kernel) (by rw [hR]; exact ⟨Nat.le_of_ble_eq_true rfl, Nat.le_of_ble_eq_true rfl⟩)) ⟨CUPc_blind, va_recv hK hP (ci := 3) (q0 := 6) rfl rfl, fun U hU hW => ⟨rfl, by rw [hU]; exact hP, va_K.moved hW.alike hK, va_Nw.warmM hW hN⟩⟩ rfl rfl hl.1 rfl (lv_room (Nat.le_of_ble_eq_true rfl)) dX3_readRow_112 ⟨Nat.zero_le _, Nat.zero_le _⟩) hS (fun _ _ h => h) (fun _ h => h) (fun u t H1 locs ht hvm hw hB hz1 hk1 hS => ?_)
          obtain rfl := hw.symm
          rw [ht] at hB
          have hP : va_P D vwCl (CUW cI cJ q I J (fu (fu a 9 a9) 10 a10) (fu b 0 x_4)) H1 := hB
          clear hB hz1 hk1 ht hvm
          generalize H1 = H at hP hS ⊢
          refine lv_iinc (v := v4 + 1) (lv' := [(4, .int (v4 + 1)), (0, .ref (q 6)), (1, .int v1), (2, .int v2), (3, .int v3)]) hx hb dX3_readRow_115 hl (k := 4) rfl rfl (by decide) rfl (fun ls hl => ?_)
          refine lv_goto (tgt := 87) hx hb dX3_readRow_118 (by decide) ?_
          exact ih87 v1 v2 v3 (v4 + 1) a9 a10 x_4 h _ _ hP hS ls (lv_sub hl [1, 2, 3, 4, 0] rfl)
        · have h := if_f c_3 h
          refine lv_iconst (v := 1) hx hb dX3_readRow_107 (by decide) ?_
          refine lv_goto (tgt := 112) hx hb dX3_readRow_108 (by decide) ?_
          obtain ⟨x_5, hx_5, h⟩ := ob_some h
          refine va_callv (va_runV (As := [.int v4, .int v1, .int 1]) (rest := []) ⟨hx, hb, hml, hown, hts⟩ (c_X3_mark l D cI cJ q hq F I J (fu (fu a 9 a9) 10 a10) (fu b 0 b0) v4 v1 1 x_5 hx_5) (cwV 3 hts gX3_readRow_X3_mark rfl rfl rfl (by decide +kernel) (by rw [hR]; exact ⟨Nat.le_of_ble_eq_true rfl, Nat.le_of_ble_eq_true rfl⟩)) ⟨CUPc_blind, va_recv hK hP (ci := 3) (q0 := 6) rfl rfl, fun U hU hW => ⟨rfl, by rw [hU]; exact hP, va_K.moved hW.alike hK, va_Nw.warmM hW hN⟩⟩ rfl rfl hl.1 rfl (lv_room (Nat.le_of_ble_eq_true rfl)) dX3_readRow_112 ⟨Nat.zero_le _, Nat.zero_le _⟩) hS (fun _ _ h => h) (fun _ h => h) (fun u t H1 locs ht hvm hw hB hz1 hk1 hS => ?_)
          obtain rfl := hw.symm
          rw [ht] at hB
          have hP : va_P D vwCl (CUW cI cJ q I J (fu (fu a 9 a9) 10 a10) (fu b 0 x_5)) H1 := hB
          clear hB hz1 hk1 ht hvm
          generalize H1 = H at hP hS ⊢
          refine lv_iinc (v := v4 + 1) (lv' := [(4, .int (v4 + 1)), (0, .ref (q 6)), (1, .int v1), (2, .int v2), (3, .int v3)]) hx hb dX3_readRow_115 hl (k := 4) rfl rfl (by decide) rfl (fun ls hl => ?_)
          refine lv_goto (tgt := 87) hx hb dX3_readRow_118 (by decide) ?_
          exact ih87 v1 v2 v3 (v4 + 1) a9 a10 x_5 h _ _ hP hS ls (lv_sub hl [1, 2, 3, 4, 0] rfl)
  have C16 : ∀ (n16 : Nat) (v1 : Int32) (v2 : Int32) (a9 : Nat → Int32) (a10 : Nat → Int32), k_X3_readRow_16 F I J a b n16 v1 v2 a9 a10 = some x0 → ∀ (H : Heap) (locs : List Loc), va_P D vwCl (CUW cI cJ q I J (fu (fu a 9 a9) 10 a10) b) H → va_S (CUA q) s.heap H locs → ∀ ls : Array Slot, lv_has ls 5 [(0, .ref (q 6)), (1, .int v1), (2, .int v2)] → W p l e R s m args below meth c H locs 0 0 Q (F0 m 16 ls []) := by
    intro n16
    induction n16 with
    | zero => intro v1 v2 a9 a10 h; rw [k_X3_readRow_16] at h; cases h
    | succ n16 ih16 =>
      intro v1 v2 a9 a10 h H locs hP hS ls hl
      rw [k_X3_readRow_16] at h
      refine lv_iload_n hx hb dX3_readRow_16 rfl (lv_at hl 2 rfl) ?_
      refine lv_bipush (v := 7) hx hb dX3_readRow_17 (by decide) ?_
      refine lv_icmp_ge (tgt := 65) hx hb dX3_readRow_19 (by decide) (fun c_6 => ?_) (fun c_6 => ?_)
      · have h := if_t c_6 h
        refine lv_aload_n hx hb dX3_readRow_65 rfl (lv_at hl 0 rfl) ?_
        refine va_get (D := D) (ci := 3) (v := .ref (q 1)) (C := RX3) (T := TX3) (N := 13) hx hb hts in_X3_readRow_X3 hown hK hP 6 rfl rfl 0 (by decide) (hts (.fieldLink RX3 25 "LearnedReasons$Models" "things" "LLearnedReasons$Things;") (by decide +kernel)) (fun _ h9 => h9) rfl dX3_readRow_66 ?_
        refine lv_iload_n hx hb dX3_readRow_69 rfl (lv_at hl 1 rfl) ?_
        obtain ⟨x_7, hx_7, h⟩ := ob_some h
        refine va_calli (va_runV (As := [.int v1]) (rest := []) ⟨hx, hb, hml, hown, hts⟩ (c_X5_boundOf l D cI cJ q hq F I J (fu (fu a 9 a9) 10 a10) b v1 x_7 hx_7) (cwV 1 hts gX3_readRow_X5_boundOf rfl rfl rfl (by decide +kernel) (by rw [hR]; exact ⟨Nat.le_of_ble_eq_true rfl, Nat.le_of_ble_eq_true rfl⟩)) ⟨CUPc_blind, va_recv hK hP (ci := 5) (q0 := 1) rfl rfl, fun U hU hW => ⟨rfl, by rw [hU]; exact hP, va_K.moved hW.alike hK, va_Nw.warmM hW hN⟩⟩ rfl rfl hl.1 rfl (lv_room (Nat.le_of_ble_eq_true rfl)) dX3_readRow_70 ⟨Nat.zero_le _, Nat.zero_le _⟩) hS (fun _ _ h => h) (fun _ h => h) (fun r u t H1 locs ht hvm hw hB hz1 hk1 hS => ?_)
        obtain rfl := hw.symm
        rw [ht] at hB
        have hP : va_P D vwCl (CUW cI cJ q I J (fu (fu a 9 a9) 10 a10) b) H1 := hB
        clear hB hz1 hk1 ht hvm
        generalize H1 = H at hP hS ⊢
        refine lv_istore_n (lv' := [(2, .int x_7), (0, .ref (q 6)), (1, .int v1)]) hx hb dX3_readRow_73 rfl hl (by decide) rfl (fun ls hl => ?_)
        refine lv_iconst (v := 1) hx hb dX3_readRow_74 (by decide) ?_
        refine lv_aload_n hx hb dX3_readRow_75 rfl (lv_at hl 1 rfl) ?_
        refine va_get (D := D) (ci := 3) (v := .ref (q 1)) (C := RX3) (T := TX3) (N := 13) hx hb hts in_X3_readRow_X3 hown hK hP 6 rfl rfl 0 (by decide) (hts (.fieldLink RX3 25 "LearnedReasons$Models" "things" "LLearnedReasons$Things;") (by decide +kernel)) (fun _ h9 => h9) rfl dX3_readRow_76 ?_
        obtain ⟨x_8, hx_8, h⟩ := ob_some h
        refine va_calli (va_runV (As := []) (rest := [.int 1]) ⟨hx, hb, hml, hown, hts⟩ (c_X5_names l D cI cJ q hq F I J (fu (fu a 9 a9) 10 a10) b x_8 hx_8) (cwV 0 hts gX3_readRow_X5_names rfl rfl rfl (by decide +kernel) (by rw [hR]; exact ⟨Nat.le_of_ble_eq_true rfl, Nat.le_of_ble_eq_true rfl⟩)) ⟨CUPc_blind, va_recv hK hP (ci := 5) (q0 := 1) rfl rfl, fun U hU hW => ⟨rfl, by rw [hU]; exact hP, va_K.moved hW.alike hK, va_Nw.warmM hW hN⟩⟩ rfl rfl hl.1 rfl (lv_room (Nat.le_of_ble_eq_true rfl)) dX3_readRow_79 ⟨Nat.zero_le _, Nat.zero_le _⟩) hS (fun _ _ h => h) (fun _ h => h) (fun r u t H1 locs ht hvm hw hB hz1 hk1 hS => ?_)
        obtain rfl := hw.symm
        rw [ht] at hB
        have hP : va_P D vwCl (CUW cI cJ q I J (fu (fu a 9 a9) 10 a10) b) H1 := hB
        clear hB hz1 hk1 ht hvm
        generalize H1 = H at hP hS ⊢
        refine lv_ishl hx hb dX3_readRow_82 ?_
        refine lv_topi (fun v_9 ev_9 => ?_)
        have h := nmI_at ev_9 h
        refine lv_istore_n (lv' := [(3, .int v_9), (2, .int x_7), (0, .ref (q 6)), (1, .int v1)]) hx hb dX3_readRow_83 rfl hl (by decide) rfl (fun ls hl => ?_)
        refine lv_iconst (v := 0) hx hb dX3_readRow_84 (by decide) ?_
        refine lv_istore (lv' := [(4, .int 0), (3, .int v_9), (2, .int x_7), (0, .ref (q 6)), (1, .int v1)]) hx hb dX3_readRow_85 hl (by decide) rfl (fun ls hl => ?_)
        exact C87 F v1 x_7 v_9 0 a9 a10 (b 0) h _ _ hP hS ls (lv_sub hl [3, 4, 2, 1, 0] rfl)
      · have h := if_f c_6 h
        refine lv_aload_n hx hb dX3_readRow_22 rfl (lv_at hl 0 rfl) ?_
        refine va_get (D := D) (ci := 3) (v := .ref (q 17)) (C := RX3) (T := TX3) (N := 13) hx hb hts in_X3_readRow_X3 hown hK hP 6 rfl rfl 3 (by decide) (hts (.fieldLink RX3 19 "LearnedReasons$Models" "lowSums" "[I") (by decide +kernel)) (fun _ h9 => h9) rfl dX3_readRow_23 ?_
        refine lv_iload_n hx hb dX3_readRow_26 rfl (lv_at hl 2 rfl) ?_
        refine lv_aload_n hx hb dX3_readRow_27 rfl (lv_at hl 0 rfl) ?_
        refine va_get (D := D) (ci := 3) (v := .ref (q 1)) (C := RX3) (T := TX3) (N := 13) hx hb hts in_X3_readRow_X3 hown hK hP 6 rfl rfl 0 (by decide) (hts (.fieldLink RX3 25 "LearnedReasons$Models" "things" "LLearnedReasons$Things;") (by decide +kernel)) (fun _ h9 => h9) rfl dX3_readRow_28 ?_
        refine lv_iload_n hx hb dX3_readRow_31 rfl (lv_at hl 1 rfl) ?_
        refine lv_iload_n hx hb dX3_readRow_32 rfl (lv_at hl 2 rfl) ?_
        obtain ⟨x_10, hx_10, h⟩ := ob_some h
        refine va_calli (va_runV (As := [.int v1, .int v2]) (rest := [.int v2, .ref (q 17)]) ⟨hx, hb, hml, hown, hts⟩ (c_X5_weightOf l D cI cJ q hq F I J (fu (fu a 9 a9) 10 a10) b v1 v2 x_10 hx_10) (cwV 2 hts gX3_readRow_X5_weightOf rfl rfl rfl (by decide +kernel) (by rw [hR]; exact ⟨Nat.le_of_ble_eq_true rfl, Nat.le_of_ble_eq_true rfl⟩)) ⟨CUPc_blind, va_recv hK hP (ci := 5) (q0 := 1) rfl rfl, fun U hU hW => ⟨rfl, by rw [hU]; exact hP, va_K.moved hW.alike hK, va_Nw.warmM hW hN⟩⟩ rfl rfl hl.1 rfl (lv_room (Nat.le_of_ble_eq_true rfl)) dX3_readRow_33 ⟨Nat.zero_le _, Nat.zero_le _⟩) hS (fun _ _ h => h) (fun _ h => h) (fun r u t H1 locs ht hvm hw hB hz1 hk1 hS => ?_)
        obtain rfl := hw.symm
        rw [ht] at hB
        have hP : va_P D vwCl (CUW cI cJ q I J (fu (fu a 9 a9) 10 a10) b) H1 := hB
        clear hB hz1 hk1 ht hvm
        generalize H1 = H at hP hS ⊢
        obtain ⟨x_11, hx_11, h⟩ := ob_some h
        refine va_callv (va_runS (As := [.ref (q 17), .int v2, .int x_10]) (rest := []) ⟨hx, hb, hml, hown, hts⟩ (c_X3_widen_c17 l D cI cJ q hq F I J (fu (fu a 9 a9) 10 a10) b v2 x_10 x_11 hx_11) (va_cwS 3 hts gX3_readRow_X3_widen rfl rfl rfl (by decide +kernel) (by rw [hR]; exact ⟨Nat.le_of_ble_eq_true rfl, Nat.le_of_ble_eq_true rfl⟩)) ⟨CUPc_blind, fun U hU hW => ⟨rfl, by rw [hU]; exact hP, va_K.moved hW.alike hK, va_Nw.warmM hW hN⟩⟩ rfl rfl hl.1 rfl (lv_room (Nat.le_of_ble_eq_true rfl)) dX3_readRow_36 ⟨Nat.zero_le _, Nat.zero_le _⟩) hS (fun _ _ h => h) (fun _ h => h) (fun u t H1 locs ht hvm hw hB hz1 hk1 hS => ?_)
        obtain rfl := hw.symm
        rw [ht] at hB
        have hP : va_P D vwCl (CUW cI cJ q I J (fu (fu a 9 x_11) 10 a10) b) H1 := hB
        clear hB hz1 hk1 ht hvm
        generalize H1 = H at hP hS ⊢
        refine lv_aload_n hx hb dX3_readRow_39 rfl (lv_at hl 0 rfl) ?_
        refine va_get (D := D) (ci := 3) (v := .ref (q 18)) (C := RX3) (T := TX3) (N := 13) hx hb hts in_X3_readRow_X3 hown hK hP 6 rfl rfl 4 (by decide) (hts (.fieldLink RX3 22 "LearnedReasons$Models" "highSums" "[I") (by decide +kernel)) (fun _ h9 => h9) rfl dX3_readRow_40 ?_
        refine lv_iload_n hx hb dX3_readRow_43 rfl (lv_at hl 2 rfl) ?_
        refine lv_aload_n hx hb dX3_readRow_44 rfl (lv_at hl 0 rfl) ?_
        refine va_get (D := D) (ci := 3) (v := .ref (q 1)) (C := RX3) (T := TX3) (N := 13) hx hb hts in_X3_readRow_X3 hown hK hP 6 rfl rfl 0 (by decide) (hts (.fieldLink RX3 25 "LearnedReasons$Models" "things" "LLearnedReasons$Things;") (by decide +kernel)) (fun _ h9 => h9) rfl dX3_readRow_45 ?_
        refine lv_iload_n hx hb dX3_readRow_48 rfl (lv_at hl 1 rfl) ?_
        refine lv_iload_n hx hb dX3_readRow_49 rfl (lv_at hl 2 rfl) ?_
        refine lv_bipush (v := 7) hx hb dX3_readRow_50 (by decide) ?_
        refine lv_iadd hx hb dX3_readRow_52 ?_
        obtain ⟨x_12, hx_12, h⟩ := ob_some h
        refine va_calli (va_runV (As := [.int v1, .int (v2 + 7)]) (rest := [.int v2, .ref (q 18)]) ⟨hx, hb, hml, hown, hts⟩ (c_X5_weightOf l D cI cJ q hq F I J (fu (fu a 9 x_11) 10 a10) b v1 (v2 + 7) x_12 hx_12) (cwV 2 hts gX3_readRow_X5_weightOf rfl rfl rfl (by decide +kernel) (by rw [hR]; exact ⟨Nat.le_of_ble_eq_true rfl, Nat.le_of_ble_eq_true rfl⟩)) ⟨CUPc_blind, va_recv hK hP (ci := 5) (q0 := 1) rfl rfl, fun U hU hW => ⟨rfl, by rw [hU]; exact hP, va_K.moved hW.alike hK, va_Nw.warmM hW hN⟩⟩ rfl rfl hl.1 rfl (lv_room (Nat.le_of_ble_eq_true rfl)) dX3_readRow_53 ⟨Nat.zero_le _, Nat.zero_le _⟩) hS (fun _ _ h => h) (fun _ h => h) (fun r u t H1 locs ht hvm hw hB hz1 hk1 hS => ?_)
        obtain rfl := hw.symm
        rw [ht] at hB
        have hP : va_P D vwCl (CUW cI cJ q I J (fu (fu a 9 x_11) 10 a10) b) H1 := hB
        clear hB hz1 hk1 ht hvm
        generalize H1 = H at hP hS ⊢
        obtain ⟨x_13, hx_13, h⟩ := ob_some h
        refine va_callv (va_runS (As := [.ref (q 18), .int v2, .int x_12]) (rest := []) ⟨hx, hb, hml, hown, hts⟩ (c_X3_widen_c18 l D cI cJ q hq F I J (fu (fu a 9 x_11) 10 a10) b v2 x_12 x_13 hx_13) (va_cwS 3 hts gX3_readRow_X3_widen rfl rfl rfl (by decide +kernel) (by rw [hR]; exact ⟨Nat.le_of_ble_eq_true rfl, Nat.le_of_ble_eq_true rfl⟩)) ⟨CUPc_blind, fun U hU hW => ⟨rfl, by rw [hU]; exact hP, va_K.moved hW.alike hK, va_Nw.warmM hW hN⟩⟩ rfl rfl hl.1 rfl (lv_room (Nat.le_of_ble_eq_true rfl)) dX3_readRow_56 ⟨Nat.zero_le _, Nat.zero_le _⟩) hS (fun _ _ h => h) (fun _ h => h) (fun u t H1 locs ht hvm hw hB hz1 hk1 hS => ?_)
        obtain rfl := hw.symm
        rw [ht] at hB
        have hP : va_P D vwCl (CUW cI cJ q I J (fu (fu a 9 x_11) 10 x_13) b) H1 := hB
        clear hB hz1 hk1 ht hvm
        generalize H1 = H at hP hS ⊢
        refine lv_iinc (v := v2 + 1) (lv' := [(2, .int (v2 + 1)), (0, .ref (q 6)), (1, .int v1)]) hx hb dX3_readRow_59 hl (k := 2) rfl rfl (by decide) rfl (fun ls hl => ?_)
        refine lv_goto (tgt := 16) hx hb dX3_readRow_62 (by decide) ?_
        exact ih16 v1 (v2 + 1) x_11 x_13 h _ _ hP hS ls (lv_sub hl [1, 2, 0] rfl)
  refine lv_aload_n hx hb dX3_readRow_0 rfl (lv_at hl 0 rfl) ?_
  refine va_get (D := D) (ci := 3) (v := .ref (q 17)) (C := RX3) (T := TX3) (N := 13) hx hb hts in_X3_readRow_X3 hown hK hP 6 rfl rfl 3 (by decide) (hts (.fieldLink RX3 19 "LearnedReasons$Models" "lowSums" "[I") (by decide +kernel)) (fun _ h9 => h9) rfl dX3_readRow_1 ?_
  refine lv_iconst (v := 0) hx hb dX3_readRow_4 (by decide) ?_
  refine lv_iconst (v := 0) hx hb dX3_readRow_5 (by decide) ?_
  obtain ⟨g_14, h⟩ := gd_some h
  refine va_iast hx hb hK hP (CUW_D hq) hS 17 0 rfl rfl g_14 dX3_readRow_6 (fun H locs hP _ hS => ?_)
  have hP : va_P D vwCl (CUW cI cJ q I J (fu a 9 (upd (a 9) (0 : Int32).toNatClampNeg 0)) b) H := hP
  refine lv_aload_n hx hb dX3_readRow_7 rfl (lv_at hl 0 rfl) ?_
  refine va_get (D := D) (ci := 3) (v := .ref (q 18)) (C := RX3) (T := TX3) (N := 13) hx hb hts in_X3_readRow_X3 hown hK hP 6 rfl rfl 4 (by decide) (hts (.fieldLink RX3 22 "LearnedReasons$Models" "highSums" "[I") (by decide +kernel)) (fun _ h9 => h9) rfl dX3_readRow_8 ?_
  refine lv_iconst (v := 0) hx hb dX3_readRow_11 (by decide) ?_
  refine lv_iconst (v := 0) hx hb dX3_readRow_12 (by decide) ?_
  obtain ⟨g_15, h⟩ := gd_some h
  refine va_iast hx hb hK hP (CUW_D hq) hS 18 0 rfl rfl g_15 dX3_readRow_13 (fun H locs hP _ hS => ?_)
  have hP : va_P D vwCl (CUW cI cJ q I J (fu (fu a 9 (upd (a 9) (0 : Int32).toNatClampNeg 0)) 10 (upd (a 10) (0 : Int32).toNatClampNeg 0)) b) H := hP
  refine lv_iconst (v := 0) hx hb dX3_readRow_14 (by decide) ?_
  refine lv_istore_n (lv' := [(2, .int 0), (0, .ref (q 6)), (1, .int v1)]) hx hb dX3_readRow_15 rfl hl (by decide) rfl (fun ls hl => ?_)
  exact C16 F v1 0 (upd (a 9) (0 : Int32).toNatClampNeg 0) (upd (a 10) (0 : Int32).toNatClampNeg 0) h _ _ hP hS ls (lv_sub hl [1, 2, 0] rfl)
theorem in_X3_readClause_X3 : ∀ w ∈ wsX30, w ∈ wsX3_readClause := by decide +kernel
set_option maxHeartbeats 4000000 in
set_option maxRecDepth 100000 in
theorem c_X3_readClause (l : Launch) (D : va_G) (cI cJ : ClassId) (q : Nat → Nat) (hq : CUQ q) (F : Nat) (I : Nat → Int32) (J : Nat → Int64) (a : Nat → Nat → Int32) (b : Nat → Nat → Int64) (v1 : Int32) (x0 : (Nat → Int64)) (h : f_X3_readClause F I J a b v1 = some x0) : Met l yX3_readClause wsX3_readClause ({ frames := 1, cells := 0, slots := 0, locals := 25 }) (CUPc D cI cJ q I J a b [.ref (q 6), .int v1]) (va_Qv (fun (u : (Nat → Int64)) => u = x0) (fun (u : (Nat → Int64)) t => va_P D vwCl (CUW cI cJ q I J a (fu b 0 u)) t.heap) (CUA q)) 0 0 (CUA q) := by
  refine mt_of (cc := cX3_readClause) (maxL := 6) (ret := none) (by decide) rfl ?_
  intro p e s m args below meth c s₁ B0 hml hv R Q hR hQ
  obtain ⟨hargs, hP, hK, hN⟩ := hv
  have hx := B0.exec
  have hb := B0.bytes
  have hr := B0.returns
  have hts := atoms_spec (ws := wsX3_readClause) B0.pre
  have hown : s.vm.findClass RX3 = some m.cls := findClass_of_methodNamed B0.named
  have hlocks := B0.notSynchronized
  have hS : va_S (CUA q) s.heap s.heap [] := va_S.rf
  have hl := lv_entry ([.ref (q 6), .int v1]) (n := 6) (Nat.le_of_ble_eq_true rfl)
  rw [hargs, lg_entry_eq]
  rw [← hargs]
  generalize (lg_sl ([.ref (q 6), .int v1]) ++ List.replicate (6 - (lg_sl ([.ref (q 6), .int v1])).length) Slot.unset).toArray = ls at hl ⊢
  have hl : lv_has ls 6 [(0, .ref (q 6)), (1, .int v1)] := hl
  unfold f_X3_readClause at h
  have C32 : ∀ (n32 : Nat) (v1 : Int32) (v2 : Int32) (v3 : Int32) (v4 : Int32) (v5 : Int32) (b0 : Nat → Int64), k_X3_readClause_32 F I J a b n32 v1 v2 v3 v4 v5 b0 = some x0 → ∀ (H : Heap) (locs : List Loc), va_P D vwCl (CUW cI cJ q I J a (fu b 0 b0)) H → va_S (CUA q) s.heap H locs → ∀ ls : Array Slot, lv_has ls 6 [(0, .ref (q 6)), (1, .int v1), (2, .int v2), (3, .int v3), (4, .int v4), (5, .int v5)] → W p l e R s m args below meth c H locs 0 0 Q (F0 m 32 ls []) := by
    intro n32
    induction n32 with
    | zero => intro v1 v2 v3 v4 v5 b0 h; rw [k_X3_readClause_32] at h; cases h
    | succ n32 ih32 =>
      intro v1 v2 v3 v4 v5 b0 h H locs hP hS ls hl
      rw [k_X3_readClause_32] at h
      refine lv_iload hx hb dX3_readClause_32 (lv_at hl 5 rfl) ?_
      refine lv_iload hx hb dX3_readClause_34 (lv_at hl 4 rfl) ?_
      refine lv_icmp_ge (tgt := 73) hx hb dX3_readClause_36 (by decide) (fun c_1 => ?_) (fun c_1 => ?_)
      · have h := if_t c_1 h
        have hx0 := Option.some.inj h
        rw [hQ]
        exact W.vret hx hb hr (fun t ht hW => ⟨⟨b0, rfl, hx0, by show va_P _ _ _ t.heap; rw [ht]; exact hP⟩, hS.F ht⟩) hS.2.2 dX3_readClause_73
      · have h := if_f c_1 h
        refine lv_aload_n hx hb dX3_readClause_39 rfl (lv_at hl 0 rfl) ?_
        refine lv_iload hx hb dX3_readClause_40 (lv_at hl 5 rfl) ?_
        refine lv_iload_n hx hb dX3_readClause_42 rfl (lv_at hl 1 rfl) ?_
        refine lv_iload hx hb dX3_readClause_43 (lv_at hl 5 rfl) ?_
        refine lv_iload_n hx hb dX3_readClause_45 rfl (lv_at hl 2 rfl) ?_
        refine lv_iand hx hb dX3_readClause_46 ?_
        refine lv_if_ne (tgt := 63) hx hb dX3_readClause_47 (by decide) (fun c_2 => ?_) (fun c_2 => ?_)
        · have h := if_f c_2 h
          refine lv_iconst (v := 0) hx hb dX3_readClause_63 (by decide) ?_
          obtain ⟨x_3, hx_3, h⟩ := ob_some h
          refine va_callv (va_runV (As := [.int v5, .int v1, .int 0]) (rest := []) ⟨hx, hb, hml, hown, hts⟩ (c_X3_mark l D cI cJ q hq F I J a (fu b 0 b0) v5 v1 0 x_3 hx_3) (cwV 3 hts gX3_readClause_X3_mark rfl rfl rfl (by decide +kernel) (by rw [hR]; exact ⟨Nat.le_of_ble_eq_true rfl, Nat.le_of_ble_eq_true rfl⟩)) ⟨CUPc_blind, va_recv hK hP (ci := 3) (q0 := 6) rfl rfl, fun U hU hW => ⟨rfl, by rw [hU]; exact hP, va_K.moved hW.alike hK, va_Nw.warmM hW hN⟩⟩ rfl rfl hl.1 rfl (lv_room (Nat.le_of_ble_eq_true rfl)) dX3_readClause_64 ⟨Nat.zero_le _, Nat.zero_le _⟩) hS (fun _ _ h => h) (fun _ h => h) (fun u t H1 locs ht hvm hw hB hz1 hk1 hS => ?_)
          obtain rfl := hw.symm
          rw [ht] at hB
          have hP : va_P D vwCl (CUW cI cJ q I J a (fu b 0 x_3)) H1 := hB
          clear hB hz1 hk1 ht hvm
          generalize H1 = H at hP hS ⊢
          refine lv_iinc (v := v5 + 1) (lv' := [(5, .int (v5 + 1)), (0, .ref (q 6)), (1, .int v1), (2, .int v2), (3, .int v3), (4, .int v4)]) hx hb dX3_readClause_67 hl (k := 5) rfl rfl (by decide) rfl (fun ls hl => ?_)
          refine lv_goto (tgt := 32) hx hb dX3_readClause_70 (by decide) ?_
          exact ih32 v1 v2 v3 v4 (v5 + 1) x_3 h _ _ hP hS ls (lv_sub hl [1, 2, 3, 4, 5, 0] rfl)
        · have h := if_t c_2 h
          refine lv_iload hx hb dX3_readClause_50 (lv_at hl 5 rfl) ?_
          refine lv_iconst (v := (-1)) hx hb dX3_readClause_52 (by decide) ?_
          refine lv_ixor hx hb dX3_readClause_53 ?_
          refine lv_iload_n hx hb dX3_readClause_54 rfl (lv_at hl 3 rfl) ?_
          refine lv_iand hx hb dX3_readClause_55 ?_
          refine lv_if_ne (tgt := 63) hx hb dX3_readClause_56 (by decide) (fun c_4 => ?_) (fun c_4 => ?_)
          · have h := if_f c_4 h
            refine lv_iconst (v := 0) hx hb dX3_readClause_63 (by decide) ?_
            obtain ⟨x_5, hx_5, h⟩ := ob_some h
            refine va_callv (va_runV (As := [.int v5, .int v1, .int 0]) (rest := []) ⟨hx, hb, hml, hown, hts⟩ (c_X3_mark l D cI cJ q hq F I J a (fu b 0 b0) v5 v1 0 x_5 hx_5) (cwV 3 hts gX3_readClause_X3_mark rfl rfl rfl (by decide +kernel) (by rw [hR]; exact ⟨Nat.le_of_ble_eq_true rfl, Nat.le_of_ble_eq_true rfl⟩)) ⟨CUPc_blind, va_recv hK hP (ci := 3) (q0 := 6) rfl rfl, fun U hU hW => ⟨rfl, by rw [hU]; exact hP, va_K.moved hW.alike hK, va_Nw.warmM hW hN⟩⟩ rfl rfl hl.1 rfl (lv_room (Nat.le_of_ble_eq_true rfl)) dX3_readClause_64 ⟨Nat.zero_le _, Nat.zero_le _⟩) hS (fun _ _ h => h) (fun _ h => h) (fun u t H1 locs ht hvm hw hB hz1 hk1 hS => ?_)
            obtain rfl := hw.symm
            rw [ht] at hB
            have hP : va_P D vwCl (CUW cI cJ q I J a (fu b 0 x_5)) H1 := hB
            clear hB hz1 hk1 ht hvm
            generalize H1 = H at hP hS ⊢
            refine lv_iinc (v := v5 + 1) (lv' := [(5, .int (v5 + 1)), (0, .ref (q 6)), (1, .int v1), (2, .int v2), (3, .int v3), (4, .int v4)]) hx hb dX3_readClause_67 hl (k := 5) rfl rfl (by decide) rfl (fun ls hl => ?_)
            refine lv_goto (tgt := 32) hx hb dX3_readClause_70 (by decide) ?_
            exact ih32 v1 v2 v3 v4 (v5 + 1) x_5 h _ _ hP hS ls (lv_sub hl [1, 2, 3, 4, 5, 0] rfl)
          · have h := if_t c_4 h
            refine lv_iconst (v := 1) hx hb dX3_readClause_59 (by decide) ?_
            refine lv_goto (tgt := 64) hx hb dX3_readClause_60 (by decide) ?_
            obtain ⟨x_6, hx_6, h⟩ := ob_some h
            refine va_callv (va_runV (As := [.int v5, .int v1, .int 1]) (rest := []) ⟨hx, hb, hml, hown, hts⟩ (c_X3_mark l D cI cJ q hq F I J a (fu b 0 b0) v5 v1 1 x_6 hx_6) (cwV 3 hts gX3_readClause_X3_mark rfl rfl rfl (by decide +kernel) (by rw [hR]; exact ⟨Nat.le_of_ble_eq_true rfl, Nat.le_of_ble_eq_true rfl⟩)) ⟨CUPc_blind, va_recv hK hP (ci := 3) (q0 := 6) rfl rfl, fun U hU hW => ⟨rfl, by rw [hU]; exact hP, va_K.moved hW.alike hK, va_Nw.warmM hW hN⟩⟩ rfl rfl hl.1 rfl (lv_room (Nat.le_of_ble_eq_true rfl)) dX3_readClause_64 ⟨Nat.zero_le _, Nat.zero_le _⟩) hS (fun _ _ h => h) (fun _ h => h) (fun u t H1 locs ht hvm hw hB hz1 hk1 hS => ?_)
            obtain rfl := hw.symm
            rw [ht] at hB
            have hP : va_P D vwCl (CUW cI cJ q I J a (fu b 0 x_6)) H1 := hB
            clear hB hz1 hk1 ht hvm
            generalize H1 = H at hP hS ⊢
            refine lv_iinc (v := v5 + 1) (lv' := [(5, .int (v5 + 1)), (0, .ref (q 6)), (1, .int v1), (2, .int v2), (3, .int v3), (4, .int v4)]) hx hb dX3_readClause_67 hl (k := 5) rfl rfl (by decide) rfl (fun ls hl => ?_)
            refine lv_goto (tgt := 32) hx hb dX3_readClause_70 (by decide) ?_
            exact ih32 v1 v2 v3 v4 (v5 + 1) x_6 h _ _ hP hS ls (lv_sub hl [1, 2, 3, 4, 5, 0] rfl)
  refine lv_aload_n hx hb dX3_readClause_0 rfl (lv_at hl 0 rfl) ?_
  refine va_get (D := D) (ci := 3) (v := .ref (q 1)) (C := RX3) (T := TX3) (N := 13) hx hb hts in_X3_readClause_X3 hown hK hP 6 rfl rfl 0 (by decide) (hts (.fieldLink RX3 25 "LearnedReasons$Models" "things" "LLearnedReasons$Things;") (by decide +kernel)) (fun _ h9 => h9) rfl dX3_readClause_1 ?_
  refine lv_iload_n hx hb dX3_readClause_4 rfl (lv_at hl 1 rfl) ?_
  obtain ⟨x_7, hx_7, h⟩ := ob_some h
  refine va_calli (va_runV (As := [.int v1]) (rest := []) ⟨hx, hb, hml, hown, hts⟩ (c_X5_wantedTrue l D cI cJ q hq F I J a b v1 x_7 hx_7) (cwV 1 hts gX3_readClause_X5_wantedTrue rfl rfl rfl (by decide +kernel) (by rw [hR]; exact ⟨Nat.le_of_ble_eq_true rfl, Nat.le_of_ble_eq_true rfl⟩)) ⟨CUPc_blind, va_recv hK hP (ci := 5) (q0 := 1) rfl rfl, fun U hU hW => ⟨rfl, by rw [hU]; exact hP, va_K.moved hW.alike hK, va_Nw.warmM hW hN⟩⟩ rfl rfl hl.1 rfl (lv_room (Nat.le_of_ble_eq_true rfl)) dX3_readClause_5 ⟨Nat.zero_le _, Nat.zero_le _⟩) hS (fun _ _ h => h) (fun _ h => h) (fun r u t H1 locs ht hvm hw hB hz1 hk1 hS => ?_)
  obtain rfl := hw.symm
  rw [ht] at hB
  have hP : va_P D vwCl (CUW cI cJ q I J a b) H1 := hB
  clear hB hz1 hk1 ht hvm
  generalize H1 = H at hP hS ⊢
  refine lv_istore_n (lv' := [(2, .int x_7), (0, .ref (q 6)), (1, .int v1)]) hx hb dX3_readClause_8 rfl hl (by decide) rfl (fun ls hl => ?_)
  refine lv_aload_n hx hb dX3_readClause_9 rfl (lv_at hl 1 rfl) ?_
  refine va_get (D := D) (ci := 3) (v := .ref (q 1)) (C := RX3) (T := TX3) (N := 13) hx hb hts in_X3_readClause_X3 hown hK hP 6 rfl rfl 0 (by decide) (hts (.fieldLink RX3 25 "LearnedReasons$Models" "things" "LLearnedReasons$Things;") (by decide +kernel)) (fun _ h9 => h9) rfl dX3_readClause_10 ?_
  refine lv_iload_n hx hb dX3_readClause_13 rfl (lv_at hl 2 rfl) ?_
  obtain ⟨x_8, hx_8, h⟩ := ob_some h
  refine va_calli (va_runV (As := [.int v1]) (rest := []) ⟨hx, hb, hml, hown, hts⟩ (c_X5_wantedFalse l D cI cJ q hq F I J a b v1 x_8 hx_8) (cwV 1 hts gX3_readClause_X5_wantedFalse rfl rfl rfl (by decide +kernel) (by rw [hR]; exact ⟨Nat.le_of_ble_eq_true rfl, Nat.le_of_ble_eq_true rfl⟩)) ⟨CUPc_blind, va_recv hK hP (ci := 5) (q0 := 1) rfl rfl, fun U hU hW => ⟨rfl, by rw [hU]; exact hP, va_K.moved hW.alike hK, va_Nw.warmM hW hN⟩⟩ rfl rfl hl.1 rfl (lv_room (Nat.le_of_ble_eq_true rfl)) dX3_readClause_14 ⟨Nat.zero_le _, Nat.zero_le _⟩) hS (fun _ _ h => h) (fun _ h => h) (fun r u t H1 locs ht hvm hw hB hz1 hk1 hS => ?_)
  obtain rfl := hw.symm
  rw [ht] at hB
  have hP : va_P D vwCl (CUW cI cJ q I J a b) H1 := hB
  clear hB hz1 hk1 ht hvm
  generalize H1 = H at hP hS ⊢
  refine lv_istore_n (lv' := [(3, .int x_8), (2, .int x_7), (0, .ref (q 6)), (1, .int v1)]) hx hb dX3_readClause_17 rfl hl (by decide) rfl (fun ls hl => ?_)
  refine lv_iconst (v := 1) hx hb dX3_readClause_18 (by decide) ?_
  refine lv_aload_n hx hb dX3_readClause_19 rfl (lv_at hl 2 rfl) ?_
  refine va_get (D := D) (ci := 3) (v := .ref (q 1)) (C := RX3) (T := TX3) (N := 13) hx hb hts in_X3_readClause_X3 hown hK hP 6 rfl rfl 0 (by decide) (hts (.fieldLink RX3 25 "LearnedReasons$Models" "things" "LLearnedReasons$Things;") (by decide +kernel)) (fun _ h9 => h9) rfl dX3_readClause_20 ?_
  obtain ⟨x_9, hx_9, h⟩ := ob_some h
  refine va_calli (va_runV (As := []) (rest := [.int 1]) ⟨hx, hb, hml, hown, hts⟩ (c_X5_names l D cI cJ q hq F I J a b x_9 hx_9) (cwV 0 hts gX3_readClause_X5_names rfl rfl rfl (by decide +kernel) (by rw [hR]; exact ⟨Nat.le_of_ble_eq_true rfl, Nat.le_of_ble_eq_true rfl⟩)) ⟨CUPc_blind, va_recv hK hP (ci := 5) (q0 := 1) rfl rfl, fun U hU hW => ⟨rfl, by rw [hU]; exact hP, va_K.moved hW.alike hK, va_Nw.warmM hW hN⟩⟩ rfl rfl hl.1 rfl (lv_room (Nat.le_of_ble_eq_true rfl)) dX3_readClause_23 ⟨Nat.zero_le _, Nat.zero_le _⟩) hS (fun _ _ h => h) (fun _ h => h) (fun r u t H1 locs ht hvm hw hB hz1 hk1 hS => ?_)
  obtain rfl := hw.symm
  rw [ht] at hB
  have hP : va_P D vwCl (CUW cI cJ q I J a b) H1 := hB
  clear hB hz1 hk1 ht hvm
  generalize H1 = H at hP hS ⊢
  refine lv_ishl hx hb dX3_readClause_26 ?_
  refine lv_topi (fun v_10 ev_10 => ?_)
  have h := nmI_at ev_10 h
  refine lv_istore (lv' := [(4, .int v_10), (3, .int x_8), (2, .int x_7), (0, .ref (q 6)), (1, .int v1)]) hx hb dX3_readClause_27 hl (by decide) rfl (fun ls hl => ?_)
  refine lv_iconst (v := 0) hx hb dX3_readClause_29 (by decide) ?_
  refine lv_istore (lv' := [(5, .int 0), (4, .int v_10), (3, .int x_8), (2, .int x_7), (0, .ref (q 6)), (1, .int v1)]) hx hb dX3_readClause_30 hl (by decide) rfl (fun ls hl => ?_)
  exact C32 F v1 x_7 x_8 v_10 0 (b 0) h _ _ hP hS ls (lv_sub hl [4, 5, 3, 2, 1, 0] rfl)
theorem in_X5_allRead_X5 : ∀ w ∈ wsX50, w ∈ wsX5_allRead := by decide +kernel
set_option maxHeartbeats 4000000 in
set_option maxRecDepth 100000 in
theorem c_X5_allRead (l : Launch) (D : va_G) (cI cJ : ClassId) (q : Nat → Nat) (hq : CUQ q) (F : Nat) (I : Nat → Int32) (J : Nat → Int64) (a : Nat → Nat → Int32) (b : Nat → Nat → Int64) (x0 : Int64) (h : f_X5_allRead F I J a b = some x0) : Met l yX5_allRead wsX5_allRead ({ frames := 0, cells := 0, slots := 0, locals := 0 }) (CUPc D cI cJ q I J a b [.ref (q 1)]) (va_Qv (fun (u : Int64) => u = x0) (fun (u : Int64) t => va_P D vwCl (CUW cI cJ q I (fu J 2 u) a b) t.heap) (CUA q)) 0 0 (CUA q) := by
  refine mt_of (cc := cX5_allRead) (maxL := 1) (ret := none) (by decide) rfl ?_
  intro p e s m args below meth c s₁ B0 hml hv R Q hR hQ
  obtain ⟨hargs, hP, hK, hN⟩ := hv
  have hx := B0.exec
  have hb := B0.bytes
  have hr := B0.returns
  have hts := atoms_spec (ws := wsX5_allRead) B0.pre
  have hown : s.vm.findClass RX5 = some m.cls := findClass_of_methodNamed B0.named
  have hlocks := B0.notSynchronized
  have hS : va_S (CUA q) s.heap s.heap [] := va_S.rf
  have hl := lv_entry ([.ref (q 1)]) (n := 1) (Nat.le_of_ble_eq_true rfl)
  rw [hargs, lg_entry_eq]
  rw [← hargs]
  generalize (lg_sl ([.ref (q 1)]) ++ List.replicate (1 - (lg_sl ([.ref (q 1)])).length) Slot.unset).toArray = ls at hl ⊢
  have hl : lv_has ls 1 [(0, .ref (q 1))] := hl
  unfold f_X5_allRead at h
  refine lv_aload_n hx hb dX5_allRead_0 rfl (lv_at hl 0 rfl) ?_
  refine lv_lconst (v := 0) hx hb dX5_allRead_1 (by decide) ?_
  refine va_put (D := D) (ci := 5) (v := .long 0) (ty := .long) (C := RX5) (T := TX5) (N := 9) hx hb hts in_X5_allRead_X5 tyX5 tyX5_ok nmX5 hown hK hP (CUW_D hq) hS 1 rfl rfl 4 (by decide) (hts (.fieldLink RX5 32 "LearnedReasons$Things" "unread" "J") (by decide +kernel)) (fun _ h9 => h9) rfl (by decide +kernel) rfl rfl (Nat.le_of_ble_eq_true rfl) dX5_allRead_2 (fun H locs hP _ hS => ?_)
  have hP : va_P D vwCl (CUW cI cJ q I (fu J 2 0) a b) H := hP
  have hx0 := Option.some.inj h
  rw [hQ]
  exact W.vret hx hb hr (fun t ht hW => ⟨⟨0, rfl, hx0, by show va_P _ _ _ t.heap; rw [ht]; exact hP⟩, hS.F ht⟩) hS.2.2 dX5_allRead_5
theorem in_X3_readThings_X3 : ∀ w ∈ wsX30, w ∈ wsX3_readThings := by decide +kernel
set_option maxHeartbeats 4000000 in
set_option maxRecDepth 100000 in
theorem c_X3_readThings (l : Launch) (D : va_G) (cI cJ : ClassId) (q : Nat → Nat) (hq : CUQ q) (F : Nat) (I : Nat → Int32) (J : Nat → Int64) (a : Nat → Nat → Int32) (b : Nat → Nat → Int64) (x0 : Int64 × (Nat → Int32) × (Nat → Int32) × (Nat → Int64)) (h : f_X3_readThings F I J a b = some x0) : Met l yX3_readThings wsX3_readThings ({ frames := 2, cells := 0, slots := 0, locals := 50 }) (CUPc D cI cJ q I J a b [.ref (q 6)]) (va_Qv (fun (u : Int64 × (Nat → Int32) × (Nat → Int32) × (Nat → Int64)) => u = x0) (fun (u : Int64 × (Nat → Int32) × (Nat → Int32) × (Nat → Int64)) t => va_P D vwCl (CUW cI cJ q I (fu J 2 u.1) (fu (fu a 9 u.2.1) 10 u.2.2.1) (fu b 0 u.2.2.2)) t.heap) (CUA q)) 0 0 (CUA q) := by
  refine mt_of (cc := cX3_readThings) (maxL := 3) (ret := none) (by decide) rfl ?_
  intro p e s m args below meth c s₁ B0 hml hv R Q hR hQ
  obtain ⟨hargs, hP, hK, hN⟩ := hv
  have hx := B0.exec
  have hb := B0.bytes
  have hr := B0.returns
  have hts := atoms_spec (ws := wsX3_readThings) B0.pre
  have hown : s.vm.findClass RX3 = some m.cls := findClass_of_methodNamed B0.named
  have hlocks := B0.notSynchronized
  have hS : va_S (CUA q) s.heap s.heap [] := va_S.rf
  have hl := lv_entry ([.ref (q 6)]) (n := 3) (Nat.le_of_ble_eq_true rfl)
  rw [hargs, lg_entry_eq]
  rw [← hargs]
  generalize (lg_sl ([.ref (q 6)]) ++ List.replicate (3 - (lg_sl ([.ref (q 6)])).length) Slot.unset).toArray = ls at hl ⊢
  have hl : lv_has ls 3 [(0, .ref (q 6))] := hl
  unfold f_X3_readThings at h
  have C10 : ∀ (n10 : Nat) (v1 : Int32) (v2 : Int32) (a9 : Nat → Int32) (a10 : Nat → Int32) (b0 : Nat → Int64), k_X3_readThings_10 F I J a b n10 v1 v2 a9 a10 b0 = some x0 → ∀ (H : Heap) (locs : List Loc), va_P D vwCl (CUW cI cJ q I J (fu (fu a 9 a9) 10 a10) (fu b 0 b0)) H → va_S (CUA q) s.heap H locs → ∀ ls : Array Slot, lv_has ls 3 [(0, .ref (q 6)), (1, .int v1), (2, .int v2)] → W p l e R s m args below meth c H locs 0 0 Q (F0 m 10 ls []) := by
    intro n10
    induction n10 with
    | zero => intro v1 v2 a9 a10 b0 h; rw [k_X3_readThings_10] at h; cases h
    | succ n10 ih10 =>
      intro v1 v2 a9 a10 b0 h H locs hP hS ls hl
      rw [k_X3_readThings_10] at h
      refine lv_iload_n hx hb dX3_readThings_10 rfl (lv_at hl 2 rfl) ?_
      refine lv_iload_n hx hb dX3_readThings_11 rfl (lv_at hl 1 rfl) ?_
      refine lv_icmp_ge (tgt := 56) hx hb dX3_readThings_12 (by decide) (fun c_1 => ?_) (fun c_1 => ?_)
      · have h := if_t c_1 h
        refine lv_aload_n hx hb dX3_readThings_56 rfl (lv_at hl 0 rfl) ?_
        refine va_get (D := D) (ci := 3) (v := .ref (q 1)) (C := RX3) (T := TX3) (N := 13) hx hb hts in_X3_readThings_X3 hown hK hP 6 rfl rfl 0 (by decide) (hts (.fieldLink RX3 25 "LearnedReasons$Models" "things" "LLearnedReasons$Things;") (by decide +kernel)) (fun _ h9 => h9) rfl dX3_readThings_57 ?_
        obtain ⟨x_2, hx_2, h⟩ := ob_some h
        refine va_callv (va_runV (As := []) (rest := []) ⟨hx, hb, hml, hown, hts⟩ (c_X5_allRead l D cI cJ q hq F I J (fu (fu a 9 a9) 10 a10) (fu b 0 b0) x_2 hx_2) (cwV 0 hts gX3_readThings_X5_allRead rfl rfl rfl (by decide +kernel) (by rw [hR]; exact ⟨Nat.le_of_ble_eq_true rfl, Nat.le_of_ble_eq_true rfl⟩)) ⟨CUPc_blind, va_recv hK hP (ci := 5) (q0 := 1) rfl rfl, fun U hU hW => ⟨rfl, by rw [hU]; exact hP, va_K.moved hW.alike hK, va_Nw.warmM hW hN⟩⟩ rfl rfl hl.1 rfl (lv_room (Nat.le_of_ble_eq_true rfl)) dX3_readThings_60 ⟨Nat.zero_le _, Nat.zero_le _⟩) hS (fun _ _ h => h) (fun _ h => h) (fun u t H1 locs ht hvm hw hB hz1 hk1 hS => ?_)
        obtain rfl := hw.symm
        rw [ht] at hB
        have hP : va_P D vwCl (CUW cI cJ q I (fu J 2 x_2) (fu (fu a 9 a9) 10 a10) (fu b 0 b0)) H1 := hB
        clear hB hz1 hk1 ht hvm
        generalize H1 = H at hP hS ⊢
        have hx0 := Option.some.inj h
        rw [hQ]
        exact W.vret hx hb hr (fun t ht hW => ⟨⟨(x_2, a9, a10, b0), rfl, hx0, by show va_P _ _ _ t.heap; rw [ht]; exact hP⟩, hS.F ht⟩) hS.2.2 dX3_readThings_63
      · have h := if_f c_1 h
        refine lv_aload_n hx hb dX3_readThings_15 rfl (lv_at hl 0 rfl) ?_
        refine va_get (D := D) (ci := 3) (v := .ref (q 1)) (C := RX3) (T := TX3) (N := 13) hx hb hts in_X3_readThings_X3 hown hK hP 6 rfl rfl 0 (by decide) (hts (.fieldLink RX3 25 "LearnedReasons$Models" "things" "LLearnedReasons$Things;") (by decide +kernel)) (fun _ h9 => h9) rfl dX3_readThings_16 ?_
        refine lv_iload_n hx hb dX3_readThings_19 rfl (lv_at hl 2 rfl) ?_
        obtain ⟨x_3, hx_3, h⟩ := ob_some h
        refine va_calli (va_runV (As := [.int v2]) (rest := []) ⟨hx, hb, hml, hown, hts⟩ (c_X5_isUnread l D cI cJ q hq F I J (fu (fu a 9 a9) 10 a10) (fu b 0 b0) v2 x_3 hx_3) (cwV 1 hts gX3_readThings_X5_isUnread rfl rfl rfl (by decide +kernel) (by rw [hR]; exact ⟨Nat.le_of_ble_eq_true rfl, Nat.le_of_ble_eq_true rfl⟩)) ⟨CUPc_blind, va_recv hK hP (ci := 5) (q0 := 1) rfl rfl, fun U hU hW => ⟨rfl, by rw [hU]; exact hP, va_K.moved hW.alike hK, va_Nw.warmM hW hN⟩⟩ rfl rfl hl.1 rfl (lv_room (Nat.le_of_ble_eq_true rfl)) dX3_readThings_20 ⟨Nat.zero_le _, Nat.zero_le _⟩) hS (fun _ _ h => h) (fun _ h => h) (fun r u t H1 locs ht hvm hw hB hz1 hk1 hS => ?_)
        obtain rfl := hw.symm
        rw [ht] at hB
        have hP : va_P D vwCl (CUW cI cJ q I J (fu (fu a 9 a9) 10 a10) (fu b 0 b0)) H1 := hB
        clear hB hz1 hk1 ht hvm
        generalize H1 = H at hP hS ⊢
        refine lv_if_eq (tgt := 50) hx hb dX3_readThings_23 (by decide) (fun c_4 => ?_) (fun c_4 => ?_)
        · have h := if_t c_4 h
          refine lv_iinc (v := v2 + 1) (lv' := [(2, .int (v2 + 1)), (0, .ref (q 6)), (1, .int v1)]) hx hb dX3_readThings_50 hl (k := 2) rfl rfl (by decide) rfl (fun ls hl => ?_)
          refine lv_goto (tgt := 10) hx hb dX3_readThings_53 (by decide) ?_
          exact ih10 v1 (v2 + 1) a9 a10 b0 h _ _ hP hS ls (lv_sub hl [1, 2, 0] rfl)
        · have h := if_f c_4 h
          refine lv_aload_n hx hb dX3_readThings_26 rfl (lv_at hl 0 rfl) ?_
          refine va_get (D := D) (ci := 3) (v := .ref (q 1)) (C := RX3) (T := TX3) (N := 13) hx hb hts in_X3_readThings_X3 hown hK hP 6 rfl rfl 0 (by decide) (hts (.fieldLink RX3 25 "LearnedReasons$Models" "things" "LLearnedReasons$Things;") (by decide +kernel)) (fun _ h9 => h9) rfl dX3_readThings_27 ?_
          refine lv_iload_n hx hb dX3_readThings_30 rfl (lv_at hl 2 rfl) ?_
          obtain ⟨x_5, hx_5, h⟩ := ob_some h
          refine va_calli (va_runV (As := [.int v2]) (rest := []) ⟨hx, hb, hml, hown, hts⟩ (c_X5_isRow l D cI cJ q hq F I J (fu (fu a 9 a9) 10 a10) (fu b 0 b0) v2 x_5 hx_5) (cwV 1 hts gX3_readThings_X5_isRow rfl rfl rfl (by decide +kernel) (by rw [hR]; exact ⟨Nat.le_of_ble_eq_true rfl, Nat.le_of_ble_eq_true rfl⟩)) ⟨CUPc_blind, va_recv hK hP (ci := 5) (q0 := 1) rfl rfl, fun U hU hW => ⟨rfl, by rw [hU]; exact hP, va_K.moved hW.alike hK, va_Nw.warmM hW hN⟩⟩ rfl rfl hl.1 rfl (lv_room (Nat.le_of_ble_eq_true rfl)) dX3_readThings_31 ⟨Nat.zero_le _, Nat.zero_le _⟩) hS (fun _ _ h => h) (fun _ h => h) (fun r u t H1 locs ht hvm hw hB hz1 hk1 hS => ?_)
          obtain rfl := hw.symm
          rw [ht] at hB
          have hP : va_P D vwCl (CUW cI cJ q I J (fu (fu a 9 a9) 10 a10) (fu b 0 b0)) H1 := hB
          clear hB hz1 hk1 ht hvm
          generalize H1 = H at hP hS ⊢
          refine lv_if_eq (tgt := 45) hx hb dX3_readThings_34 (by decide) (fun c_6 => ?_) (fun c_6 => ?_)
          · have h := if_t c_6 h
            refine lv_aload_n hx hb dX3_readThings_45 rfl (lv_at hl 0 rfl) ?_
            refine lv_iload_n hx hb dX3_readThings_46 rfl (lv_at hl 2 rfl) ?_
            obtain ⟨x_7, hx_7, h⟩ := ob_some h
            refine va_callv (va_runV (As := [.int v2]) (rest := []) ⟨hx, hb, hml, hown, hts⟩ (c_X3_readClause l D cI cJ q hq F I J (fu (fu a 9 a9) 10 a10) (fu b 0 b0) v2 x_7 hx_7) (cwV 1 hts gX3_readThings_X3_readClause rfl rfl rfl (by decide +kernel) (by rw [hR]; exact ⟨Nat.le_of_ble_eq_true rfl, Nat.le_of_ble_eq_true rfl⟩)) ⟨CUPc_blind, va_recv hK hP (ci := 3) (q0 := 6) rfl rfl, fun U hU hW => ⟨rfl, by rw [hU]; exact hP, va_K.moved hW.alike hK, va_Nw.warmM hW hN⟩⟩ rfl rfl hl.1 rfl (lv_room (Nat.le_of_ble_eq_true rfl)) dX3_readThings_47 ⟨Nat.zero_le _, Nat.zero_le _⟩) hS (fun _ _ h => h) (fun _ h => h) (fun u t H1 locs ht hvm hw hB hz1 hk1 hS => ?_)
            obtain rfl := hw.symm
            rw [ht] at hB
            have hP : va_P D vwCl (CUW cI cJ q I J (fu (fu a 9 a9) 10 a10) (fu b 0 x_7)) H1 := hB
            clear hB hz1 hk1 ht hvm
            generalize H1 = H at hP hS ⊢
            refine lv_iinc (v := v2 + 1) (lv' := [(2, .int (v2 + 1)), (0, .ref (q 6)), (1, .int v1)]) hx hb dX3_readThings_50 hl (k := 2) rfl rfl (by decide) rfl (fun ls hl => ?_)
            refine lv_goto (tgt := 10) hx hb dX3_readThings_53 (by decide) ?_
            exact ih10 v1 (v2 + 1) a9 a10 x_7 h _ _ hP hS ls (lv_sub hl [1, 2, 0] rfl)
          · have h := if_f c_6 h
            refine lv_aload_n hx hb dX3_readThings_37 rfl (lv_at hl 0 rfl) ?_
            refine lv_iload_n hx hb dX3_readThings_38 rfl (lv_at hl 2 rfl) ?_
            obtain ⟨x_8, hx_8, h⟩ := ob_some h
            refine va_callv (va_runV (As := [.int v2]) (rest := []) ⟨hx, hb, hml, hown, hts⟩ (c_X3_readRow l D cI cJ q hq F I J (fu (fu a 9 a9) 10 a10) (fu b 0 b0) v2 x_8 hx_8) (cwV 1 hts gX3_readThings_X3_readRow rfl rfl rfl (by decide +kernel) (by rw [hR]; exact ⟨Nat.le_of_ble_eq_true rfl, Nat.le_of_ble_eq_true rfl⟩)) ⟨CUPc_blind, va_recv hK hP (ci := 3) (q0 := 6) rfl rfl, fun U hU hW => ⟨rfl, by rw [hU]; exact hP, va_K.moved hW.alike hK, va_Nw.warmM hW hN⟩⟩ rfl rfl hl.1 rfl (lv_room (Nat.le_of_ble_eq_true rfl)) dX3_readThings_39 ⟨Nat.zero_le _, Nat.zero_le _⟩) hS (fun _ _ h => h) (fun _ h => h) (fun u t H1 locs ht hvm hw hB hz1 hk1 hS => ?_)
            obtain rfl := hw.symm
            rw [ht] at hB
            have hP : va_P D vwCl (CUW cI cJ q I J (fu (fu a 9 x_8.1) 10 x_8.2.1) (fu b 0 x_8.2.2)) H1 := hB
            clear hB hz1 hk1 ht hvm
            generalize H1 = H at hP hS ⊢
            refine lv_goto (tgt := 50) hx hb dX3_readThings_42 (by decide) ?_
            refine lv_iinc (v := v2 + 1) (lv' := [(2, .int (v2 + 1)), (0, .ref (q 6)), (1, .int v1)]) hx hb dX3_readThings_50 hl (k := 2) rfl rfl (by decide) rfl (fun ls hl => ?_)
            refine lv_goto (tgt := 10) hx hb dX3_readThings_53 (by decide) ?_
            exact ih10 v1 (v2 + 1) x_8.1 x_8.2.1 x_8.2.2 h _ _ hP hS ls (lv_sub hl [1, 2, 0] rfl)
  refine lv_aload_n hx hb dX3_readThings_0 rfl (lv_at hl 0 rfl) ?_
  refine va_get (D := D) (ci := 3) (v := .ref (q 1)) (C := RX3) (T := TX3) (N := 13) hx hb hts in_X3_readThings_X3 hown hK hP 6 rfl rfl 0 (by decide) (hts (.fieldLink RX3 25 "LearnedReasons$Models" "things" "LLearnedReasons$Things;") (by decide +kernel)) (fun _ h9 => h9) rfl dX3_readThings_1 ?_
  obtain ⟨x_9, hx_9, h⟩ := ob_some h
  refine va_calli (va_runV (As := []) (rest := []) ⟨hx, hb, hml, hown, hts⟩ (c_X5_numbersGiven l D cI cJ q hq F I J a b x_9 hx_9) (cwV 0 hts gX3_readThings_X5_numbersGiven rfl rfl rfl (by decide +kernel) (by rw [hR]; exact ⟨Nat.le_of_ble_eq_true rfl, Nat.le_of_ble_eq_true rfl⟩)) ⟨CUPc_blind, va_recv hK hP (ci := 5) (q0 := 1) rfl rfl, fun U hU hW => ⟨rfl, by rw [hU]; exact hP, va_K.moved hW.alike hK, va_Nw.warmM hW hN⟩⟩ rfl rfl hl.1 rfl (lv_room (Nat.le_of_ble_eq_true rfl)) dX3_readThings_4 ⟨Nat.zero_le _, Nat.zero_le _⟩) hS (fun _ _ h => h) (fun _ h => h) (fun r u t H1 locs ht hvm hw hB hz1 hk1 hS => ?_)
  obtain rfl := hw.symm
  rw [ht] at hB
  have hP : va_P D vwCl (CUW cI cJ q I J a b) H1 := hB
  clear hB hz1 hk1 ht hvm
  generalize H1 = H at hP hS ⊢
  refine lv_istore_n (lv' := [(1, .int x_9), (0, .ref (q 6))]) hx hb dX3_readThings_7 rfl hl (by decide) rfl (fun ls hl => ?_)
  refine lv_iconst (v := 0) hx hb dX3_readThings_8 (by decide) ?_
  refine lv_istore_n (lv' := [(2, .int 0), (1, .int x_9), (0, .ref (q 6))]) hx hb dX3_readThings_9 rfl hl (by decide) rfl (fun ls hl => ?_)
  exact C10 F x_9 0 (a 9) (a 10) (b 0) h _ _ hP hS ls (lv_sub hl [2, 1, 0] rfl)
theorem in_X3_layOutCosts_X3 : ∀ w ∈ wsX30, w ∈ wsX3_layOutCosts := by decide +kernel
set_option maxHeartbeats 4000000 in
set_option maxRecDepth 100000 in
theorem c_X3_layOutCosts (l : Launch) (D : va_G) (cI cJ : ClassId) (q : Nat → Nat) (hq : CUQ q) (F : Nat) (I : Nat → Int32) (J : Nat → Int64) (a : Nat → Nat → Int32) (b : Nat → Nat → Int64) (x0 : (Nat → Int32) × (Nat → Int32)) (h : f_X3_layOutCosts F I J a b = some x0) : Met l yX3_layOutCosts wsX3_layOutCosts ({ frames := 1, cells := 0, slots := 0, locals := 24 }) (CUPc D cI cJ q I J a b [.ref (q 6)]) (va_Qv (fun (u : (Nat → Int32) × (Nat → Int32)) => u = x0) (fun (u : (Nat → Int32) × (Nat → Int32)) t => va_P D vwCl (CUW cI cJ q I J (fu (fu a 9 u.1) 10 u.2) b) t.heap) (CUA q)) 0 0 (CUA q) := by
  refine mt_of (cc := cX3_layOutCosts) (maxL := 2) (ret := none) (by decide) rfl ?_
  intro p e s m args below meth c s₁ B0 hml hv R Q hR hQ
  obtain ⟨hargs, hP, hK, hN⟩ := hv
  have hx := B0.exec
  have hb := B0.bytes
  have hr := B0.returns
  have hts := atoms_spec (ws := wsX3_layOutCosts) B0.pre
  have hown : s.vm.findClass RX3 = some m.cls := findClass_of_methodNamed B0.named
  have hlocks := B0.notSynchronized
  have hS : va_S (CUA q) s.heap s.heap [] := va_S.rf
  have hl := lv_entry ([.ref (q 6)]) (n := 2) (Nat.le_of_ble_eq_true rfl)
  rw [hargs, lg_entry_eq]
  rw [← hargs]
  generalize (lg_sl ([.ref (q 6)]) ++ List.replicate (2 - (lg_sl ([.ref (q 6)])).length) Slot.unset).toArray = ls at hl ⊢
  have hl : lv_has ls 2 [(0, .ref (q 6))] := hl
  unfold f_X3_layOutCosts at h
  have C16 : ∀ (n16 : Nat) (v1 : Int32) (a9 : Nat → Int32) (a10 : Nat → Int32), k_X3_layOutCosts_16 F I J a b n16 v1 a9 a10 = some x0 → ∀ (H : Heap) (locs : List Loc), va_P D vwCl (CUW cI cJ q I J (fu (fu a 9 a9) 10 a10) b) H → va_S (CUA q) s.heap H locs → ∀ ls : Array Slot, lv_has ls 2 [(0, .ref (q 6)), (1, .int v1)] → W p l e R s m args below meth c H locs 0 0 Q (F0 m 16 ls []) := by
    intro n16
    induction n16 with
    | zero => intro v1 a9 a10 h; rw [k_X3_layOutCosts_16] at h; cases h
    | succ n16 ih16 =>
      intro v1 a9 a10 h H locs hP hS ls hl
      rw [k_X3_layOutCosts_16] at h
      refine lv_iload_n hx hb dX3_layOutCosts_16 rfl (lv_at hl 1 rfl) ?_
      refine lv_bipush (v := 7) hx hb dX3_layOutCosts_17 (by decide) ?_
      refine lv_icmp_ge (tgt := 59) hx hb dX3_layOutCosts_19 (by decide) (fun c_1 => ?_) (fun c_1 => ?_)
      · have h := if_t c_1 h
        have hx0 := Option.some.inj h
        rw [hQ]
        exact W.vret hx hb hr (fun t ht hW => ⟨⟨(a9, a10), rfl, hx0, by show va_P _ _ _ t.heap; rw [ht]; exact hP⟩, hS.F ht⟩) hS.2.2 dX3_layOutCosts_59
      · have h := if_f c_1 h
        refine lv_aload_n hx hb dX3_layOutCosts_22 rfl (lv_at hl 0 rfl) ?_
        refine va_get (D := D) (ci := 3) (v := .ref (q 17)) (C := RX3) (T := TX3) (N := 13) hx hb hts in_X3_layOutCosts_X3 hown hK hP 6 rfl rfl 3 (by decide) (hts (.fieldLink RX3 19 "LearnedReasons$Models" "lowSums" "[I") (by decide +kernel)) (fun _ h9 => h9) rfl dX3_layOutCosts_23 ?_
        refine lv_iload_n hx hb dX3_layOutCosts_26 rfl (lv_at hl 1 rfl) ?_
        refine lv_aload_n hx hb dX3_layOutCosts_27 rfl (lv_at hl 0 rfl) ?_
        refine va_get (D := D) (ci := 3) (v := .ref (q 16)) (C := RX3) (T := TX3) (N := 13) hx hb hts in_X3_layOutCosts_X3 hown hK hP 6 rfl rfl 2 (by decide) (hts (.fieldLink RX3 15 "LearnedReasons$Models" "costs" "[I") (by decide +kernel)) (fun _ h9 => h9) rfl dX3_layOutCosts_28 ?_
        refine lv_iload_n hx hb dX3_layOutCosts_31 rfl (lv_at hl 1 rfl) ?_
        obtain ⟨g_2, h⟩ := gd_some h
        refine va_iald hx hb hK hP 16 0 rfl rfl g_2 dX3_layOutCosts_32 ?_
        obtain ⟨x_3, hx_3, h⟩ := ob_some h
        refine va_callv (va_runS (As := [.ref (q 17), .int v1, .int ((a 8) v1.toNatClampNeg)]) (rest := []) ⟨hx, hb, hml, hown, hts⟩ (c_X3_widen_c17 l D cI cJ q hq F I J (fu (fu a 9 a9) 10 a10) b v1 ((a 8) v1.toNatClampNeg) x_3 hx_3) (va_cwS 3 hts gX3_layOutCosts_X3_widen rfl rfl rfl (by decide +kernel) (by rw [hR]; exact ⟨Nat.le_of_ble_eq_true rfl, Nat.le_of_ble_eq_true rfl⟩)) ⟨CUPc_blind, fun U hU hW => ⟨rfl, by rw [hU]; exact hP, va_K.moved hW.alike hK, va_Nw.warmM hW hN⟩⟩ rfl rfl hl.1 rfl (lv_room (Nat.le_of_ble_eq_true rfl)) dX3_layOutCosts_33 ⟨Nat.zero_le _, Nat.zero_le _⟩) hS (fun _ _ h => h) (fun _ h => h) (fun u t H1 locs ht hvm hw hB hz1 hk1 hS => ?_)
        obtain rfl := hw.symm
        rw [ht] at hB
        have hP : va_P D vwCl (CUW cI cJ q I J (fu (fu a 9 x_3) 10 a10) b) H1 := hB
        clear hB hz1 hk1 ht hvm
        generalize H1 = H at hP hS ⊢
        refine lv_aload_n hx hb dX3_layOutCosts_36 rfl (lv_at hl 0 rfl) ?_
        refine va_get (D := D) (ci := 3) (v := .ref (q 18)) (C := RX3) (T := TX3) (N := 13) hx hb hts in_X3_layOutCosts_X3 hown hK hP 6 rfl rfl 4 (by decide) (hts (.fieldLink RX3 22 "LearnedReasons$Models" "highSums" "[I") (by decide +kernel)) (fun _ h9 => h9) rfl dX3_layOutCosts_37 ?_
        refine lv_iload_n hx hb dX3_layOutCosts_40 rfl (lv_at hl 1 rfl) ?_
        refine lv_aload_n hx hb dX3_layOutCosts_41 rfl (lv_at hl 0 rfl) ?_
        refine va_get (D := D) (ci := 3) (v := .ref (q 16)) (C := RX3) (T := TX3) (N := 13) hx hb hts in_X3_layOutCosts_X3 hown hK hP 6 rfl rfl 2 (by decide) (hts (.fieldLink RX3 15 "LearnedReasons$Models" "costs" "[I") (by decide +kernel)) (fun _ h9 => h9) rfl dX3_layOutCosts_42 ?_
        refine lv_iload_n hx hb dX3_layOutCosts_45 rfl (lv_at hl 1 rfl) ?_
        refine lv_bipush (v := 7) hx hb dX3_layOutCosts_46 (by decide) ?_
        refine lv_iadd hx hb dX3_layOutCosts_48 ?_
        obtain ⟨g_4, h⟩ := gd_some h
        refine va_iald hx hb hK hP 16 0 rfl rfl g_4 dX3_layOutCosts_49 ?_
        obtain ⟨x_5, hx_5, h⟩ := ob_some h
        refine va_callv (va_runS (As := [.ref (q 18), .int v1, .int ((a 8) (v1 + 7).toNatClampNeg)]) (rest := []) ⟨hx, hb, hml, hown, hts⟩ (c_X3_widen_c18 l D cI cJ q hq F I J (fu (fu a 9 x_3) 10 a10) b v1 ((a 8) (v1 + 7).toNatClampNeg) x_5 hx_5) (va_cwS 3 hts gX3_layOutCosts_X3_widen rfl rfl rfl (by decide +kernel) (by rw [hR]; exact ⟨Nat.le_of_ble_eq_true rfl, Nat.le_of_ble_eq_true rfl⟩)) ⟨CUPc_blind, fun U hU hW => ⟨rfl, by rw [hU]; exact hP, va_K.moved hW.alike hK, va_Nw.warmM hW hN⟩⟩ rfl rfl hl.1 rfl (lv_room (Nat.le_of_ble_eq_true rfl)) dX3_layOutCosts_50 ⟨Nat.zero_le _, Nat.zero_le _⟩) hS (fun _ _ h => h) (fun _ h => h) (fun u t H1 locs ht hvm hw hB hz1 hk1 hS => ?_)
        obtain rfl := hw.symm
        rw [ht] at hB
        have hP : va_P D vwCl (CUW cI cJ q I J (fu (fu a 9 x_3) 10 x_5) b) H1 := hB
        clear hB hz1 hk1 ht hvm
        generalize H1 = H at hP hS ⊢
        refine lv_iinc (v := v1 + 1) (lv' := [(1, .int (v1 + 1)), (0, .ref (q 6))]) hx hb dX3_layOutCosts_53 hl (k := 1) rfl rfl (by decide) rfl (fun ls hl => ?_)
        refine lv_goto (tgt := 16) hx hb dX3_layOutCosts_56 (by decide) ?_
        exact ih16 (v1 + 1) x_3 x_5 h _ _ hP hS ls (lv_sub hl [1, 0] rfl)
  refine lv_aload_n hx hb dX3_layOutCosts_0 rfl (lv_at hl 0 rfl) ?_
  refine va_get (D := D) (ci := 3) (v := .ref (q 17)) (C := RX3) (T := TX3) (N := 13) hx hb hts in_X3_layOutCosts_X3 hown hK hP 6 rfl rfl 3 (by decide) (hts (.fieldLink RX3 19 "LearnedReasons$Models" "lowSums" "[I") (by decide +kernel)) (fun _ h9 => h9) rfl dX3_layOutCosts_1 ?_
  refine lv_iconst (v := 0) hx hb dX3_layOutCosts_4 (by decide) ?_
  refine lv_iconst (v := 0) hx hb dX3_layOutCosts_5 (by decide) ?_
  obtain ⟨g_6, h⟩ := gd_some h
  refine va_iast hx hb hK hP (CUW_D hq) hS 17 0 rfl rfl g_6 dX3_layOutCosts_6 (fun H locs hP _ hS => ?_)
  have hP : va_P D vwCl (CUW cI cJ q I J (fu a 9 (upd (a 9) (0 : Int32).toNatClampNeg 0)) b) H := hP
  refine lv_aload_n hx hb dX3_layOutCosts_7 rfl (lv_at hl 0 rfl) ?_
  refine va_get (D := D) (ci := 3) (v := .ref (q 18)) (C := RX3) (T := TX3) (N := 13) hx hb hts in_X3_layOutCosts_X3 hown hK hP 6 rfl rfl 4 (by decide) (hts (.fieldLink RX3 22 "LearnedReasons$Models" "highSums" "[I") (by decide +kernel)) (fun _ h9 => h9) rfl dX3_layOutCosts_8 ?_
  refine lv_iconst (v := 0) hx hb dX3_layOutCosts_11 (by decide) ?_
  refine lv_iconst (v := 0) hx hb dX3_layOutCosts_12 (by decide) ?_
  obtain ⟨g_7, h⟩ := gd_some h
  refine va_iast hx hb hK hP (CUW_D hq) hS 18 0 rfl rfl g_7 dX3_layOutCosts_13 (fun H locs hP _ hS => ?_)
  have hP : va_P D vwCl (CUW cI cJ q I J (fu (fu a 9 (upd (a 9) (0 : Int32).toNatClampNeg 0)) 10 (upd (a 10) (0 : Int32).toNatClampNeg 0)) b) H := hP
  refine lv_iconst (v := 0) hx hb dX3_layOutCosts_14 (by decide) ?_
  refine lv_istore_n (lv' := [(1, .int 0), (0, .ref (q 6))]) hx hb dX3_layOutCosts_15 rfl hl (by decide) rfl (fun ls hl => ?_)
  exact C16 F 0 (upd (a 9) (0 : Int32).toNatClampNeg 0) (upd (a 10) (0 : Int32).toNatClampNeg 0) h _ _ hP hS ls (lv_sub hl [1, 0] rfl)
theorem in_X5_standing_X5 : ∀ w ∈ wsX50, w ∈ wsX5_standing := by decide +kernel
set_option maxHeartbeats 4000000 in
set_option maxRecDepth 100000 in
theorem c_X5_standing (l : Launch) (D : va_G) (cI cJ : ClassId) (q : Nat → Nat) (hq : CUQ q) (F : Nat) (I : Nat → Int32) (J : Nat → Int64) (a : Nat → Nat → Int32) (b : Nat → Nat → Int64) (x0 : Int64) (h : f_X5_standing F I J a b = some x0) : Met l yX5_standing wsX5_standing ({ frames := 0, cells := 0, slots := 0, locals := 0 }) (CUPc D cI cJ q I J a b [.ref (q 1)]) (va_Ql (fun (r : Int64) (u : Unit) => r = x0) (fun (u : Unit) t => va_P D vwCl (CUW cI cJ q I J a b) t.heap) (CUA q)) 0 0 (CUA q) := by
  refine mt_of (cc := cX5_standing) (maxL := 1) (ret := (some .long)) (by decide) rfl ?_
  intro p e s m args below meth c s₁ B0 hml hv R Q hR hQ
  obtain ⟨hargs, hP, hK, hN⟩ := hv
  have hx := B0.exec
  have hb := B0.bytes
  have hr := B0.returns
  have hts := atoms_spec (ws := wsX5_standing) B0.pre
  have hown : s.vm.findClass RX5 = some m.cls := findClass_of_methodNamed B0.named
  have hlocks := B0.notSynchronized
  have hS : va_S (CUA q) s.heap s.heap [] := va_S.rf
  have hl := lv_entry ([.ref (q 1)]) (n := 1) (Nat.le_of_ble_eq_true rfl)
  rw [hargs, lg_entry_eq]
  rw [← hargs]
  generalize (lg_sl ([.ref (q 1)]) ++ List.replicate (1 - (lg_sl ([.ref (q 1)])).length) Slot.unset).toArray = ls at hl ⊢
  have hl : lv_has ls 1 [(0, .ref (q 1))] := hl
  unfold f_X5_standing at h
  refine lv_aload_n hx hb dX5_standing_0 rfl (lv_at hl 0 rfl) ?_
  refine va_get (D := D) (ci := 5) (v := .long (J 0)) (C := RX5) (T := TX5) (N := 9) hx hb hts in_X5_standing_X5 hown hK hP 1 rfl rfl 2 (by decide) (hts (.fieldLink RX5 28 "LearnedReasons$Things" "standing" "J") (by decide +kernel)) (fun _ h9 => h9) rfl dX5_standing_1 ?_
  have hx0 := Option.some.inj h
  rw [hQ]
  exact W.lret (v := J 0) hx hb hr (fun t ht hW => ⟨⟨(J 0), (), rfl, hx0, by show va_P _ _ _ t.heap; rw [ht]; exact hP⟩, hS.F ht⟩) hS.2.2 dX5_standing_4
set_option maxHeartbeats 4000000 in
set_option maxRecDepth 100000 in
theorem c_X3_isBefore (l : Launch) (F : Nat) (v0 : Int32) (v1 : Int32) (x0 : Int32) (h : f_X3_isBefore F v0 v1 = some x0) : Met l yX3_isBefore wsX3_isBefore ({ frames := 0, cells := 0, slots := 0, locals := 0 }) (va_Pc [.int v0, .int v1] (fun _ => True)) (va_Qi (fun (r : Int32) (u : Unit) => r = x0) (fun _ _ => True) (fun _ => False)) 0 0 (fun _ => False) := by
  refine mt_of (cc := cX3_isBefore) (maxL := 3) (ret := (some .boolean)) (by decide) rfl ?_
  intro p e s m args below meth c s₁ B0 hml hv R Q hR hQ
  obtain ⟨hargs, -⟩ := hv
  have hx := B0.exec
  have hb := B0.bytes
  have hr := B0.returns
  have hts := atoms_spec (ws := wsX3_isBefore) B0.pre
  have hown : s.vm.findClass RX3 = some m.cls := findClass_of_methodNamed B0.named
  have hlocks := B0.notSynchronized
  have hS : va_S (fun _ => False) s.heap s.heap [] := va_S.rf
  have hl := lv_entry ([.int v0, .int v1]) (n := 3) (Nat.le_of_ble_eq_true rfl)
  rw [hargs, lg_entry_eq]
  rw [← hargs]
  generalize (lg_sl ([.int v0, .int v1]) ++ List.replicate (3 - (lg_sl ([.int v0, .int v1])).length) Slot.unset).toArray = ls at hl ⊢
  have hl : lv_has ls 3 [(0, .int v0), (1, .int v1)] := hl
  unfold f_X3_isBefore at h
  refine lv_iload_n hx hb dX3_isBefore_0 rfl (lv_at hl 0 rfl) ?_
  refine lv_iload_n hx hb dX3_isBefore_1 rfl (lv_at hl 1 rfl) ?_
  refine lv_ixor hx hb dX3_isBefore_2 ?_
  refine lv_topi (fun v_1 ev_1 => ?_)
  have h := nmI_at ev_1 h
  refine lv_istore_n (lv' := [(2, .int v_1), (0, .int v0), (1, .int v1)]) hx hb dX3_isBefore_3 rfl hl (by decide) rfl (fun ls hl => ?_)
  refine lv_iload_n hx hb dX3_isBefore_4 rfl (lv_at hl 2 rfl) ?_
  refine lv_iload_n hx hb dX3_isBefore_5 rfl (lv_at hl 0 rfl) ?_
  refine lv_iand hx hb dX3_isBefore_6 ?_
  refine lv_iload_n hx hb dX3_isBefore_7 rfl (lv_at hl 0 rfl) ?_
  refine lv_ineg hx hb dX3_isBefore_8 ?_
  refine lv_iand hx hb dX3_isBefore_9 ?_
  refine lv_if_eq (tgt := 17) hx hb dX3_isBefore_10 (by decide) (fun c_2 => ?_) (fun c_2 => ?_)
  · have h := if_t c_2 h
    refine lv_iconst (v := 0) hx hb dX3_isBefore_17 (by decide) ?_
    have hx0 := Option.some.inj h
    rw [hQ]
    exact W.zret (v := 0) hx hb hr (rfl) (fun t ht hW => ⟨⟨0, (), rfl, hx0, trivial⟩, hS.F ht⟩) hS.2.2 dX3_isBefore_18
  · have h := if_f c_2 h
    refine lv_iconst (v := 1) hx hb dX3_isBefore_13 (by decide) ?_
    refine lv_goto (tgt := 18) hx hb dX3_isBefore_14 (by decide) ?_
    have hx0 := Option.some.inj h
    rw [hQ]
    exact W.zret (v := 1) hx hb hr (rfl) (fun t ht hW => ⟨⟨1, (), rfl, hx0, trivial⟩, hS.F ht⟩) hS.2.2 dX3_isBefore_18
theorem in_X3_countOne_X3 : ∀ w ∈ wsX30, w ∈ wsX3_countOne := by decide +kernel
set_option maxHeartbeats 4000000 in
set_option maxRecDepth 100000 in
theorem c_X3_countOne (l : Launch) (D : va_G) (cI cJ : ClassId) (q : Nat → Nat) (hq : CUQ q) (F : Nat) (I : Nat → Int32) (J : Nat → Int64) (a : Nat → Nat → Int32) (b : Nat → Nat → Int64) (v1 : Int32) (x0 : Int32 × Int32 × Int32 × Int32 × Int32) (h : f_X3_countOne F I J a b v1 = some x0) : Met l yX3_countOne wsX3_countOne ({ frames := 1, cells := 0, slots := 0, locals := 22 }) (CUPc D cI cJ q I J a b [.ref (q 6), .int v1]) (va_Qv (fun (u : Int32 × Int32 × Int32 × Int32 × Int32) => u = x0) (fun (u : Int32 × Int32 × Int32 × Int32 × Int32) t => va_P D vwCl (CUW cI cJ q (fu (fu (fu (fu (fu I 19 u.1) 20 u.2.1) 21 u.2.2.1) 22 u.2.2.2.1) 23 u.2.2.2.2) J a b) t.heap) (CUA q)) 0 0 (CUA q) := by
  refine mt_of (cc := cX3_countOne) (maxL := 3) (ret := none) (by decide) rfl ?_
  intro p e s m args below meth c s₁ B0 hml hv R Q hR hQ
  obtain ⟨hargs, hP, hK, hN⟩ := hv
  have hx := B0.exec
  have hb := B0.bytes
  have hr := B0.returns
  have hts := atoms_spec (ws := wsX3_countOne) B0.pre
  have hown : s.vm.findClass RX3 = some m.cls := findClass_of_methodNamed B0.named
  have hlocks := B0.notSynchronized
  have hS : va_S (CUA q) s.heap s.heap [] := va_S.rf
  have hl := lv_entry ([.ref (q 6), .int v1]) (n := 3) (Nat.le_of_ble_eq_true rfl)
  rw [hargs, lg_entry_eq]
  rw [← hargs]
  generalize (lg_sl ([.ref (q 6), .int v1]) ++ List.replicate (3 - (lg_sl ([.ref (q 6), .int v1])).length) Slot.unset).toArray = ls at hl ⊢
  have hl : lv_has ls 3 [(0, .ref (q 6)), (1, .int v1)] := hl
  unfold f_X3_countOne at h
  have C50 : ∀ (v1 : Int32) (I22 : Int32) (I23 : Int32), k_X3_countOne_50 F I J a b v1 I22 I23 = some x0 → ∀ (H : Heap) (locs : List Loc), va_P D vwCl (CUW cI cJ q (fu (fu I 22 I22) 23 I23) J a b) H → va_S (CUA q) s.heap H locs → ∀ ls : Array Slot, lv_has ls 3 [(0, .ref (q 6)), (1, .int v1)] → W p l e R s m args below meth c H locs 0 0 Q (F0 m 50 ls []) := by
    intro v1 I22 I23 h H locs hP hS ls hl
    rw [k_X3_countOne_50] at h
    refine lv_aload_n hx hb dX3_countOne_50 rfl (lv_at hl 0 rfl) ?_
    refine lv_dup hx hb dX3_countOne_51 rfl ?_
    refine va_get (D := D) (ci := 3) (v := .int (I 19)) (C := RX3) (T := TX3) (N := 13) hx hb hts in_X3_countOne_X3 hown hK hP 6 rfl rfl 7 (by decide) (hts (.fieldLink RX3 45 "LearnedReasons$Models" "size" "I") (by decide +kernel)) (fun _ h9 => h9) rfl dX3_countOne_52 ?_
    refine lv_iconst (v := 1) hx hb dX3_countOne_55 (by decide) ?_
    refine lv_iadd hx hb dX3_countOne_56 ?_
    refine lv_topi (fun v_1 ev_1 => ?_)
    have h := nmI_at ev_1 h
    refine va_put (D := D) (ci := 3) (v := .int v_1) (ty := .int) (C := RX3) (T := TX3) (N := 13) hx hb hts in_X3_countOne_X3 tyX3 tyX3_ok nmX3 hown hK hP (CUW_D hq) hS 6 rfl rfl 7 (by decide) (hts (.fieldLink RX3 45 "LearnedReasons$Models" "size" "I") (by decide +kernel)) (fun _ h9 => h9) rfl (by decide +kernel) rfl rfl (Nat.le_of_ble_eq_true rfl) dX3_countOne_57 (fun H locs hP _ hS => ?_)
    have hP : va_P D vwCl (CUW cI cJ q (fu (fu (fu I 19 v_1) 22 I22) 23 I23) J a b) H := hP
    refine lv_aload_n hx hb dX3_countOne_60 rfl (lv_at hl 0 rfl) ?_
    refine lv_dup hx hb dX3_countOne_61 rfl ?_
    refine va_get (D := D) (ci := 3) (v := .int (I 20)) (C := RX3) (T := TX3) (N := 13) hx hb hts in_X3_countOne_X3 hown hK hP 6 rfl rfl 8 (by decide) (hts (.fieldLink RX3 49 "LearnedReasons$Models" "inAll" "I") (by decide +kernel)) (fun _ h9 => h9) rfl dX3_countOne_62 ?_
    refine lv_iload_n hx hb dX3_countOne_65 rfl (lv_at hl 1 rfl) ?_
    refine lv_iand hx hb dX3_countOne_66 ?_
    refine lv_topi (fun v_2 ev_2 => ?_)
    have h := nmI_at ev_2 h
    refine va_put (D := D) (ci := 3) (v := .int v_2) (ty := .int) (C := RX3) (T := TX3) (N := 13) hx hb hts in_X3_countOne_X3 tyX3 tyX3_ok nmX3 hown hK hP (CUW_D hq) hS 6 rfl rfl 8 (by decide) (hts (.fieldLink RX3 49 "LearnedReasons$Models" "inAll" "I") (by decide +kernel)) (fun _ h9 => h9) rfl (by decide +kernel) rfl rfl (Nat.le_of_ble_eq_true rfl) dX3_countOne_67 (fun H locs hP _ hS => ?_)
    have hP : va_P D vwCl (CUW cI cJ q (fu (fu (fu (fu I 19 v_1) 20 v_2) 22 I22) 23 I23) J a b) H := hP
    refine lv_aload_n hx hb dX3_countOne_70 rfl (lv_at hl 0 rfl) ?_
    refine lv_dup hx hb dX3_countOne_71 rfl ?_
    refine va_get (D := D) (ci := 3) (v := .int (I 21)) (C := RX3) (T := TX3) (N := 13) hx hb hts in_X3_countOne_X3 hown hK hP 6 rfl rfl 9 (by decide) (hts (.fieldLink RX3 58 "LearnedReasons$Models" "inSome" "I") (by decide +kernel)) (fun _ h9 => h9) rfl dX3_countOne_72 ?_
    refine lv_iload_n hx hb dX3_countOne_75 rfl (lv_at hl 1 rfl) ?_
    refine lv_ior hx hb dX3_countOne_76 ?_
    refine lv_topi (fun v_3 ev_3 => ?_)
    have h := nmI_at ev_3 h
    refine va_put (D := D) (ci := 3) (v := .int v_3) (ty := .int) (C := RX3) (T := TX3) (N := 13) hx hb hts in_X3_countOne_X3 tyX3 tyX3_ok nmX3 hown hK hP (CUW_D hq) hS 6 rfl rfl 9 (by decide) (hts (.fieldLink RX3 58 "LearnedReasons$Models" "inSome" "I") (by decide +kernel)) (fun _ h9 => h9) rfl (by decide +kernel) rfl rfl (Nat.le_of_ble_eq_true rfl) dX3_countOne_77 (fun H locs hP _ hS => ?_)
    have hP : va_P D vwCl (CUW cI cJ q (fu (fu (fu (fu (fu I 19 v_1) 20 v_2) 21 v_3) 22 I22) 23 I23) J a b) H := hP
    have hx0 := Option.some.inj h
    rw [hQ]
    exact W.vret hx hb hr (fun t ht hW => ⟨⟨(v_1, v_2, v_3, I22, I23), rfl, hx0, by show va_P _ _ _ t.heap; rw [ht]; exact hP⟩, hS.F ht⟩) hS.2.2 dX3_countOne_80
  refine lv_aload_n hx hb dX3_countOne_0 rfl (lv_at hl 0 rfl) ?_
  refine lv_iload_n hx hb dX3_countOne_1 rfl (lv_at hl 1 rfl) ?_
  obtain ⟨x_4, hx_4, h⟩ := ob_some h
  refine va_calli (va_runV (As := [.int v1]) (rest := []) ⟨hx, hb, hml, hown, hts⟩ (c_X3_sumOf l D cI cJ q hq F I J a b v1 x_4 hx_4) (cwV 1 hts gX3_countOne_X3_sumOf rfl rfl rfl (by decide +kernel) (by rw [hR]; exact ⟨Nat.le_of_ble_eq_true rfl, Nat.le_of_ble_eq_true rfl⟩)) ⟨CUPc_blind, va_recv hK hP (ci := 3) (q0 := 6) rfl rfl, fun U hU hW => ⟨rfl, by rw [hU]; exact hP, va_K.moved hW.alike hK, va_Nw.warmM hW hN⟩⟩ rfl rfl hl.1 rfl (lv_room (Nat.le_of_ble_eq_true rfl)) dX3_countOne_2 ⟨Nat.zero_le _, Nat.zero_le _⟩) hS (fun _ _ h => h) (fun _ h => h) (fun r u t H1 locs ht hvm hw hB hz1 hk1 hS => ?_)
  obtain rfl := hw.symm
  rw [ht] at hB
  have hP : va_P D vwCl (CUW cI cJ q I J a b) H1 := hB
  clear hB hz1 hk1 ht hvm
  generalize H1 = H at hP hS ⊢
  refine lv_istore_n (lv' := [(2, .int x_4), (0, .ref (q 6)), (1, .int v1)]) hx hb dX3_countOne_5 rfl hl (by decide) rfl (fun ls hl => ?_)
  refine lv_aload_n hx hb dX3_countOne_6 rfl (lv_at hl 1 rfl) ?_
  refine va_get (D := D) (ci := 3) (v := .int (I 19)) (C := RX3) (T := TX3) (N := 13) hx hb hts in_X3_countOne_X3 hown hK hP 6 rfl rfl 7 (by decide) (hts (.fieldLink RX3 45 "LearnedReasons$Models" "size" "I") (by decide +kernel)) (fun _ h9 => h9) rfl dX3_countOne_7 ?_
  refine lv_if_eq (tgt := 40) hx hb dX3_countOne_10 (by decide) (fun c_5 => ?_) (fun c_5 => ?_)
  · have h := if_t c_5 h
    refine lv_aload_n hx hb dX3_countOne_40 rfl (lv_at hl 1 rfl) ?_
    refine lv_iload_n hx hb dX3_countOne_41 rfl (lv_at hl 0 rfl) ?_
    refine va_put (D := D) (ci := 3) (v := .int x_4) (ty := .int) (C := RX3) (T := TX3) (N := 13) hx hb hts in_X3_countOne_X3 tyX3 tyX3_ok nmX3 hown hK hP (CUW_D hq) hS 6 rfl rfl 10 (by decide) (hts (.fieldLink RX3 61 "LearnedReasons$Models" "least" "I") (by decide +kernel)) (fun _ h9 => h9) rfl (by decide +kernel) rfl rfl (Nat.le_of_ble_eq_true rfl) dX3_countOne_42 (fun H locs hP _ hS => ?_)
    have hP : va_P D vwCl (CUW cI cJ q (fu I 22 x_4) J a b) H := hP
    refine lv_aload_n hx hb dX3_countOne_45 rfl (lv_at hl 1 rfl) ?_
    refine lv_iload_n hx hb dX3_countOne_46 rfl (lv_at hl 2 rfl) ?_
    refine va_put (D := D) (ci := 3) (v := .int v1) (ty := .int) (C := RX3) (T := TX3) (N := 13) hx hb hts in_X3_countOne_X3 tyX3 tyX3_ok nmX3 hown hK hP (CUW_D hq) hS 6 rfl rfl 11 (by decide) (hts (.fieldLink RX3 64 "LearnedReasons$Models" "firstBest" "I") (by decide +kernel)) (fun _ h9 => h9) rfl (by decide +kernel) rfl rfl (Nat.le_of_ble_eq_true rfl) dX3_countOne_47 (fun H locs hP _ hS => ?_)
    have hP : va_P D vwCl (CUW cI cJ q (fu (fu I 22 x_4) 23 v1) J a b) H := hP
    exact C50 v1 x_4 v1 h _ _ hP hS ls (lv_sub hl [1, 2] rfl)
  · have h := if_f c_5 h
    refine lv_iload_n hx hb dX3_countOne_13 rfl (lv_at hl 0 rfl) ?_
    refine lv_aload_n hx hb dX3_countOne_14 rfl (lv_at hl 1 rfl) ?_
    refine va_get (D := D) (ci := 3) (v := .int (I 22)) (C := RX3) (T := TX3) (N := 13) hx hb hts in_X3_countOne_X3 hown hK hP 6 rfl rfl 10 (by decide) (hts (.fieldLink RX3 61 "LearnedReasons$Models" "least" "I") (by decide +kernel)) (fun _ h9 => h9) rfl dX3_countOne_15 ?_
    refine lv_icmp_lt (tgt := 40) hx hb dX3_countOne_18 (by decide) (fun c_6 => ?_) (fun c_6 => ?_)
    · have h := if_t c_6 h
      refine lv_aload_n hx hb dX3_countOne_40 rfl (lv_at hl 1 rfl) ?_
      refine lv_iload_n hx hb dX3_countOne_41 rfl (lv_at hl 0 rfl) ?_
      refine va_put (D := D) (ci := 3) (v := .int x_4) (ty := .int) (C := RX3) (T := TX3) (N := 13) hx hb hts in_X3_countOne_X3 tyX3 tyX3_ok nmX3 hown hK hP (CUW_D hq) hS 6 rfl rfl 10 (by decide) (hts (.fieldLink RX3 61 "LearnedReasons$Models" "least" "I") (by decide +kernel)) (fun _ h9 => h9) rfl (by decide +kernel) rfl rfl (Nat.le_of_ble_eq_true rfl) dX3_countOne_42 (fun H locs hP _ hS => ?_)
      have hP : va_P D vwCl (CUW cI cJ q (fu I 22 x_4) J a b) H := hP
      refine lv_aload_n hx hb dX3_countOne_45 rfl (lv_at hl 1 rfl) ?_
      refine lv_iload_n hx hb dX3_countOne_46 rfl (lv_at hl 2 rfl) ?_
      refine va_put (D := D) (ci := 3) (v := .int v1) (ty := .int) (C := RX3) (T := TX3) (N := 13) hx hb hts in_X3_countOne_X3 tyX3 tyX3_ok nmX3 hown hK hP (CUW_D hq) hS 6 rfl rfl 11 (by decide) (hts (.fieldLink RX3 64 "LearnedReasons$Models" "firstBest" "I") (by decide +kernel)) (fun _ h9 => h9) rfl (by decide +kernel) rfl rfl (Nat.le_of_ble_eq_true rfl) dX3_countOne_47 (fun H locs hP _ hS => ?_)
      have hP : va_P D vwCl (CUW cI cJ q (fu (fu I 22 x_4) 23 v1) J a b) H := hP
      exact C50 v1 x_4 v1 h _ _ hP hS ls (lv_sub hl [1, 2] rfl)
    · have h := if_f c_6 h
      refine lv_iload_n hx hb dX3_countOne_21 rfl (lv_at hl 0 rfl) ?_
      refine lv_aload_n hx hb dX3_countOne_22 rfl (lv_at hl 1 rfl) ?_
      refine va_get (D := D) (ci := 3) (v := .int (I 22)) (C := RX3) (T := TX3) (N := 13) hx hb hts in_X3_countOne_X3 hown hK hP 6 rfl rfl 10 (by decide) (hts (.fieldLink RX3 61 "LearnedReasons$Models" "least" "I") (by decide +kernel)) (fun _ h9 => h9) rfl dX3_countOne_23 ?_
      refine lv_icmp_ne (tgt := 50) hx hb dX3_countOne_26 (by decide) (fun c_7 => ?_) (fun c_7 => ?_)
      · have h := if_f c_7 h
        exact C50 v1 (I 22) (I 23) h _ _ hP hS ls (lv_sub hl [1, 2] rfl)
      · have h := if_t c_7 h
        refine lv_iload_n hx hb dX3_countOne_29 rfl (lv_at hl 2 rfl) ?_
        refine lv_aload_n hx hb dX3_countOne_30 rfl (lv_at hl 1 rfl) ?_
        refine va_get (D := D) (ci := 3) (v := .int (I 23)) (C := RX3) (T := TX3) (N := 13) hx hb hts in_X3_countOne_X3 hown hK hP 6 rfl rfl 11 (by decide) (hts (.fieldLink RX3 64 "LearnedReasons$Models" "firstBest" "I") (by decide +kernel)) (fun _ h9 => h9) rfl dX3_countOne_31 ?_
        obtain ⟨x_8, hx_8, h⟩ := ob_some h
        refine va_calli (va_runS (As := [.int v1, .int (I 23)]) (rest := []) ⟨hx, hb, hml, hown, hts⟩ (c_X3_isBefore l F v1 (I 23) x_8 hx_8) (va_cwS 2 hts gX3_countOne_X3_isBefore rfl rfl rfl (by decide +kernel) (by rw [hR]; exact ⟨Nat.le_of_ble_eq_true rfl, Nat.le_of_ble_eq_true rfl⟩)) ⟨fun _ _ _ _ h => h, fun U hU hW => ⟨rfl, trivial⟩⟩ rfl rfl hl.1 rfl (lv_room (Nat.le_of_ble_eq_true rfl)) dX3_countOne_34 ⟨Nat.zero_le _, Nat.zero_le _⟩) hS (fun _ _ h => h.elim) (fun _ h => h.elim) (fun r u t H1 locs ht hvm hw hB hz1 hk1 hS => ?_)
        obtain rfl := hw.symm
        have hP := hP.kept (fun k x hx => hk1 x.1 (hP k x hx).lt (fun h => h))
        clear hB hz1 hk1 ht hvm
        generalize H1 = H at hP hS ⊢
        refine lv_if_eq (tgt := 50) hx hb dX3_countOne_37 (by decide) (fun c_9 => ?_) (fun c_9 => ?_)
        · have h := if_t c_9 h
          exact C50 v1 (I 22) (I 23) h _ _ hP hS ls (lv_sub hl [1, 2] rfl)
        · have h := if_f c_9 h
          refine lv_aload_n hx hb dX3_countOne_40 rfl (lv_at hl 1 rfl) ?_
          refine lv_iload_n hx hb dX3_countOne_41 rfl (lv_at hl 0 rfl) ?_
          refine va_put (D := D) (ci := 3) (v := .int x_4) (ty := .int) (C := RX3) (T := TX3) (N := 13) hx hb hts in_X3_countOne_X3 tyX3 tyX3_ok nmX3 hown hK hP (CUW_D hq) hS 6 rfl rfl 10 (by decide) (hts (.fieldLink RX3 61 "LearnedReasons$Models" "least" "I") (by decide +kernel)) (fun _ h9 => h9) rfl (by decide +kernel) rfl rfl (Nat.le_of_ble_eq_true rfl) dX3_countOne_42 (fun H locs hP _ hS => ?_)
          have hP : va_P D vwCl (CUW cI cJ q (fu I 22 x_4) J a b) H := hP
          refine lv_aload_n hx hb dX3_countOne_45 rfl (lv_at hl 1 rfl) ?_
          refine lv_iload_n hx hb dX3_countOne_46 rfl (lv_at hl 2 rfl) ?_
          refine va_put (D := D) (ci := 3) (v := .int v1) (ty := .int) (C := RX3) (T := TX3) (N := 13) hx hb hts in_X3_countOne_X3 tyX3 tyX3_ok nmX3 hown hK hP (CUW_D hq) hS 6 rfl rfl 11 (by decide) (hts (.fieldLink RX3 64 "LearnedReasons$Models" "firstBest" "I") (by decide +kernel)) (fun _ h9 => h9) rfl (by decide +kernel) rfl rfl (Nat.le_of_ble_eq_true rfl) dX3_countOne_47 (fun H locs hP _ hS => ?_)
          have hP : va_P D vwCl (CUW cI cJ q (fu (fu I 22 x_4) 23 v1) J a b) H := hP
          exact C50 v1 x_4 v1 h _ _ hP hS ls (lv_sub hl [1, 2] rfl)
