theorem in_X3_countAll_X3 : ∀ w ∈ wsX30, w ∈ wsX3_countAll := by decide +kernel
set_option maxHeartbeats 4000000 in
set_option maxRecDepth 100000 in
theorem c_X3_countAll (l : Launch) (D : va_G) (cI cJ : ClassId) (q : Nat → Nat) (hq : CUQ q) (F : Nat) (I : Nat → Int32) (J : Nat → Int64) (a : Nat → Nat → Int32) (b : Nat → Nat → Int64) (x0 : Int32 × Int32 × Int32 × Int32 × Int32 × Int32 × Int64 × (Nat → Int32) × (Nat → Int32) × (Nat → Int64)) (h : f_X3_countAll F I J a b = some x0) : Met l yX3_countAll wsX3_countAll ({ frames := 3, cells := 0, slots := 0, locals := 72 }) (CUPc D cI cJ q I J a b [.ref (q 6)]) (va_Qv (fun (u : Int32 × Int32 × Int32 × Int32 × Int32 × Int32 × Int64 × (Nat → Int32) × (Nat → Int32) × (Nat → Int64)) => u = x0) (fun (u : Int32 × Int32 × Int32 × Int32 × Int32 × Int32 × Int64 × (Nat → Int32) × (Nat → Int32) × (Nat → Int64)) t => va_P D vwCl (CUW cI cJ q (fu (fu (fu (fu (fu (fu I 17 u.1) 19 u.2.1) 20 u.2.2.1) 21 u.2.2.2.1) 22 u.2.2.2.2.1) 23 u.2.2.2.2.2.1) (fu J 2 u.2.2.2.2.2.2.1) (fu (fu a 9 u.2.2.2.2.2.2.2.1) 10 u.2.2.2.2.2.2.2.2.1) (fu b 0 u.2.2.2.2.2.2.2.2.2)) t.heap) (CUA q)) 0 0 (CUA q) := by
  refine mt_of (cc := cX3_countAll) (maxL := 5) (ret := none) (by decide) rfl ?_
  intro p e s m args below meth c s₁ B0 hml hv R Q hR hQ
  obtain ⟨hargs, hP, hK, hN⟩ := hv
  have hx := B0.exec
  have hb := B0.bytes
  have hr := B0.returns
  have hts := atoms_spec (ws := wsX3_countAll) B0.pre
  have hown : s.vm.findClass RX3 = some m.cls := findClass_of_methodNamed B0.named
  have hlocks := B0.notSynchronized
  have hS : va_S (CUA q) s.heap s.heap [] := va_S.rf
  have hl := lv_entry ([.ref (q 6)]) (n := 5) (Nat.le_of_ble_eq_true rfl)
  rw [hargs, lg_entry_eq]
  rw [← hargs]
  generalize (lg_sl ([.ref (q 6)]) ++ List.replicate (5 - (lg_sl ([.ref (q 6)])).length) Slot.unset).toArray = ls at hl ⊢
  have hl : lv_has ls 5 [(0, .ref (q 6))] := hl
  unfold f_X3_countAll at h
  have C68 : ∀ (n68 : Nat) (v1 : Int64) (v3 : Int32) (v4 : Int32) (I19 : Int32) (I20 : Int32) (I21 : Int32) (I22 : Int32) (I23 : Int32) (J2 : Int64) (a9 : Nat → Int32) (a10 : Nat → Int32) (b0 : Nat → Int64), k_X3_countAll_68 F I J a b n68 v1 v3 v4 I19 I20 I21 I22 I23 J2 a9 a10 b0 = some x0 → ∀ (H : Heap) (locs : List Loc), va_P D vwCl (CUW cI cJ q (fu (fu (fu (fu (fu I 19 I19) 20 I20) 21 I21) 22 I22) 23 I23) (fu J 2 J2) (fu (fu a 9 a9) 10 a10) (fu b 0 b0)) H → va_S (CUA q) s.heap H locs → ∀ ls : Array Slot, lv_has ls 5 [(0, .ref (q 6)), (1, .long v1), (3, .int v3), (4, .int v4)] → W p l e R s m args below meth c H locs 0 0 Q (F0 m 68 ls []) := by
    intro n68
    induction n68 with
    | zero => intro v1 v3 v4 I19 I20 I21 I22 I23 J2 a9 a10 b0 h; rw [k_X3_countAll_68] at h; cases h
    | succ n68 ih68 =>
      intro v1 v3 v4 I19 I20 I21 I22 I23 J2 a9 a10 b0 h H locs hP hS ls hl
      rw [k_X3_countAll_68] at h
      refine lv_iload hx hb dX3_countAll_68 (lv_at hl 3 rfl) ?_
      refine lv_iload_n hx hb dX3_countAll_70 rfl (lv_at hl 2 rfl) ?_
      refine lv_icmp_ge (tgt := 100) hx hb dX3_countAll_71 (by decide) (fun c_1 => ?_) (fun c_1 => ?_)
      · have h := if_t c_1 h
        refine lv_aload_n hx hb dX3_countAll_100 rfl (lv_at hl 0 rfl) ?_
        refine lv_iconst (v := 1) hx hb dX3_countAll_101 (by decide) ?_
        refine va_put (D := D) (ci := 3) (v := .int 1) (ty := .boolean) (C := RX3) (T := TX3) (N := 13) hx hb hts in_X3_countAll_X3 tyX3 tyX3_ok nmX3 hown hK hP (CUW_D hq) hS 6 rfl rfl 5 (by decide) (hts (.fieldLink RX3 29 "LearnedReasons$Models" "isCounted" "Z") (by decide +kernel)) (fun _ h9 => h9) rfl (by decide +kernel) rfl rfl (Nat.le_of_ble_eq_true rfl) dX3_countAll_102 (fun H locs hP _ hS => ?_)
        have hP : va_P D vwCl (CUW cI cJ q (fu (fu (fu (fu (fu (fu I 17 1) 19 I19) 20 I20) 21 I21) 22 I22) 23 I23) (fu J 2 J2) (fu (fu a 9 a9) 10 a10) (fu b 0 b0)) H := hP
        have hx0 := Option.some.inj h
        rw [hQ]
        exact W.vret hx hb hr (fun t ht hW => ⟨⟨(1, I19, I20, I21, I22, I23, J2, a9, a10, b0), rfl, hx0, by show va_P _ _ _ t.heap; rw [ht]; exact hP⟩, hS.F ht⟩) hS.2.2 dX3_countAll_105
      · have h := if_f c_1 h
        refine lv_aload_n hx hb dX3_countAll_74 rfl (lv_at hl 0 rfl) ?_
        refine va_get (D := D) (ci := 3) (v := .ref (q 15)) (C := RX3) (T := TX3) (N := 13) hx hb hts in_X3_countAll_X3 hown hK hP 6 rfl rfl 1 (by decide) (hts (.fieldLink RX3 11 "LearnedReasons$Models" "broken" "[J") (by decide +kernel)) (fun _ h9 => h9) rfl dX3_countAll_75 ?_
        refine lv_iload hx hb dX3_countAll_78 (lv_at hl 3 rfl) ?_
        obtain ⟨g_2, h⟩ := gd_some h
        refine va_lald hx hb hK hP 15 1 rfl rfl g_2 dX3_countAll_80 ?_
        refine lv_lload_n hx hb dX3_countAll_81 rfl (lv_at hl 1 rfl) ?_
        refine lv_land hx hb dX3_countAll_82 ?_
        refine lv_lconst (v := 0) hx hb dX3_countAll_83 (by decide) ?_
        refine W.lcmp hx hb dX3_countAll_84 ?_
        refine lv_if_ne (tgt := 94) hx hb dX3_countAll_85 (by decide) (fun c_3 => ?_) (fun c_3 => ?_)
        · have h := if_f c_3 h
          refine lv_iinc (v := v4 + 1) (lv' := [(4, .int (v4 + 1)), (0, .ref (q 6)), (1, .long v1), (3, .int v3)]) hx hb dX3_countAll_94 hl (k := 3) rfl rfl (by decide) rfl (fun ls hl => ?_)
          refine lv_goto (tgt := 68) hx hb dX3_countAll_97 (by decide) ?_
          exact ih68 v1 v3 (v4 + 1) I19 I20 I21 I22 I23 J2 a9 a10 b0 h _ _ hP hS ls (lv_sub hl [1, 2, 3, 0] rfl)
        · have h := if_t c_3 h
          refine lv_aload_n hx hb dX3_countAll_88 rfl (lv_at hl 0 rfl) ?_
          refine lv_iload hx hb dX3_countAll_89 (lv_at hl 3 rfl) ?_
          obtain ⟨x_4, hx_4, h⟩ := ob_some h
          refine va_callv (va_runV (As := [.int v4]) (rest := []) ⟨hx, hb, hml, hown, hts⟩ (c_X3_countOne l D cI cJ q hq F (fu (fu (fu (fu (fu I 19 I19) 20 I20) 21 I21) 22 I22) 23 I23) (fu J 2 J2) (fu (fu a 9 a9) 10 a10) (fu b 0 b0) v4 x_4 hx_4) (cwV 1 hts gX3_countAll_X3_countOne rfl rfl rfl (by decide +kernel) (by rw [hR]; exact ⟨Nat.le_of_ble_eq_true rfl, Nat.le_of_ble_eq_true rfl⟩)) ⟨CUPc_blind, va_recv hK hP (ci := 3) (q0 := 6) rfl rfl, fun U hU hW => ⟨rfl, by rw [hU]; exact hP, va_K.moved hW.alike hK, va_Nw.warmM hW hN⟩⟩ rfl rfl hl.1 rfl (lv_room (Nat.le_of_ble_eq_true rfl)) dX3_countAll_91 ⟨Nat.zero_le _, Nat.zero_le _⟩) hS (fun _ _ h => h) (fun _ h => h) (fun u t H1 locs ht hvm hw hB hz1 hk1 hS => ?_)
          obtain rfl := hw.symm
          rw [ht] at hB
          have hP : va_P D vwCl (CUW cI cJ q (fu (fu (fu (fu (fu I 19 x_4.1) 20 x_4.2.1) 21 x_4.2.2.1) 22 x_4.2.2.2.1) 23 x_4.2.2.2.2) (fu J 2 J2) (fu (fu a 9 a9) 10 a10) (fu b 0 b0)) H1 := hB
          clear hB hz1 hk1 ht hvm
          generalize H1 = H at hP hS ⊢
          refine lv_iinc (v := v4 + 1) (lv' := [(4, .int (v4 + 1)), (0, .ref (q 6)), (1, .long v1), (3, .int v3)]) hx hb dX3_countAll_94 hl (k := 3) rfl rfl (by decide) rfl (fun ls hl => ?_)
          refine lv_goto (tgt := 68) hx hb dX3_countAll_97 (by decide) ?_
          exact ih68 v1 v3 (v4 + 1) x_4.1 x_4.2.1 x_4.2.2.1 x_4.2.2.2.1 x_4.2.2.2.2 J2 a9 a10 b0 h _ _ hP hS ls (lv_sub hl [1, 2, 3, 0] rfl)
  refine lv_aload_n hx hb dX3_countAll_0 rfl (lv_at hl 0 rfl) ?_
  refine va_get (D := D) (ci := 3) (v := .int (I 17)) (C := RX3) (T := TX3) (N := 13) hx hb hts in_X3_countAll_X3 hown hK hP 6 rfl rfl 5 (by decide) (hts (.fieldLink RX3 29 "LearnedReasons$Models" "isCounted" "Z") (by decide +kernel)) (fun _ h9 => h9) rfl dX3_countAll_1 ?_
  refine lv_if_eq (tgt := 8) hx hb dX3_countAll_4 (by decide) (fun c_5 => ?_) (fun c_5 => ?_)
  · have h := if_t c_5 h
    refine lv_aload_n hx hb dX3_countAll_8 rfl (lv_at hl 0 rfl) ?_
    obtain ⟨x_6, hx_6, h⟩ := ob_some h
    refine va_callv (va_runV (As := []) (rest := []) ⟨hx, hb, hml, hown, hts⟩ (c_X3_readThings l D cI cJ q hq F I J a b x_6 hx_6) (cwV 0 hts gX3_countAll_X3_readThings rfl rfl rfl (by decide +kernel) (by rw [hR]; exact ⟨Nat.le_of_ble_eq_true rfl, Nat.le_of_ble_eq_true rfl⟩)) ⟨CUPc_blind, va_recv hK hP (ci := 3) (q0 := 6) rfl rfl, fun U hU hW => ⟨rfl, by rw [hU]; exact hP, va_K.moved hW.alike hK, va_Nw.warmM hW hN⟩⟩ rfl rfl hl.1 rfl (lv_room (Nat.le_of_ble_eq_true rfl)) dX3_countAll_9 ⟨Nat.zero_le _, Nat.zero_le _⟩) hS (fun _ _ h => h) (fun _ h => h) (fun u t H1 locs ht hvm hw hB hz1 hk1 hS => ?_)
    obtain rfl := hw.symm
    rw [ht] at hB
    have hP : va_P D vwCl (CUW cI cJ q I (fu J 2 x_6.1) (fu (fu a 9 x_6.2.1) 10 x_6.2.2.1) (fu b 0 x_6.2.2.2)) H1 := hB
    clear hB hz1 hk1 ht hvm
    generalize H1 = H at hP hS ⊢
    refine lv_aload_n hx hb dX3_countAll_12 rfl (lv_at hl 0 rfl) ?_
    obtain ⟨x_7, hx_7, h⟩ := ob_some h
    refine va_callv (va_runV (As := []) (rest := []) ⟨hx, hb, hml, hown, hts⟩ (c_X3_layOutCosts l D cI cJ q hq F I (fu J 2 x_6.1) (fu (fu a 9 x_6.2.1) 10 x_6.2.2.1) (fu b 0 x_6.2.2.2) x_7 hx_7) (cwV 0 hts gX3_countAll_X3_layOutCosts rfl rfl rfl (by decide +kernel) (by rw [hR]; exact ⟨Nat.le_of_ble_eq_true rfl, Nat.le_of_ble_eq_true rfl⟩)) ⟨CUPc_blind, va_recv hK hP (ci := 3) (q0 := 6) rfl rfl, fun U hU hW => ⟨rfl, by rw [hU]; exact hP, va_K.moved hW.alike hK, va_Nw.warmM hW hN⟩⟩ rfl rfl hl.1 rfl (lv_room (Nat.le_of_ble_eq_true rfl)) dX3_countAll_13 ⟨Nat.zero_le _, Nat.zero_le _⟩) hS (fun _ _ h => h) (fun _ h => h) (fun u t H1 locs ht hvm hw hB hz1 hk1 hS => ?_)
    obtain rfl := hw.symm
    rw [ht] at hB
    have hP : va_P D vwCl (CUW cI cJ q I (fu J 2 x_6.1) (fu (fu a 9 x_7.1) 10 x_7.2) (fu b 0 x_6.2.2.2)) H1 := hB
    clear hB hz1 hk1 ht hvm
    generalize H1 = H at hP hS ⊢
    refine lv_aload_n hx hb dX3_countAll_16 rfl (lv_at hl 0 rfl) ?_
    refine lv_iconst (v := 0) hx hb dX3_countAll_17 (by decide) ?_
    refine va_put (D := D) (ci := 3) (v := .int 0) (ty := .int) (C := RX3) (T := TX3) (N := 13) hx hb hts in_X3_countAll_X3 tyX3 tyX3_ok nmX3 hown hK hP (CUW_D hq) hS 6 rfl rfl 7 (by decide) (hts (.fieldLink RX3 45 "LearnedReasons$Models" "size" "I") (by decide +kernel)) (fun _ h9 => h9) rfl (by decide +kernel) rfl rfl (Nat.le_of_ble_eq_true rfl) dX3_countAll_18 (fun H locs hP _ hS => ?_)
    have hP : va_P D vwCl (CUW cI cJ q (fu I 19 0) (fu J 2 x_6.1) (fu (fu a 9 x_7.1) 10 x_7.2) (fu b 0 x_6.2.2.2)) H := hP
    refine lv_aload_n hx hb dX3_countAll_21 rfl (lv_at hl 0 rfl) ?_
    refine lv_aload_n hx hb dX3_countAll_22 rfl (lv_at hl 0 rfl) ?_
    refine va_get (D := D) (ci := 3) (v := .ref (q 1)) (C := RX3) (T := TX3) (N := 13) hx hb hts in_X3_countAll_X3 hown hK hP 6 rfl rfl 0 (by decide) (hts (.fieldLink RX3 25 "LearnedReasons$Models" "things" "LLearnedReasons$Things;") (by decide +kernel)) (fun _ h9 => h9) rfl dX3_countAll_23 ?_
    obtain ⟨x_8, hx_8, h⟩ := ob_some h
    refine va_calli (va_runV (As := []) (rest := [.ref (q 6)]) ⟨hx, hb, hml, hown, hts⟩ (c_X5_allNames l D cI cJ q hq F (fu I 19 0) (fu J 2 x_6.1) (fu (fu a 9 x_7.1) 10 x_7.2) (fu b 0 x_6.2.2.2) x_8 hx_8) (cwV 0 hts gX3_countAll_X5_allNames rfl rfl rfl (by decide +kernel) (by rw [hR]; exact ⟨Nat.le_of_ble_eq_true rfl, Nat.le_of_ble_eq_true rfl⟩)) ⟨CUPc_blind, va_recv hK hP (ci := 5) (q0 := 1) rfl rfl, fun U hU hW => ⟨rfl, by rw [hU]; exact hP, va_K.moved hW.alike hK, va_Nw.warmM hW hN⟩⟩ rfl rfl hl.1 rfl (lv_room (Nat.le_of_ble_eq_true rfl)) dX3_countAll_26 ⟨Nat.zero_le _, Nat.zero_le _⟩) hS (fun _ _ h => h) (fun _ h => h) (fun r u t H1 locs ht hvm hw hB hz1 hk1 hS => ?_)
    obtain rfl := hw.symm
    rw [ht] at hB
    have hP : va_P D vwCl (CUW cI cJ q (fu I 19 0) (fu J 2 x_6.1) (fu (fu a 9 x_7.1) 10 x_7.2) (fu b 0 x_6.2.2.2)) H1 := hB
    clear hB hz1 hk1 ht hvm
    generalize H1 = H at hP hS ⊢
    refine va_put (D := D) (ci := 3) (v := .int x_8) (ty := .int) (C := RX3) (T := TX3) (N := 13) hx hb hts in_X3_countAll_X3 tyX3 tyX3_ok nmX3 hown hK hP (CUW_D hq) hS 6 rfl rfl 8 (by decide) (hts (.fieldLink RX3 49 "LearnedReasons$Models" "inAll" "I") (by decide +kernel)) (fun _ h9 => h9) rfl (by decide +kernel) rfl rfl (Nat.le_of_ble_eq_true rfl) dX3_countAll_29 (fun H locs hP _ hS => ?_)
    have hP : va_P D vwCl (CUW cI cJ q (fu (fu I 19 0) 20 x_8) (fu J 2 x_6.1) (fu (fu a 9 x_7.1) 10 x_7.2) (fu b 0 x_6.2.2.2)) H := hP
    refine lv_aload_n hx hb dX3_countAll_32 rfl (lv_at hl 0 rfl) ?_
    refine lv_iconst (v := 0) hx hb dX3_countAll_33 (by decide) ?_
    refine va_put (D := D) (ci := 3) (v := .int 0) (ty := .int) (C := RX3) (T := TX3) (N := 13) hx hb hts in_X3_countAll_X3 tyX3 tyX3_ok nmX3 hown hK hP (CUW_D hq) hS 6 rfl rfl 9 (by decide) (hts (.fieldLink RX3 58 "LearnedReasons$Models" "inSome" "I") (by decide +kernel)) (fun _ h9 => h9) rfl (by decide +kernel) rfl rfl (Nat.le_of_ble_eq_true rfl) dX3_countAll_34 (fun H locs hP _ hS => ?_)
    have hP : va_P D vwCl (CUW cI cJ q (fu (fu (fu I 19 0) 20 x_8) 21 0) (fu J 2 x_6.1) (fu (fu a 9 x_7.1) 10 x_7.2) (fu b 0 x_6.2.2.2)) H := hP
    refine lv_aload_n hx hb dX3_countAll_37 rfl (lv_at hl 0 rfl) ?_
    refine lv_iconst (v := 0) hx hb dX3_countAll_38 (by decide) ?_
    refine va_put (D := D) (ci := 3) (v := .int 0) (ty := .int) (C := RX3) (T := TX3) (N := 13) hx hb hts in_X3_countAll_X3 tyX3 tyX3_ok nmX3 hown hK hP (CUW_D hq) hS 6 rfl rfl 10 (by decide) (hts (.fieldLink RX3 61 "LearnedReasons$Models" "least" "I") (by decide +kernel)) (fun _ h9 => h9) rfl (by decide +kernel) rfl rfl (Nat.le_of_ble_eq_true rfl) dX3_countAll_39 (fun H locs hP _ hS => ?_)
    have hP : va_P D vwCl (CUW cI cJ q (fu (fu (fu (fu I 19 0) 20 x_8) 21 0) 22 0) (fu J 2 x_6.1) (fu (fu a 9 x_7.1) 10 x_7.2) (fu b 0 x_6.2.2.2)) H := hP
    refine lv_aload_n hx hb dX3_countAll_42 rfl (lv_at hl 0 rfl) ?_
    refine lv_iconst (v := 0) hx hb dX3_countAll_43 (by decide) ?_
    refine va_put (D := D) (ci := 3) (v := .int 0) (ty := .int) (C := RX3) (T := TX3) (N := 13) hx hb hts in_X3_countAll_X3 tyX3 tyX3_ok nmX3 hown hK hP (CUW_D hq) hS 6 rfl rfl 11 (by decide) (hts (.fieldLink RX3 64 "LearnedReasons$Models" "firstBest" "I") (by decide +kernel)) (fun _ h9 => h9) rfl (by decide +kernel) rfl rfl (Nat.le_of_ble_eq_true rfl) dX3_countAll_44 (fun H locs hP _ hS => ?_)
    have hP : va_P D vwCl (CUW cI cJ q (fu (fu (fu (fu (fu I 19 0) 20 x_8) 21 0) 22 0) 23 0) (fu J 2 x_6.1) (fu (fu a 9 x_7.1) 10 x_7.2) (fu b 0 x_6.2.2.2)) H := hP
    refine lv_aload_n hx hb dX3_countAll_47 rfl (lv_at hl 0 rfl) ?_
    refine va_get (D := D) (ci := 3) (v := .ref (q 1)) (C := RX3) (T := TX3) (N := 13) hx hb hts in_X3_countAll_X3 hown hK hP 6 rfl rfl 0 (by decide) (hts (.fieldLink RX3 25 "LearnedReasons$Models" "things" "LLearnedReasons$Things;") (by decide +kernel)) (fun _ h9 => h9) rfl dX3_countAll_48 ?_
    obtain ⟨x_9, hx_9, h⟩ := ob_some h
    refine va_calll (va_runV (As := []) (rest := []) ⟨hx, hb, hml, hown, hts⟩ (c_X5_standing l D cI cJ q hq F (fu (fu (fu (fu (fu I 19 0) 20 x_8) 21 0) 22 0) 23 0) (fu J 2 x_6.1) (fu (fu a 9 x_7.1) 10 x_7.2) (fu b 0 x_6.2.2.2) x_9 hx_9) (cwV 0 hts gX3_countAll_X5_standing rfl rfl rfl (by decide +kernel) (by rw [hR]; exact ⟨Nat.le_of_ble_eq_true rfl, Nat.le_of_ble_eq_true rfl⟩)) ⟨CUPc_blind, va_recv hK hP (ci := 5) (q0 := 1) rfl rfl, fun U hU hW => ⟨rfl, by rw [hU]; exact hP, va_K.moved hW.alike hK, va_Nw.warmM hW hN⟩⟩ rfl rfl hl.1 rfl (lv_room (Nat.le_of_ble_eq_true rfl)) dX3_countAll_51 ⟨Nat.zero_le _, Nat.zero_le _⟩) hS (fun _ _ h => h) (fun _ h => h) (fun r u t H1 locs ht hvm hw hB hz1 hk1 hS => ?_)
    obtain rfl := hw.symm
    rw [ht] at hB
    have hP : va_P D vwCl (CUW cI cJ q (fu (fu (fu (fu (fu I 19 0) 20 x_8) 21 0) 22 0) 23 0) (fu J 2 x_6.1) (fu (fu a 9 x_7.1) 10 x_7.2) (fu b 0 x_6.2.2.2)) H1 := hB
    clear hB hz1 hk1 ht hvm
    generalize H1 = H at hP hS ⊢
    refine lv_lstore_n (lv' := [(1, .long x_9), (0, .ref (q 6))]) hx hb dX3_countAll_54 rfl hl (by decide) rfl (fun ls hl => ?_)
    refine lv_iconst (v := 1) hx hb dX3_countAll_55 (by decide) ?_
    refine lv_aload_n hx hb dX3_countAll_56 rfl (lv_at hl 1 rfl) ?_
    refine va_get (D := D) (ci := 3) (v := .ref (q 1)) (C := RX3) (T := TX3) (N := 13) hx hb hts in_X3_countAll_X3 hown hK hP 6 rfl rfl 0 (by decide) (hts (.fieldLink RX3 25 "LearnedReasons$Models" "things" "LLearnedReasons$Things;") (by decide +kernel)) (fun _ h9 => h9) rfl dX3_countAll_57 ?_
    obtain ⟨x_10, hx_10, h⟩ := ob_some h
    refine va_calli (va_runV (As := []) (rest := [.int 1]) ⟨hx, hb, hml, hown, hts⟩ (c_X5_names l D cI cJ q hq F (fu (fu (fu (fu (fu I 19 0) 20 x_8) 21 0) 22 0) 23 0) (fu J 2 x_6.1) (fu (fu a 9 x_7.1) 10 x_7.2) (fu b 0 x_6.2.2.2) x_10 hx_10) (cwV 0 hts gX3_countAll_X5_names rfl rfl rfl (by decide +kernel) (by rw [hR]; exact ⟨Nat.le_of_ble_eq_true rfl, Nat.le_of_ble_eq_true rfl⟩)) ⟨CUPc_blind, va_recv hK hP (ci := 5) (q0 := 1) rfl rfl, fun U hU hW => ⟨rfl, by rw [hU]; exact hP, va_K.moved hW.alike hK, va_Nw.warmM hW hN⟩⟩ rfl rfl hl.1 rfl (lv_room (Nat.le_of_ble_eq_true rfl)) dX3_countAll_60 ⟨Nat.zero_le _, Nat.zero_le _⟩) hS (fun _ _ h => h) (fun _ h => h) (fun r u t H1 locs ht hvm hw hB hz1 hk1 hS => ?_)
    obtain rfl := hw.symm
    rw [ht] at hB
    have hP : va_P D vwCl (CUW cI cJ q (fu (fu (fu (fu (fu I 19 0) 20 x_8) 21 0) 22 0) 23 0) (fu J 2 x_6.1) (fu (fu a 9 x_7.1) 10 x_7.2) (fu b 0 x_6.2.2.2)) H1 := hB
    clear hB hz1 hk1 ht hvm
    generalize H1 = H at hP hS ⊢
    refine lv_ishl hx hb dX3_countAll_63 ?_
    refine lv_topi (fun v_11 ev_11 => ?_)
    have h := nmI_at ev_11 h
    refine lv_istore_n (lv' := [(3, .int v_11), (1, .long x_9), (0, .ref (q 6))]) hx hb dX3_countAll_64 rfl hl (by decide) rfl (fun ls hl => ?_)
    refine lv_iconst (v := 0) hx hb dX3_countAll_65 (by decide) ?_
    refine lv_istore (lv' := [(4, .int 0), (3, .int v_11), (1, .long x_9), (0, .ref (q 6))]) hx hb dX3_countAll_66 hl (by decide) rfl (fun ls hl => ?_)
    exact C68 F x_9 v_11 0 0 x_8 0 0 0 x_6.1 x_7.1 x_7.2 x_6.2.2.2 h _ _ hP hS ls (lv_sub hl [3, 2, 1, 0] rfl)
  · have h := if_f c_5 h
    have hx0 := Option.some.inj h
    rw [hQ]
    exact W.vret hx hb hr (fun t ht hW => ⟨⟨((I 17), (I 19), (I 20), (I 21), (I 22), (I 23), (J 2), (a 9), (a 10), (b 0)), rfl, hx0, by show va_P _ _ _ t.heap; rw [ht]; exact hP⟩, hS.F ht⟩) hS.2.2 dX3_countAll_7
theorem in_X3_modelCount_X3 : ∀ w ∈ wsX30, w ∈ wsX3_modelCount := by decide +kernel
set_option maxHeartbeats 4000000 in
set_option maxRecDepth 100000 in
theorem c_X3_modelCount (l : Launch) (D : va_G) (cI cJ : ClassId) (q : Nat → Nat) (hq : CUQ q) (F : Nat) (I : Nat → Int32) (J : Nat → Int64) (a : Nat → Nat → Int32) (b : Nat → Nat → Int64) (x0 : Int32 × Int32 × Int32 × Int32 × Int32 × Int32 × Int32 × Int64 × (Nat → Int32) × (Nat → Int32) × (Nat → Int64)) (h : f_X3_modelCount F I J a b = some x0) : Met l yX3_modelCount wsX3_modelCount ({ frames := 4, cells := 0, slots := 0, locals := 96 }) (CUPc D cI cJ q I J a b [.ref (q 6)]) (va_Qi (fun (r : Int32) (u : Int32 × Int32 × Int32 × Int32 × Int32 × Int32 × Int64 × (Nat → Int32) × (Nat → Int32) × (Nat → Int64)) => r = x0.1 ∧ u = x0.2) (fun (u : Int32 × Int32 × Int32 × Int32 × Int32 × Int32 × Int64 × (Nat → Int32) × (Nat → Int32) × (Nat → Int64)) t => va_P D vwCl (CUW cI cJ q (fu (fu (fu (fu (fu (fu I 17 u.1) 19 u.2.1) 20 u.2.2.1) 21 u.2.2.2.1) 22 u.2.2.2.2.1) 23 u.2.2.2.2.2.1) (fu J 2 u.2.2.2.2.2.2.1) (fu (fu a 9 u.2.2.2.2.2.2.2.1) 10 u.2.2.2.2.2.2.2.2.1) (fu b 0 u.2.2.2.2.2.2.2.2.2)) t.heap) (CUA q)) 0 0 (CUA q) := by
  refine mt_of (cc := cX3_modelCount) (maxL := 1) (ret := (some .int)) (by decide) rfl ?_
  intro p e s m args below meth c s₁ B0 hml hv R Q hR hQ
  obtain ⟨hargs, hP, hK, hN⟩ := hv
  have hx := B0.exec
  have hb := B0.bytes
  have hr := B0.returns
  have hts := atoms_spec (ws := wsX3_modelCount) B0.pre
  have hown : s.vm.findClass RX3 = some m.cls := findClass_of_methodNamed B0.named
  have hlocks := B0.notSynchronized
  have hS : va_S (CUA q) s.heap s.heap [] := va_S.rf
  have hl := lv_entry ([.ref (q 6)]) (n := 1) (Nat.le_of_ble_eq_true rfl)
  rw [hargs, lg_entry_eq]
  rw [← hargs]
  generalize (lg_sl ([.ref (q 6)]) ++ List.replicate (1 - (lg_sl ([.ref (q 6)])).length) Slot.unset).toArray = ls at hl ⊢
  have hl : lv_has ls 1 [(0, .ref (q 6))] := hl
  unfold f_X3_modelCount at h
  refine lv_aload_n hx hb dX3_modelCount_0 rfl (lv_at hl 0 rfl) ?_
  obtain ⟨x_1, hx_1, h⟩ := ob_some h
  refine va_callv (va_runV (As := []) (rest := []) ⟨hx, hb, hml, hown, hts⟩ (c_X3_countAll l D cI cJ q hq F I J a b x_1 hx_1) (cwV 0 hts gX3_modelCount_X3_countAll rfl rfl rfl (by decide +kernel) (by rw [hR]; exact ⟨Nat.le_of_ble_eq_true rfl, Nat.le_of_ble_eq_true rfl⟩)) ⟨CUPc_blind, va_recv hK hP (ci := 3) (q0 := 6) rfl rfl, fun U hU hW => ⟨rfl, by rw [hU]; exact hP, va_K.moved hW.alike hK, va_Nw.warmM hW hN⟩⟩ rfl rfl hl.1 rfl (lv_room (Nat.le_of_ble_eq_true rfl)) dX3_modelCount_1 ⟨Nat.zero_le _, Nat.zero_le _⟩) hS (fun _ _ h => h) (fun _ h => h) (fun u t H1 locs ht hvm hw hB hz1 hk1 hS => ?_)
  obtain rfl := hw.symm
  rw [ht] at hB
  have hP : va_P D vwCl (CUW cI cJ q (fu (fu (fu (fu (fu (fu I 17 x_1.1) 19 x_1.2.1) 20 x_1.2.2.1) 21 x_1.2.2.2.1) 22 x_1.2.2.2.2.1) 23 x_1.2.2.2.2.2.1) (fu J 2 x_1.2.2.2.2.2.2.1) (fu (fu a 9 x_1.2.2.2.2.2.2.2.1) 10 x_1.2.2.2.2.2.2.2.2.1) (fu b 0 x_1.2.2.2.2.2.2.2.2.2)) H1 := hB
  clear hB hz1 hk1 ht hvm
  generalize H1 = H at hP hS ⊢
  refine lv_aload_n hx hb dX3_modelCount_4 rfl (lv_at hl 0 rfl) ?_
  refine va_get (D := D) (ci := 3) (v := .int x_1.2.1) (C := RX3) (T := TX3) (N := 13) hx hb hts in_X3_modelCount_X3 hown hK hP 6 rfl rfl 7 (by decide) (hts (.fieldLink RX3 45 "LearnedReasons$Models" "size" "I") (by decide +kernel)) (fun _ h9 => h9) rfl dX3_modelCount_5 ?_
  have hx0 := Option.some.inj h
  rw [hQ]
  exact W.iret (v := x_1.2.1) hx hb hr (fun t ht hW => ⟨⟨x_1.2.1, (x_1.1, x_1.2.1, x_1.2.2.1, x_1.2.2.2.1, x_1.2.2.2.2.1, x_1.2.2.2.2.2.1, x_1.2.2.2.2.2.2.1, x_1.2.2.2.2.2.2.2.1, x_1.2.2.2.2.2.2.2.2.1, x_1.2.2.2.2.2.2.2.2.2), rfl, ⟨congrArg (fun z => z.1) hx0, congrArg (fun z => z.2) hx0⟩, by show va_P _ _ _ t.heap; rw [ht]; exact hP⟩, hS.F ht⟩) hS.2.2 dX3_modelCount_8
theorem in_X6_count_X6 : ∀ w ∈ wsX60, w ∈ wsX6_count := by decide +kernel
set_option maxHeartbeats 4000000 in
set_option maxRecDepth 100000 in
theorem c_X6_count (l : Launch) (D : va_G) (cI cJ : ClassId) (q : Nat → Nat) (hq : CUQ q) (F : Nat) (I : Nat → Int32) (J : Nat → Int64) (a : Nat → Nat → Int32) (b : Nat → Nat → Int64) (x0 : Int32 × Int32 × Int32 × Int32 × Int32 × Int32 × Int32 × Int64 × (Nat → Int32) × (Nat → Int32) × (Nat → Int64)) (h : f_X6_count F I J a b = some x0) : Met l yX6_count wsX6_count ({ frames := 5, cells := 0, slots := 0, locals := 116 }) (CUPc D cI cJ q I J a b [.ref (q 0)]) (va_Qi (fun (r : Int32) (u : Int32 × Int32 × Int32 × Int32 × Int32 × Int32 × Int64 × (Nat → Int32) × (Nat → Int32) × (Nat → Int64)) => r = x0.1 ∧ u = x0.2) (fun (u : Int32 × Int32 × Int32 × Int32 × Int32 × Int32 × Int64 × (Nat → Int32) × (Nat → Int32) × (Nat → Int64)) t => va_P D vwCl (CUW cI cJ q (fu (fu (fu (fu (fu (fu I 17 u.1) 19 u.2.1) 20 u.2.2.1) 21 u.2.2.2.1) 22 u.2.2.2.2.1) 23 u.2.2.2.2.2.1) (fu J 2 u.2.2.2.2.2.2.1) (fu (fu a 9 u.2.2.2.2.2.2.2.1) 10 u.2.2.2.2.2.2.2.2.1) (fu b 0 u.2.2.2.2.2.2.2.2.2)) t.heap) (CUA q)) 0 0 (CUA q) := by
  refine mt_of (cc := cX6_count) (maxL := 1) (ret := (some .int)) (by decide) rfl ?_
  intro p e s m args below meth c s₁ B0 hml hv R Q hR hQ
  obtain ⟨hargs, hP, hK, hN⟩ := hv
  have hx := B0.exec
  have hb := B0.bytes
  have hr := B0.returns
  have hts := atoms_spec (ws := wsX6_count) B0.pre
  have hown : s.vm.findClass RX6 = some m.cls := findClass_of_methodNamed B0.named
  have hlocks := B0.notSynchronized
  have hS : va_S (CUA q) s.heap s.heap [] := va_S.rf
  have hl := lv_entry ([.ref (q 0)]) (n := 1) (Nat.le_of_ble_eq_true rfl)
  rw [hargs, lg_entry_eq]
  rw [← hargs]
  generalize (lg_sl ([.ref (q 0)]) ++ List.replicate (1 - (lg_sl ([.ref (q 0)])).length) Slot.unset).toArray = ls at hl ⊢
  have hl : lv_has ls 1 [(0, .ref (q 0))] := hl
  unfold f_X6_count at h
  refine lv_aload_n hx hb dX6_count_0 rfl (lv_at hl 0 rfl) ?_
  refine va_get (D := D) (ci := 6) (v := .ref (q 6)) (C := RX6) (T := TX6) (N := 9) hx hb hts in_X6_count_X6 hown hK hP 0 rfl rfl 4 (by decide) (hts (.fieldLink RX6 49 "LearnedReasons" "models" "LLearnedReasons$Models;") (by decide +kernel)) (fun _ h9 => h9) rfl dX6_count_1 ?_
  obtain ⟨x_1, hx_1, h⟩ := ob_some h
  refine va_calli (va_runV (As := []) (rest := []) ⟨hx, hb, hml, hown, hts⟩ (c_X3_modelCount l D cI cJ q hq F I J a b x_1 hx_1) (cwV 0 hts gX6_count_X3_modelCount rfl rfl rfl (by decide +kernel) (by rw [hR]; exact ⟨Nat.le_of_ble_eq_true rfl, Nat.le_of_ble_eq_true rfl⟩)) ⟨CUPc_blind, va_recv hK hP (ci := 3) (q0 := 6) rfl rfl, fun U hU hW => ⟨rfl, by rw [hU]; exact hP, va_K.moved hW.alike hK, va_Nw.warmM hW hN⟩⟩ rfl rfl hl.1 rfl (lv_room (Nat.le_of_ble_eq_true rfl)) dX6_count_4 ⟨Nat.zero_le _, Nat.zero_le _⟩) hS (fun _ _ h => h) (fun _ h => h) (fun r u t H1 locs ht hvm hw hB hz1 hk1 hS => ?_)
  obtain ⟨rfl, rfl⟩ := hw
  rw [ht] at hB
  have hP : va_P D vwCl (CUW cI cJ q (fu (fu (fu (fu (fu (fu I 17 x_1.2.1) 19 x_1.2.2.1) 20 x_1.2.2.2.1) 21 x_1.2.2.2.2.1) 22 x_1.2.2.2.2.2.1) 23 x_1.2.2.2.2.2.2.1) (fu J 2 x_1.2.2.2.2.2.2.2.1) (fu (fu a 9 x_1.2.2.2.2.2.2.2.2.1) 10 x_1.2.2.2.2.2.2.2.2.2.1) (fu b 0 x_1.2.2.2.2.2.2.2.2.2.2)) H1 := hB
  clear hB hz1 hk1 ht hvm
  generalize H1 = H at hP hS ⊢
  have hx0 := Option.some.inj h
  rw [hQ]
  exact W.iret (v := x_1.1) hx hb hr (fun t ht hW => ⟨⟨x_1.1, (x_1.2.1, x_1.2.2.1, x_1.2.2.2.1, x_1.2.2.2.2.1, x_1.2.2.2.2.2.1, x_1.2.2.2.2.2.2.1, x_1.2.2.2.2.2.2.2.1, x_1.2.2.2.2.2.2.2.2.1, x_1.2.2.2.2.2.2.2.2.2.1, x_1.2.2.2.2.2.2.2.2.2.2), rfl, ⟨congrArg (fun z => z.1) hx0, congrArg (fun z => z.2) hx0⟩, by show va_P _ _ _ t.heap; rw [ht]; exact hP⟩, hS.F ht⟩) hS.2.2 dX6_count_7
theorem in_X3_trueInAll_X3 : ∀ w ∈ wsX30, w ∈ wsX3_trueInAll := by decide +kernel
set_option maxHeartbeats 4000000 in
set_option maxRecDepth 100000 in
theorem c_X3_trueInAll (l : Launch) (D : va_G) (cI cJ : ClassId) (q : Nat → Nat) (hq : CUQ q) (F : Nat) (I : Nat → Int32) (J : Nat → Int64) (a : Nat → Nat → Int32) (b : Nat → Nat → Int64) (x0 : Int32 × Int32 × Int32 × Int32 × Int32 × Int32 × Int32 × Int64 × (Nat → Int32) × (Nat → Int32) × (Nat → Int64)) (h : f_X3_trueInAll F I J a b = some x0) : Met l yX3_trueInAll wsX3_trueInAll ({ frames := 4, cells := 0, slots := 0, locals := 96 }) (CUPc D cI cJ q I J a b [.ref (q 6)]) (va_Qi (fun (r : Int32) (u : Int32 × Int32 × Int32 × Int32 × Int32 × Int32 × Int64 × (Nat → Int32) × (Nat → Int32) × (Nat → Int64)) => r = x0.1 ∧ u = x0.2) (fun (u : Int32 × Int32 × Int32 × Int32 × Int32 × Int32 × Int64 × (Nat → Int32) × (Nat → Int32) × (Nat → Int64)) t => va_P D vwCl (CUW cI cJ q (fu (fu (fu (fu (fu (fu I 17 u.1) 19 u.2.1) 20 u.2.2.1) 21 u.2.2.2.1) 22 u.2.2.2.2.1) 23 u.2.2.2.2.2.1) (fu J 2 u.2.2.2.2.2.2.1) (fu (fu a 9 u.2.2.2.2.2.2.2.1) 10 u.2.2.2.2.2.2.2.2.1) (fu b 0 u.2.2.2.2.2.2.2.2.2)) t.heap) (CUA q)) 0 0 (CUA q) := by
  refine mt_of (cc := cX3_trueInAll) (maxL := 1) (ret := (some .int)) (by decide) rfl ?_
  intro p e s m args below meth c s₁ B0 hml hv R Q hR hQ
  obtain ⟨hargs, hP, hK, hN⟩ := hv
  have hx := B0.exec
  have hb := B0.bytes
  have hr := B0.returns
  have hts := atoms_spec (ws := wsX3_trueInAll) B0.pre
  have hown : s.vm.findClass RX3 = some m.cls := findClass_of_methodNamed B0.named
  have hlocks := B0.notSynchronized
  have hS : va_S (CUA q) s.heap s.heap [] := va_S.rf
  have hl := lv_entry ([.ref (q 6)]) (n := 1) (Nat.le_of_ble_eq_true rfl)
  rw [hargs, lg_entry_eq]
  rw [← hargs]
  generalize (lg_sl ([.ref (q 6)]) ++ List.replicate (1 - (lg_sl ([.ref (q 6)])).length) Slot.unset).toArray = ls at hl ⊢
  have hl : lv_has ls 1 [(0, .ref (q 6))] := hl
  unfold f_X3_trueInAll at h
  refine lv_aload_n hx hb dX3_trueInAll_0 rfl (lv_at hl 0 rfl) ?_
  obtain ⟨x_1, hx_1, h⟩ := ob_some h
  refine va_callv (va_runV (As := []) (rest := []) ⟨hx, hb, hml, hown, hts⟩ (c_X3_countAll l D cI cJ q hq F I J a b x_1 hx_1) (cwV 0 hts gX3_trueInAll_X3_countAll rfl rfl rfl (by decide +kernel) (by rw [hR]; exact ⟨Nat.le_of_ble_eq_true rfl, Nat.le_of_ble_eq_true rfl⟩)) ⟨CUPc_blind, va_recv hK hP (ci := 3) (q0 := 6) rfl rfl, fun U hU hW => ⟨rfl, by rw [hU]; exact hP, va_K.moved hW.alike hK, va_Nw.warmM hW hN⟩⟩ rfl rfl hl.1 rfl (lv_room (Nat.le_of_ble_eq_true rfl)) dX3_trueInAll_1 ⟨Nat.zero_le _, Nat.zero_le _⟩) hS (fun _ _ h => h) (fun _ h => h) (fun u t H1 locs ht hvm hw hB hz1 hk1 hS => ?_)
  obtain rfl := hw.symm
  rw [ht] at hB
  have hP : va_P D vwCl (CUW cI cJ q (fu (fu (fu (fu (fu (fu I 17 x_1.1) 19 x_1.2.1) 20 x_1.2.2.1) 21 x_1.2.2.2.1) 22 x_1.2.2.2.2.1) 23 x_1.2.2.2.2.2.1) (fu J 2 x_1.2.2.2.2.2.2.1) (fu (fu a 9 x_1.2.2.2.2.2.2.2.1) 10 x_1.2.2.2.2.2.2.2.2.1) (fu b 0 x_1.2.2.2.2.2.2.2.2.2)) H1 := hB
  clear hB hz1 hk1 ht hvm
  generalize H1 = H at hP hS ⊢
  refine lv_aload_n hx hb dX3_trueInAll_4 rfl (lv_at hl 0 rfl) ?_
  refine va_get (D := D) (ci := 3) (v := .int x_1.2.2.1) (C := RX3) (T := TX3) (N := 13) hx hb hts in_X3_trueInAll_X3 hown hK hP 6 rfl rfl 8 (by decide) (hts (.fieldLink RX3 49 "LearnedReasons$Models" "inAll" "I") (by decide +kernel)) (fun _ h9 => h9) rfl dX3_trueInAll_5 ?_
  have hx0 := Option.some.inj h
  rw [hQ]
  exact W.iret (v := x_1.2.2.1) hx hb hr (fun t ht hW => ⟨⟨x_1.2.2.1, (x_1.1, x_1.2.1, x_1.2.2.1, x_1.2.2.2.1, x_1.2.2.2.2.1, x_1.2.2.2.2.2.1, x_1.2.2.2.2.2.2.1, x_1.2.2.2.2.2.2.2.1, x_1.2.2.2.2.2.2.2.2.1, x_1.2.2.2.2.2.2.2.2.2), rfl, ⟨congrArg (fun z => z.1) hx0, congrArg (fun z => z.2) hx0⟩, by show va_P _ _ _ t.heap; rw [ht]; exact hP⟩, hS.F ht⟩) hS.2.2 dX3_trueInAll_8
theorem in_X3_falseInAll_X3 : ∀ w ∈ wsX30, w ∈ wsX3_falseInAll := by decide +kernel
set_option maxHeartbeats 4000000 in
set_option maxRecDepth 100000 in
theorem c_X3_falseInAll (l : Launch) (D : va_G) (cI cJ : ClassId) (q : Nat → Nat) (hq : CUQ q) (F : Nat) (I : Nat → Int32) (J : Nat → Int64) (a : Nat → Nat → Int32) (b : Nat → Nat → Int64) (x0 : Int32 × Int32 × Int32 × Int32 × Int32 × Int32 × Int32 × Int64 × (Nat → Int32) × (Nat → Int32) × (Nat → Int64)) (h : f_X3_falseInAll F I J a b = some x0) : Met l yX3_falseInAll wsX3_falseInAll ({ frames := 4, cells := 0, slots := 0, locals := 96 }) (CUPc D cI cJ q I J a b [.ref (q 6)]) (va_Qi (fun (r : Int32) (u : Int32 × Int32 × Int32 × Int32 × Int32 × Int32 × Int64 × (Nat → Int32) × (Nat → Int32) × (Nat → Int64)) => r = x0.1 ∧ u = x0.2) (fun (u : Int32 × Int32 × Int32 × Int32 × Int32 × Int32 × Int64 × (Nat → Int32) × (Nat → Int32) × (Nat → Int64)) t => va_P D vwCl (CUW cI cJ q (fu (fu (fu (fu (fu (fu I 17 u.1) 19 u.2.1) 20 u.2.2.1) 21 u.2.2.2.1) 22 u.2.2.2.2.1) 23 u.2.2.2.2.2.1) (fu J 2 u.2.2.2.2.2.2.1) (fu (fu a 9 u.2.2.2.2.2.2.2.1) 10 u.2.2.2.2.2.2.2.2.1) (fu b 0 u.2.2.2.2.2.2.2.2.2)) t.heap) (CUA q)) 0 0 (CUA q) := by
  refine mt_of (cc := cX3_falseInAll) (maxL := 1) (ret := (some .int)) (by decide) rfl ?_
  intro p e s m args below meth c s₁ B0 hml hv R Q hR hQ
  obtain ⟨hargs, hP, hK, hN⟩ := hv
  have hx := B0.exec
  have hb := B0.bytes
  have hr := B0.returns
  have hts := atoms_spec (ws := wsX3_falseInAll) B0.pre
  have hown : s.vm.findClass RX3 = some m.cls := findClass_of_methodNamed B0.named
  have hlocks := B0.notSynchronized
  have hS : va_S (CUA q) s.heap s.heap [] := va_S.rf
  have hl := lv_entry ([.ref (q 6)]) (n := 1) (Nat.le_of_ble_eq_true rfl)
  rw [hargs, lg_entry_eq]
  rw [← hargs]
  generalize (lg_sl ([.ref (q 6)]) ++ List.replicate (1 - (lg_sl ([.ref (q 6)])).length) Slot.unset).toArray = ls at hl ⊢
  have hl : lv_has ls 1 [(0, .ref (q 6))] := hl
  unfold f_X3_falseInAll at h
  refine lv_aload_n hx hb dX3_falseInAll_0 rfl (lv_at hl 0 rfl) ?_
  obtain ⟨x_1, hx_1, h⟩ := ob_some h
  refine va_callv (va_runV (As := []) (rest := []) ⟨hx, hb, hml, hown, hts⟩ (c_X3_countAll l D cI cJ q hq F I J a b x_1 hx_1) (cwV 0 hts gX3_falseInAll_X3_countAll rfl rfl rfl (by decide +kernel) (by rw [hR]; exact ⟨Nat.le_of_ble_eq_true rfl, Nat.le_of_ble_eq_true rfl⟩)) ⟨CUPc_blind, va_recv hK hP (ci := 3) (q0 := 6) rfl rfl, fun U hU hW => ⟨rfl, by rw [hU]; exact hP, va_K.moved hW.alike hK, va_Nw.warmM hW hN⟩⟩ rfl rfl hl.1 rfl (lv_room (Nat.le_of_ble_eq_true rfl)) dX3_falseInAll_1 ⟨Nat.zero_le _, Nat.zero_le _⟩) hS (fun _ _ h => h) (fun _ h => h) (fun u t H1 locs ht hvm hw hB hz1 hk1 hS => ?_)
  obtain rfl := hw.symm
  rw [ht] at hB
  have hP : va_P D vwCl (CUW cI cJ q (fu (fu (fu (fu (fu (fu I 17 x_1.1) 19 x_1.2.1) 20 x_1.2.2.1) 21 x_1.2.2.2.1) 22 x_1.2.2.2.2.1) 23 x_1.2.2.2.2.2.1) (fu J 2 x_1.2.2.2.2.2.2.1) (fu (fu a 9 x_1.2.2.2.2.2.2.2.1) 10 x_1.2.2.2.2.2.2.2.2.1) (fu b 0 x_1.2.2.2.2.2.2.2.2.2)) H1 := hB
  clear hB hz1 hk1 ht hvm
  generalize H1 = H at hP hS ⊢
  refine lv_aload_n hx hb dX3_falseInAll_4 rfl (lv_at hl 0 rfl) ?_
  refine va_get (D := D) (ci := 3) (v := .ref (q 1)) (C := RX3) (T := TX3) (N := 13) hx hb hts in_X3_falseInAll_X3 hown hK hP 6 rfl rfl 0 (by decide) (hts (.fieldLink RX3 25 "LearnedReasons$Models" "things" "LLearnedReasons$Things;") (by decide +kernel)) (fun _ h9 => h9) rfl dX3_falseInAll_5 ?_
  obtain ⟨x_2, hx_2, h⟩ := ob_some h
  refine va_calli (va_runV (As := []) (rest := []) ⟨hx, hb, hml, hown, hts⟩ (c_X5_allNames l D cI cJ q hq F (fu (fu (fu (fu (fu (fu I 17 x_1.1) 19 x_1.2.1) 20 x_1.2.2.1) 21 x_1.2.2.2.1) 22 x_1.2.2.2.2.1) 23 x_1.2.2.2.2.2.1) (fu J 2 x_1.2.2.2.2.2.2.1) (fu (fu a 9 x_1.2.2.2.2.2.2.2.1) 10 x_1.2.2.2.2.2.2.2.2.1) (fu b 0 x_1.2.2.2.2.2.2.2.2.2) x_2 hx_2) (cwV 0 hts gX3_falseInAll_X5_allNames rfl rfl rfl (by decide +kernel) (by rw [hR]; exact ⟨Nat.le_of_ble_eq_true rfl, Nat.le_of_ble_eq_true rfl⟩)) ⟨CUPc_blind, va_recv hK hP (ci := 5) (q0 := 1) rfl rfl, fun U hU hW => ⟨rfl, by rw [hU]; exact hP, va_K.moved hW.alike hK, va_Nw.warmM hW hN⟩⟩ rfl rfl hl.1 rfl (lv_room (Nat.le_of_ble_eq_true rfl)) dX3_falseInAll_8 ⟨Nat.zero_le _, Nat.zero_le _⟩) hS (fun _ _ h => h) (fun _ h => h) (fun r u t H1 locs ht hvm hw hB hz1 hk1 hS => ?_)
  obtain rfl := hw.symm
  rw [ht] at hB
  have hP : va_P D vwCl (CUW cI cJ q (fu (fu (fu (fu (fu (fu I 17 x_1.1) 19 x_1.2.1) 20 x_1.2.2.1) 21 x_1.2.2.2.1) 22 x_1.2.2.2.2.1) 23 x_1.2.2.2.2.2.1) (fu J 2 x_1.2.2.2.2.2.2.1) (fu (fu a 9 x_1.2.2.2.2.2.2.2.1) 10 x_1.2.2.2.2.2.2.2.2.1) (fu b 0 x_1.2.2.2.2.2.2.2.2.2)) H1 := hB
  clear hB hz1 hk1 ht hvm
  generalize H1 = H at hP hS ⊢
  refine lv_aload_n hx hb dX3_falseInAll_11 rfl (lv_at hl 0 rfl) ?_
  refine va_get (D := D) (ci := 3) (v := .int x_1.2.2.2.1) (C := RX3) (T := TX3) (N := 13) hx hb hts in_X3_falseInAll_X3 hown hK hP 6 rfl rfl 9 (by decide) (hts (.fieldLink RX3 58 "LearnedReasons$Models" "inSome" "I") (by decide +kernel)) (fun _ h9 => h9) rfl dX3_falseInAll_12 ?_
  refine lv_iconst (v := (-1)) hx hb dX3_falseInAll_15 (by decide) ?_
  refine lv_ixor hx hb dX3_falseInAll_16 ?_
  refine lv_iand hx hb dX3_falseInAll_17 ?_
  have hx0 := Option.some.inj h
  rw [hQ]
  exact W.iret (v := x_2 &&& (x_1.2.2.2.1 ^^^ (-1))) hx hb hr (fun t ht hW => ⟨⟨(x_2 &&& (x_1.2.2.2.1 ^^^ (-1))), (x_1.1, x_1.2.1, x_1.2.2.1, x_1.2.2.2.1, x_1.2.2.2.2.1, x_1.2.2.2.2.2.1, x_1.2.2.2.2.2.2.1, x_1.2.2.2.2.2.2.2.1, x_1.2.2.2.2.2.2.2.2.1, x_1.2.2.2.2.2.2.2.2.2), rfl, ⟨congrArg (fun z => z.1) hx0, congrArg (fun z => z.2) hx0⟩, by show va_P _ _ _ t.heap; rw [ht]; exact hP⟩, hS.F ht⟩) hS.2.2 dX3_falseInAll_18
theorem in_X6_fixed_X6 : ∀ w ∈ wsX60, w ∈ wsX6_fixed := by decide +kernel
set_option maxHeartbeats 4000000 in
set_option maxRecDepth 100000 in
theorem c_X6_fixed (l : Launch) (D : va_G) (cI cJ : ClassId) (q : Nat → Nat) (hq : CUQ q) (F : Nat) (I : Nat → Int32) (J : Nat → Int64) (a : Nat → Nat → Int32) (b : Nat → Nat → Int64) (v1 : Int32) (x0 : Int32 × Int32 × Int32 × Int32 × Int32 × Int32 × Int32 × Int64 × (Nat → Int32) × (Nat → Int32) × (Nat → Int64)) (h : f_X6_fixed F I J a b v1 = some x0) : Met l yX6_fixed wsX6_fixed ({ frames := 5, cells := 0, slots := 0, locals := 116 }) (CUPc D cI cJ q I J a b [.ref (q 0), .int v1]) (va_Qi (fun (r : Int32) (u : Int32 × Int32 × Int32 × Int32 × Int32 × Int32 × Int64 × (Nat → Int32) × (Nat → Int32) × (Nat → Int64)) => r = x0.1 ∧ u = x0.2) (fun (u : Int32 × Int32 × Int32 × Int32 × Int32 × Int32 × Int64 × (Nat → Int32) × (Nat → Int32) × (Nat → Int64)) t => va_P D vwCl (CUW cI cJ q (fu (fu (fu (fu (fu (fu I 17 u.1) 19 u.2.1) 20 u.2.2.1) 21 u.2.2.2.1) 22 u.2.2.2.2.1) 23 u.2.2.2.2.2.1) (fu J 2 u.2.2.2.2.2.2.1) (fu (fu a 9 u.2.2.2.2.2.2.2.1) 10 u.2.2.2.2.2.2.2.2.1) (fu b 0 u.2.2.2.2.2.2.2.2.2)) t.heap) (CUA q)) 0 0 (CUA q) := by
  refine mt_of (cc := cX6_fixed) (maxL := 2) (ret := (some .int)) (by decide) rfl ?_
  intro p e s m args below meth c s₁ B0 hml hv R Q hR hQ
  obtain ⟨hargs, hP, hK, hN⟩ := hv
  have hx := B0.exec
  have hb := B0.bytes
  have hr := B0.returns
  have hts := atoms_spec (ws := wsX6_fixed) B0.pre
  have hown : s.vm.findClass RX6 = some m.cls := findClass_of_methodNamed B0.named
  have hlocks := B0.notSynchronized
  have hS : va_S (CUA q) s.heap s.heap [] := va_S.rf
  have hl := lv_entry ([.ref (q 0), .int v1]) (n := 2) (Nat.le_of_ble_eq_true rfl)
  rw [hargs, lg_entry_eq]
  rw [← hargs]
  generalize (lg_sl ([.ref (q 0), .int v1]) ++ List.replicate (2 - (lg_sl ([.ref (q 0), .int v1])).length) Slot.unset).toArray = ls at hl ⊢
  have hl : lv_has ls 2 [(0, .ref (q 0)), (1, .int v1)] := hl
  unfold f_X6_fixed at h
  refine lv_aload_n hx hb dX6_fixed_0 rfl (lv_at hl 0 rfl) ?_
  refine va_get (D := D) (ci := 6) (v := .ref (q 1)) (C := RX6) (T := TX6) (N := 9) hx hb hts in_X6_fixed_X6 hown hK hP 0 rfl rfl 0 (by decide) (hts (.fieldLink RX6 10 "LearnedReasons" "things" "LLearnedReasons$Things;") (by decide +kernel)) (fun _ h9 => h9) rfl dX6_fixed_1 ?_
  refine lv_iload_n hx hb dX6_fixed_4 rfl (lv_at hl 1 rfl) ?_
  obtain ⟨x_1, hx_1, h⟩ := ob_some h
  refine va_calli (va_runV (As := [.int v1]) (rest := []) ⟨hx, hb, hml, hown, hts⟩ (c_X5_isName l D cI cJ q hq F I J a b v1 x_1 hx_1) (cwV 1 hts gX6_fixed_X5_isName rfl rfl rfl (by decide +kernel) (by rw [hR]; exact ⟨Nat.le_of_ble_eq_true rfl, Nat.le_of_ble_eq_true rfl⟩)) ⟨CUPc_blind, va_recv hK hP (ci := 5) (q0 := 1) rfl rfl, fun U hU hW => ⟨rfl, by rw [hU]; exact hP, va_K.moved hW.alike hK, va_Nw.warmM hW hN⟩⟩ rfl rfl hl.1 rfl (lv_room (Nat.le_of_ble_eq_true rfl)) dX6_fixed_5 ⟨Nat.zero_le _, Nat.zero_le _⟩) hS (fun _ _ h => h) (fun _ h => h) (fun r u t H1 locs ht hvm hw hB hz1 hk1 hS => ?_)
  obtain rfl := hw.symm
  rw [ht] at hB
  have hP : va_P D vwCl (CUW cI cJ q I J a b) H1 := hB
  clear hB hz1 hk1 ht hvm
  generalize H1 = H at hP hS ⊢
  refine lv_if_ne (tgt := 13) hx hb dX6_fixed_8 (by decide) (fun c_2 => ?_) (fun c_2 => ?_)
  · have h := if_f c_2 h
    refine lv_aload_n hx hb dX6_fixed_13 rfl (lv_at hl 0 rfl) ?_
    refine va_get (D := D) (ci := 6) (v := .ref (q 6)) (C := RX6) (T := TX6) (N := 9) hx hb hts in_X6_fixed_X6 hown hK hP 0 rfl rfl 4 (by decide) (hts (.fieldLink RX6 49 "LearnedReasons" "models" "LLearnedReasons$Models;") (by decide +kernel)) (fun _ h9 => h9) rfl dX6_fixed_14 ?_
    obtain ⟨x_3, hx_3, h⟩ := ob_some h
    refine va_calli (va_runV (As := []) (rest := []) ⟨hx, hb, hml, hown, hts⟩ (c_X3_modelCount l D cI cJ q hq F I J a b x_3 hx_3) (cwV 0 hts gX6_fixed_X3_modelCount rfl rfl rfl (by decide +kernel) (by rw [hR]; exact ⟨Nat.le_of_ble_eq_true rfl, Nat.le_of_ble_eq_true rfl⟩)) ⟨CUPc_blind, va_recv hK hP (ci := 3) (q0 := 6) rfl rfl, fun U hU hW => ⟨rfl, by rw [hU]; exact hP, va_K.moved hW.alike hK, va_Nw.warmM hW hN⟩⟩ rfl rfl hl.1 rfl (lv_room (Nat.le_of_ble_eq_true rfl)) dX6_fixed_17 ⟨Nat.zero_le _, Nat.zero_le _⟩) hS (fun _ _ h => h) (fun _ h => h) (fun r u t H1 locs ht hvm hw hB hz1 hk1 hS => ?_)
    obtain ⟨rfl, rfl⟩ := hw
    rw [ht] at hB
    have hP : va_P D vwCl (CUW cI cJ q (fu (fu (fu (fu (fu (fu I 17 x_3.2.1) 19 x_3.2.2.1) 20 x_3.2.2.2.1) 21 x_3.2.2.2.2.1) 22 x_3.2.2.2.2.2.1) 23 x_3.2.2.2.2.2.2.1) (fu J 2 x_3.2.2.2.2.2.2.2.1) (fu (fu a 9 x_3.2.2.2.2.2.2.2.2.1) 10 x_3.2.2.2.2.2.2.2.2.2.1) (fu b 0 x_3.2.2.2.2.2.2.2.2.2.2)) H1 := hB
    clear hB hz1 hk1 ht hvm
    generalize H1 = H at hP hS ⊢
    refine lv_if_ne (tgt := 26) hx hb dX6_fixed_20 (by decide) (fun c_4 => ?_) (fun c_4 => ?_)
    · have h := if_f c_4 h
      refine lv_iload_n hx hb dX6_fixed_26 rfl (lv_at hl 1 rfl) ?_
      refine lv_aload_n hx hb dX6_fixed_27 rfl (lv_at hl 0 rfl) ?_
      refine va_get (D := D) (ci := 6) (v := .ref (q 6)) (C := RX6) (T := TX6) (N := 9) hx hb hts in_X6_fixed_X6 hown hK hP 0 rfl rfl 4 (by decide) (hts (.fieldLink RX6 49 "LearnedReasons" "models" "LLearnedReasons$Models;") (by decide +kernel)) (fun _ h9 => h9) rfl dX6_fixed_28 ?_
      obtain ⟨x_5, hx_5, h⟩ := ob_some h
      refine va_calli (va_runV (As := []) (rest := [.int v1]) ⟨hx, hb, hml, hown, hts⟩ (c_X3_trueInAll l D cI cJ q hq F (fu (fu (fu (fu (fu (fu I 17 x_3.2.1) 19 x_3.2.2.1) 20 x_3.2.2.2.1) 21 x_3.2.2.2.2.1) 22 x_3.2.2.2.2.2.1) 23 x_3.2.2.2.2.2.2.1) (fu J 2 x_3.2.2.2.2.2.2.2.1) (fu (fu a 9 x_3.2.2.2.2.2.2.2.2.1) 10 x_3.2.2.2.2.2.2.2.2.2.1) (fu b 0 x_3.2.2.2.2.2.2.2.2.2.2) x_5 hx_5) (cwV 0 hts gX6_fixed_X3_trueInAll rfl rfl rfl (by decide +kernel) (by rw [hR]; exact ⟨Nat.le_of_ble_eq_true rfl, Nat.le_of_ble_eq_true rfl⟩)) ⟨CUPc_blind, va_recv hK hP (ci := 3) (q0 := 6) rfl rfl, fun U hU hW => ⟨rfl, by rw [hU]; exact hP, va_K.moved hW.alike hK, va_Nw.warmM hW hN⟩⟩ rfl rfl hl.1 rfl (lv_room (Nat.le_of_ble_eq_true rfl)) dX6_fixed_31 ⟨Nat.zero_le _, Nat.zero_le _⟩) hS (fun _ _ h => h) (fun _ h => h) (fun r u t H1 locs ht hvm hw hB hz1 hk1 hS => ?_)
      obtain ⟨rfl, rfl⟩ := hw
      rw [ht] at hB
      have hP : va_P D vwCl (CUW cI cJ q (fu (fu (fu (fu (fu (fu I 17 x_5.2.1) 19 x_5.2.2.1) 20 x_5.2.2.2.1) 21 x_5.2.2.2.2.1) 22 x_5.2.2.2.2.2.1) 23 x_5.2.2.2.2.2.2.1) (fu J 2 x_5.2.2.2.2.2.2.2.1) (fu (fu a 9 x_5.2.2.2.2.2.2.2.2.1) 10 x_5.2.2.2.2.2.2.2.2.2.1) (fu b 0 x_5.2.2.2.2.2.2.2.2.2.2)) H1 := hB
      clear hB hz1 hk1 ht hvm
      generalize H1 = H at hP hS ⊢
      refine lv_aload_n hx hb dX6_fixed_34 rfl (lv_at hl 0 rfl) ?_
      refine va_get (D := D) (ci := 6) (v := .ref (q 6)) (C := RX6) (T := TX6) (N := 9) hx hb hts in_X6_fixed_X6 hown hK hP 0 rfl rfl 4 (by decide) (hts (.fieldLink RX6 49 "LearnedReasons" "models" "LLearnedReasons$Models;") (by decide +kernel)) (fun _ h9 => h9) rfl dX6_fixed_35 ?_
      obtain ⟨x_6, hx_6, h⟩ := ob_some h
      refine va_calli (va_runV (As := []) (rest := [.int x_5.1, .int v1]) ⟨hx, hb, hml, hown, hts⟩ (c_X3_falseInAll l D cI cJ q hq F (fu (fu (fu (fu (fu (fu I 17 x_5.2.1) 19 x_5.2.2.1) 20 x_5.2.2.2.1) 21 x_5.2.2.2.2.1) 22 x_5.2.2.2.2.2.1) 23 x_5.2.2.2.2.2.2.1) (fu J 2 x_5.2.2.2.2.2.2.2.1) (fu (fu a 9 x_5.2.2.2.2.2.2.2.2.1) 10 x_5.2.2.2.2.2.2.2.2.2.1) (fu b 0 x_5.2.2.2.2.2.2.2.2.2.2) x_6 hx_6) (cwV 0 hts gX6_fixed_X3_falseInAll rfl rfl rfl (by decide +kernel) (by rw [hR]; exact ⟨Nat.le_of_ble_eq_true rfl, Nat.le_of_ble_eq_true rfl⟩)) ⟨CUPc_blind, va_recv hK hP (ci := 3) (q0 := 6) rfl rfl, fun U hU hW => ⟨rfl, by rw [hU]; exact hP, va_K.moved hW.alike hK, va_Nw.warmM hW hN⟩⟩ rfl rfl hl.1 rfl (lv_room (Nat.le_of_ble_eq_true rfl)) dX6_fixed_38 ⟨Nat.zero_le _, Nat.zero_le _⟩) hS (fun _ _ h => h) (fun _ h => h) (fun r u t H1 locs ht hvm hw hB hz1 hk1 hS => ?_)
      obtain ⟨rfl, rfl⟩ := hw
      rw [ht] at hB
      have hP : va_P D vwCl (CUW cI cJ q (fu (fu (fu (fu (fu (fu I 17 x_6.2.1) 19 x_6.2.2.1) 20 x_6.2.2.2.1) 21 x_6.2.2.2.2.1) 22 x_6.2.2.2.2.2.1) 23 x_6.2.2.2.2.2.2.1) (fu J 2 x_6.2.2.2.2.2.2.2.1) (fu (fu a 9 x_6.2.2.2.2.2.2.2.2.1) 10 x_6.2.2.2.2.2.2.2.2.2.1) (fu b 0 x_6.2.2.2.2.2.2.2.2.2.2)) H1 := hB
      clear hB hz1 hk1 ht hvm
      generalize H1 = H at hP hS ⊢
      obtain ⟨x_7, hx_7, h⟩ := ob_some h
      refine va_calli (va_runS (As := [.int v1, .int x_5.1, .int x_6.1]) (rest := []) ⟨hx, hb, hml, hown, hts⟩ (c_X6_truthOf l F v1 x_5.1 x_6.1 x_7 hx_7) (va_cwS 3 hts gX6_fixed_X6_truthOf rfl rfl rfl (by decide +kernel) (by rw [hR]; exact ⟨Nat.le_of_ble_eq_true rfl, Nat.le_of_ble_eq_true rfl⟩)) ⟨fun _ _ _ _ h => h, fun U hU hW => ⟨rfl, trivial⟩⟩ rfl rfl hl.1 rfl (lv_room (Nat.le_of_ble_eq_true rfl)) dX6_fixed_41 ⟨Nat.zero_le _, Nat.zero_le _⟩) hS (fun _ _ h => h.elim) (fun _ h => h.elim) (fun r u t H1 locs ht hvm hw hB hz1 hk1 hS => ?_)
      obtain rfl := hw.symm
      have hP := hP.kept (fun k x hx => hk1 x.1 (hP k x hx).lt (fun h => h))
      clear hB hz1 hk1 ht hvm
      generalize H1 = H at hP hS ⊢
      have hx0 := Option.some.inj h
      rw [hQ]
      exact W.iret (v := x_7) hx hb hr (fun t ht hW => ⟨⟨x_7, (x_6.2.1, x_6.2.2.1, x_6.2.2.2.1, x_6.2.2.2.2.1, x_6.2.2.2.2.2.1, x_6.2.2.2.2.2.2.1, x_6.2.2.2.2.2.2.2.1, x_6.2.2.2.2.2.2.2.2.1, x_6.2.2.2.2.2.2.2.2.2.1, x_6.2.2.2.2.2.2.2.2.2.2), rfl, ⟨congrArg (fun z => z.1) hx0, congrArg (fun z => z.2) hx0⟩, by show va_P _ _ _ t.heap; rw [ht]; exact hP⟩, hS.F ht⟩) hS.2.2 dX6_fixed_44
    · have h := if_t c_4 h
      refine lv_bipush (v := (-3)) hx hb dX6_fixed_23 (by decide) ?_
      have hx0 := Option.some.inj h
      rw [hQ]
      exact W.iret (v := (-3)) hx hb hr (fun t ht hW => ⟨⟨(-3), (x_3.2.1, x_3.2.2.1, x_3.2.2.2.1, x_3.2.2.2.2.1, x_3.2.2.2.2.2.1, x_3.2.2.2.2.2.2.1, x_3.2.2.2.2.2.2.2.1, x_3.2.2.2.2.2.2.2.2.1, x_3.2.2.2.2.2.2.2.2.2.1, x_3.2.2.2.2.2.2.2.2.2.2), rfl, ⟨congrArg (fun z => z.1) hx0, congrArg (fun z => z.2) hx0⟩, by show va_P _ _ _ t.heap; rw [ht]; exact hP⟩, hS.F ht⟩) hS.2.2 dX6_fixed_25
  · have h := if_t c_2 h
    refine lv_iconst (v := (-1)) hx hb dX6_fixed_11 (by decide) ?_
    have hx0 := Option.some.inj h
    rw [hQ]
    exact W.iret (v := (-1)) hx hb hr (fun t ht hW => ⟨⟨(-1), ((I 17), (I 19), (I 20), (I 21), (I 22), (I 23), (J 2), (a 9), (a 10), (b 0)), rfl, ⟨congrArg (fun z => z.1) hx0, congrArg (fun z => z.2) hx0⟩, by show va_P _ _ _ t.heap; rw [ht]; exact hP⟩, hS.F ht⟩) hS.2.2 dX6_fixed_12
theorem in_X3_leastCost_X3 : ∀ w ∈ wsX30, w ∈ wsX3_leastCost := by decide +kernel
set_option maxHeartbeats 4000000 in
set_option maxRecDepth 100000 in
theorem c_X3_leastCost (l : Launch) (D : va_G) (cI cJ : ClassId) (q : Nat → Nat) (hq : CUQ q) (F : Nat) (I : Nat → Int32) (J : Nat → Int64) (a : Nat → Nat → Int32) (b : Nat → Nat → Int64) (x0 : Int32 × Int32 × Int32 × Int32 × Int32 × Int32 × Int32 × Int64 × (Nat → Int32) × (Nat → Int32) × (Nat → Int64)) (h : f_X3_leastCost F I J a b = some x0) : Met l yX3_leastCost wsX3_leastCost ({ frames := 4, cells := 0, slots := 0, locals := 96 }) (CUPc D cI cJ q I J a b [.ref (q 6)]) (va_Qi (fun (r : Int32) (u : Int32 × Int32 × Int32 × Int32 × Int32 × Int32 × Int64 × (Nat → Int32) × (Nat → Int32) × (Nat → Int64)) => r = x0.1 ∧ u = x0.2) (fun (u : Int32 × Int32 × Int32 × Int32 × Int32 × Int32 × Int64 × (Nat → Int32) × (Nat → Int32) × (Nat → Int64)) t => va_P D vwCl (CUW cI cJ q (fu (fu (fu (fu (fu (fu I 17 u.1) 19 u.2.1) 20 u.2.2.1) 21 u.2.2.2.1) 22 u.2.2.2.2.1) 23 u.2.2.2.2.2.1) (fu J 2 u.2.2.2.2.2.2.1) (fu (fu a 9 u.2.2.2.2.2.2.2.1) 10 u.2.2.2.2.2.2.2.2.1) (fu b 0 u.2.2.2.2.2.2.2.2.2)) t.heap) (CUA q)) 0 0 (CUA q) := by
  refine mt_of (cc := cX3_leastCost) (maxL := 1) (ret := (some .int)) (by decide) rfl ?_
  intro p e s m args below meth c s₁ B0 hml hv R Q hR hQ
  obtain ⟨hargs, hP, hK, hN⟩ := hv
  have hx := B0.exec
  have hb := B0.bytes
  have hr := B0.returns
  have hts := atoms_spec (ws := wsX3_leastCost) B0.pre
  have hown : s.vm.findClass RX3 = some m.cls := findClass_of_methodNamed B0.named
  have hlocks := B0.notSynchronized
  have hS : va_S (CUA q) s.heap s.heap [] := va_S.rf
  have hl := lv_entry ([.ref (q 6)]) (n := 1) (Nat.le_of_ble_eq_true rfl)
  rw [hargs, lg_entry_eq]
  rw [← hargs]
  generalize (lg_sl ([.ref (q 6)]) ++ List.replicate (1 - (lg_sl ([.ref (q 6)])).length) Slot.unset).toArray = ls at hl ⊢
  have hl : lv_has ls 1 [(0, .ref (q 6))] := hl
  unfold f_X3_leastCost at h
  refine lv_aload_n hx hb dX3_leastCost_0 rfl (lv_at hl 0 rfl) ?_
  obtain ⟨x_1, hx_1, h⟩ := ob_some h
  refine va_callv (va_runV (As := []) (rest := []) ⟨hx, hb, hml, hown, hts⟩ (c_X3_countAll l D cI cJ q hq F I J a b x_1 hx_1) (cwV 0 hts gX3_leastCost_X3_countAll rfl rfl rfl (by decide +kernel) (by rw [hR]; exact ⟨Nat.le_of_ble_eq_true rfl, Nat.le_of_ble_eq_true rfl⟩)) ⟨CUPc_blind, va_recv hK hP (ci := 3) (q0 := 6) rfl rfl, fun U hU hW => ⟨rfl, by rw [hU]; exact hP, va_K.moved hW.alike hK, va_Nw.warmM hW hN⟩⟩ rfl rfl hl.1 rfl (lv_room (Nat.le_of_ble_eq_true rfl)) dX3_leastCost_1 ⟨Nat.zero_le _, Nat.zero_le _⟩) hS (fun _ _ h => h) (fun _ h => h) (fun u t H1 locs ht hvm hw hB hz1 hk1 hS => ?_)
  obtain rfl := hw.symm
  rw [ht] at hB
  have hP : va_P D vwCl (CUW cI cJ q (fu (fu (fu (fu (fu (fu I 17 x_1.1) 19 x_1.2.1) 20 x_1.2.2.1) 21 x_1.2.2.2.1) 22 x_1.2.2.2.2.1) 23 x_1.2.2.2.2.2.1) (fu J 2 x_1.2.2.2.2.2.2.1) (fu (fu a 9 x_1.2.2.2.2.2.2.2.1) 10 x_1.2.2.2.2.2.2.2.2.1) (fu b 0 x_1.2.2.2.2.2.2.2.2.2)) H1 := hB
  clear hB hz1 hk1 ht hvm
  generalize H1 = H at hP hS ⊢
  refine lv_aload_n hx hb dX3_leastCost_4 rfl (lv_at hl 0 rfl) ?_
  refine va_get (D := D) (ci := 3) (v := .int x_1.2.2.2.2.1) (C := RX3) (T := TX3) (N := 13) hx hb hts in_X3_leastCost_X3 hown hK hP 6 rfl rfl 10 (by decide) (hts (.fieldLink RX3 61 "LearnedReasons$Models" "least" "I") (by decide +kernel)) (fun _ h9 => h9) rfl dX3_leastCost_5 ?_
  have hx0 := Option.some.inj h
  rw [hQ]
  exact W.iret (v := x_1.2.2.2.2.1) hx hb hr (fun t ht hW => ⟨⟨x_1.2.2.2.2.1, (x_1.1, x_1.2.1, x_1.2.2.1, x_1.2.2.2.1, x_1.2.2.2.2.1, x_1.2.2.2.2.2.1, x_1.2.2.2.2.2.2.1, x_1.2.2.2.2.2.2.2.1, x_1.2.2.2.2.2.2.2.2.1, x_1.2.2.2.2.2.2.2.2.2), rfl, ⟨congrArg (fun z => z.1) hx0, congrArg (fun z => z.2) hx0⟩, by show va_P _ _ _ t.heap; rw [ht]; exact hP⟩, hS.F ht⟩) hS.2.2 dX3_leastCost_8
theorem in_X6_best_X6 : ∀ w ∈ wsX60, w ∈ wsX6_best := by decide +kernel
set_option maxHeartbeats 4000000 in
set_option maxRecDepth 100000 in
theorem c_X6_best (l : Launch) (D : va_G) (cI cJ : ClassId) (q : Nat → Nat) (hq : CUQ q) (F : Nat) (I : Nat → Int32) (J : Nat → Int64) (a : Nat → Nat → Int32) (b : Nat → Nat → Int64) (x0 : Int32 × Int32 × Int32 × Int32 × Int32 × Int32 × Int32 × Int64 × (Nat → Int32) × (Nat → Int32) × (Nat → Int64)) (h : f_X6_best F I J a b = some x0) : Met l yX6_best wsX6_best ({ frames := 5, cells := 0, slots := 0, locals := 116 }) (CUPc D cI cJ q I J a b [.ref (q 0)]) (va_Qi (fun (r : Int32) (u : Int32 × Int32 × Int32 × Int32 × Int32 × Int32 × Int64 × (Nat → Int32) × (Nat → Int32) × (Nat → Int64)) => r = x0.1 ∧ u = x0.2) (fun (u : Int32 × Int32 × Int32 × Int32 × Int32 × Int32 × Int64 × (Nat → Int32) × (Nat → Int32) × (Nat → Int64)) t => va_P D vwCl (CUW cI cJ q (fu (fu (fu (fu (fu (fu I 17 u.1) 19 u.2.1) 20 u.2.2.1) 21 u.2.2.2.1) 22 u.2.2.2.2.1) 23 u.2.2.2.2.2.1) (fu J 2 u.2.2.2.2.2.2.1) (fu (fu a 9 u.2.2.2.2.2.2.2.1) 10 u.2.2.2.2.2.2.2.2.1) (fu b 0 u.2.2.2.2.2.2.2.2.2)) t.heap) (CUA q)) 0 0 (CUA q) := by
  refine mt_of (cc := cX6_best) (maxL := 1) (ret := (some .int)) (by decide) rfl ?_
  intro p e s m args below meth c s₁ B0 hml hv R Q hR hQ
  obtain ⟨hargs, hP, hK, hN⟩ := hv
  have hx := B0.exec
  have hb := B0.bytes
  have hr := B0.returns
  have hts := atoms_spec (ws := wsX6_best) B0.pre
  have hown : s.vm.findClass RX6 = some m.cls := findClass_of_methodNamed B0.named
  have hlocks := B0.notSynchronized
  have hS : va_S (CUA q) s.heap s.heap [] := va_S.rf
  have hl := lv_entry ([.ref (q 0)]) (n := 1) (Nat.le_of_ble_eq_true rfl)
  rw [hargs, lg_entry_eq]
  rw [← hargs]
  generalize (lg_sl ([.ref (q 0)]) ++ List.replicate (1 - (lg_sl ([.ref (q 0)])).length) Slot.unset).toArray = ls at hl ⊢
  have hl : lv_has ls 1 [(0, .ref (q 0))] := hl
  unfold f_X6_best at h
  refine lv_aload_n hx hb dX6_best_0 rfl (lv_at hl 0 rfl) ?_
  refine va_get (D := D) (ci := 6) (v := .ref (q 6)) (C := RX6) (T := TX6) (N := 9) hx hb hts in_X6_best_X6 hown hK hP 0 rfl rfl 4 (by decide) (hts (.fieldLink RX6 49 "LearnedReasons" "models" "LLearnedReasons$Models;") (by decide +kernel)) (fun _ h9 => h9) rfl dX6_best_1 ?_
  obtain ⟨x_1, hx_1, h⟩ := ob_some h
  refine va_calli (va_runV (As := []) (rest := []) ⟨hx, hb, hml, hown, hts⟩ (c_X3_modelCount l D cI cJ q hq F I J a b x_1 hx_1) (cwV 0 hts gX6_best_X3_modelCount rfl rfl rfl (by decide +kernel) (by rw [hR]; exact ⟨Nat.le_of_ble_eq_true rfl, Nat.le_of_ble_eq_true rfl⟩)) ⟨CUPc_blind, va_recv hK hP (ci := 3) (q0 := 6) rfl rfl, fun U hU hW => ⟨rfl, by rw [hU]; exact hP, va_K.moved hW.alike hK, va_Nw.warmM hW hN⟩⟩ rfl rfl hl.1 rfl (lv_room (Nat.le_of_ble_eq_true rfl)) dX6_best_4 ⟨Nat.zero_le _, Nat.zero_le _⟩) hS (fun _ _ h => h) (fun _ h => h) (fun r u t H1 locs ht hvm hw hB hz1 hk1 hS => ?_)
  obtain ⟨rfl, rfl⟩ := hw
  rw [ht] at hB
  have hP : va_P D vwCl (CUW cI cJ q (fu (fu (fu (fu (fu (fu I 17 x_1.2.1) 19 x_1.2.2.1) 20 x_1.2.2.2.1) 21 x_1.2.2.2.2.1) 22 x_1.2.2.2.2.2.1) 23 x_1.2.2.2.2.2.2.1) (fu J 2 x_1.2.2.2.2.2.2.2.1) (fu (fu a 9 x_1.2.2.2.2.2.2.2.2.1) 10 x_1.2.2.2.2.2.2.2.2.2.1) (fu b 0 x_1.2.2.2.2.2.2.2.2.2.2)) H1 := hB
  clear hB hz1 hk1 ht hvm
  generalize H1 = H at hP hS ⊢
  refine lv_if_ne (tgt := 15) hx hb dX6_best_7 (by decide) (fun c_2 => ?_) (fun c_2 => ?_)
  · have h := if_f c_2 h
    refine lv_aload_n hx hb dX6_best_15 rfl (lv_at hl 0 rfl) ?_
    refine va_get (D := D) (ci := 6) (v := .ref (q 6)) (C := RX6) (T := TX6) (N := 9) hx hb hts in_X6_best_X6 hown hK hP 0 rfl rfl 4 (by decide) (hts (.fieldLink RX6 49 "LearnedReasons" "models" "LLearnedReasons$Models;") (by decide +kernel)) (fun _ h9 => h9) rfl dX6_best_16 ?_
    obtain ⟨x_3, hx_3, h⟩ := ob_some h
    refine va_calli (va_runV (As := []) (rest := []) ⟨hx, hb, hml, hown, hts⟩ (c_X3_leastCost l D cI cJ q hq F (fu (fu (fu (fu (fu (fu I 17 x_1.2.1) 19 x_1.2.2.1) 20 x_1.2.2.2.1) 21 x_1.2.2.2.2.1) 22 x_1.2.2.2.2.2.1) 23 x_1.2.2.2.2.2.2.1) (fu J 2 x_1.2.2.2.2.2.2.2.1) (fu (fu a 9 x_1.2.2.2.2.2.2.2.2.1) 10 x_1.2.2.2.2.2.2.2.2.2.1) (fu b 0 x_1.2.2.2.2.2.2.2.2.2.2) x_3 hx_3) (cwV 0 hts gX6_best_X3_leastCost rfl rfl rfl (by decide +kernel) (by rw [hR]; exact ⟨Nat.le_of_ble_eq_true rfl, Nat.le_of_ble_eq_true rfl⟩)) ⟨CUPc_blind, va_recv hK hP (ci := 3) (q0 := 6) rfl rfl, fun U hU hW => ⟨rfl, by rw [hU]; exact hP, va_K.moved hW.alike hK, va_Nw.warmM hW hN⟩⟩ rfl rfl hl.1 rfl (lv_room (Nat.le_of_ble_eq_true rfl)) dX6_best_19 ⟨Nat.zero_le _, Nat.zero_le _⟩) hS (fun _ _ h => h) (fun _ h => h) (fun r u t H1 locs ht hvm hw hB hz1 hk1 hS => ?_)
    obtain ⟨rfl, rfl⟩ := hw
    rw [ht] at hB
    have hP : va_P D vwCl (CUW cI cJ q (fu (fu (fu (fu (fu (fu I 17 x_3.2.1) 19 x_3.2.2.1) 20 x_3.2.2.2.1) 21 x_3.2.2.2.2.1) 22 x_3.2.2.2.2.2.1) 23 x_3.2.2.2.2.2.2.1) (fu J 2 x_3.2.2.2.2.2.2.2.1) (fu (fu a 9 x_3.2.2.2.2.2.2.2.2.1) 10 x_3.2.2.2.2.2.2.2.2.2.1) (fu b 0 x_3.2.2.2.2.2.2.2.2.2.2)) H1 := hB
    clear hB hz1 hk1 ht hvm
    generalize H1 = H at hP hS ⊢
    have hx0 := Option.some.inj h
    rw [hQ]
    exact W.iret (v := x_3.1) hx hb hr (fun t ht hW => ⟨⟨x_3.1, (x_3.2.1, x_3.2.2.1, x_3.2.2.2.1, x_3.2.2.2.2.1, x_3.2.2.2.2.2.1, x_3.2.2.2.2.2.2.1, x_3.2.2.2.2.2.2.2.1, x_3.2.2.2.2.2.2.2.2.1, x_3.2.2.2.2.2.2.2.2.2.1, x_3.2.2.2.2.2.2.2.2.2.2), rfl, ⟨congrArg (fun z => z.1) hx0, congrArg (fun z => z.2) hx0⟩, by show va_P _ _ _ t.heap; rw [ht]; exact hP⟩, hS.F ht⟩) hS.2.2 dX6_best_22
  · have h := if_t c_2 h
    refine lv_bipush (v := (-3)) hx hb dX6_best_10 (by decide) ?_
    refine lv_goto (tgt := 22) hx hb dX6_best_12 (by decide) ?_
    have hx0 := Option.some.inj h
    rw [hQ]
    exact W.iret (v := (-3)) hx hb hr (fun t ht hW => ⟨⟨(-3), (x_1.2.1, x_1.2.2.1, x_1.2.2.2.1, x_1.2.2.2.2.1, x_1.2.2.2.2.2.1, x_1.2.2.2.2.2.2.1, x_1.2.2.2.2.2.2.2.1, x_1.2.2.2.2.2.2.2.2.1, x_1.2.2.2.2.2.2.2.2.2.1, x_1.2.2.2.2.2.2.2.2.2.2), rfl, ⟨congrArg (fun z => z.1) hx0, congrArg (fun z => z.2) hx0⟩, by show va_P _ _ _ t.heap; rw [ht]; exact hP⟩, hS.F ht⟩) hS.2.2 dX6_best_22
theorem in_X3_firstBest_X3 : ∀ w ∈ wsX30, w ∈ wsX3_firstBest := by decide +kernel
set_option maxHeartbeats 4000000 in
set_option maxRecDepth 100000 in
theorem c_X3_firstBest (l : Launch) (D : va_G) (cI cJ : ClassId) (q : Nat → Nat) (hq : CUQ q) (F : Nat) (I : Nat → Int32) (J : Nat → Int64) (a : Nat → Nat → Int32) (b : Nat → Nat → Int64) (x0 : Int32 × Int32 × Int32 × Int32 × Int32 × Int32 × Int32 × Int64 × (Nat → Int32) × (Nat → Int32) × (Nat → Int64)) (h : f_X3_firstBest F I J a b = some x0) : Met l yX3_firstBest wsX3_firstBest ({ frames := 4, cells := 0, slots := 0, locals := 96 }) (CUPc D cI cJ q I J a b [.ref (q 6)]) (va_Qi (fun (r : Int32) (u : Int32 × Int32 × Int32 × Int32 × Int32 × Int32 × Int64 × (Nat → Int32) × (Nat → Int32) × (Nat → Int64)) => r = x0.1 ∧ u = x0.2) (fun (u : Int32 × Int32 × Int32 × Int32 × Int32 × Int32 × Int64 × (Nat → Int32) × (Nat → Int32) × (Nat → Int64)) t => va_P D vwCl (CUW cI cJ q (fu (fu (fu (fu (fu (fu I 17 u.1) 19 u.2.1) 20 u.2.2.1) 21 u.2.2.2.1) 22 u.2.2.2.2.1) 23 u.2.2.2.2.2.1) (fu J 2 u.2.2.2.2.2.2.1) (fu (fu a 9 u.2.2.2.2.2.2.2.1) 10 u.2.2.2.2.2.2.2.2.1) (fu b 0 u.2.2.2.2.2.2.2.2.2)) t.heap) (CUA q)) 0 0 (CUA q) := by
  refine mt_of (cc := cX3_firstBest) (maxL := 1) (ret := (some .int)) (by decide) rfl ?_
  intro p e s m args below meth c s₁ B0 hml hv R Q hR hQ
  obtain ⟨hargs, hP, hK, hN⟩ := hv
  have hx := B0.exec
  have hb := B0.bytes
  have hr := B0.returns
  have hts := atoms_spec (ws := wsX3_firstBest) B0.pre
  have hown : s.vm.findClass RX3 = some m.cls := findClass_of_methodNamed B0.named
  have hlocks := B0.notSynchronized
  have hS : va_S (CUA q) s.heap s.heap [] := va_S.rf
  have hl := lv_entry ([.ref (q 6)]) (n := 1) (Nat.le_of_ble_eq_true rfl)
  rw [hargs, lg_entry_eq]
  rw [← hargs]
  generalize (lg_sl ([.ref (q 6)]) ++ List.replicate (1 - (lg_sl ([.ref (q 6)])).length) Slot.unset).toArray = ls at hl ⊢
  have hl : lv_has ls 1 [(0, .ref (q 6))] := hl
  unfold f_X3_firstBest at h
  refine lv_aload_n hx hb dX3_firstBest_0 rfl (lv_at hl 0 rfl) ?_
  obtain ⟨x_1, hx_1, h⟩ := ob_some h
  refine va_callv (va_runV (As := []) (rest := []) ⟨hx, hb, hml, hown, hts⟩ (c_X3_countAll l D cI cJ q hq F I J a b x_1 hx_1) (cwV 0 hts gX3_firstBest_X3_countAll rfl rfl rfl (by decide +kernel) (by rw [hR]; exact ⟨Nat.le_of_ble_eq_true rfl, Nat.le_of_ble_eq_true rfl⟩)) ⟨CUPc_blind, va_recv hK hP (ci := 3) (q0 := 6) rfl rfl, fun U hU hW => ⟨rfl, by rw [hU]; exact hP, va_K.moved hW.alike hK, va_Nw.warmM hW hN⟩⟩ rfl rfl hl.1 rfl (lv_room (Nat.le_of_ble_eq_true rfl)) dX3_firstBest_1 ⟨Nat.zero_le _, Nat.zero_le _⟩) hS (fun _ _ h => h) (fun _ h => h) (fun u t H1 locs ht hvm hw hB hz1 hk1 hS => ?_)
  obtain rfl := hw.symm
  rw [ht] at hB
  have hP : va_P D vwCl (CUW cI cJ q (fu (fu (fu (fu (fu (fu I 17 x_1.1) 19 x_1.2.1) 20 x_1.2.2.1) 21 x_1.2.2.2.1) 22 x_1.2.2.2.2.1) 23 x_1.2.2.2.2.2.1) (fu J 2 x_1.2.2.2.2.2.2.1) (fu (fu a 9 x_1.2.2.2.2.2.2.2.1) 10 x_1.2.2.2.2.2.2.2.2.1) (fu b 0 x_1.2.2.2.2.2.2.2.2.2)) H1 := hB
  clear hB hz1 hk1 ht hvm
  generalize H1 = H at hP hS ⊢
  refine lv_aload_n hx hb dX3_firstBest_4 rfl (lv_at hl 0 rfl) ?_
  refine va_get (D := D) (ci := 3) (v := .int x_1.2.2.2.2.2.1) (C := RX3) (T := TX3) (N := 13) hx hb hts in_X3_firstBest_X3 hown hK hP 6 rfl rfl 11 (by decide) (hts (.fieldLink RX3 64 "LearnedReasons$Models" "firstBest" "I") (by decide +kernel)) (fun _ h9 => h9) rfl dX3_firstBest_5 ?_
  have hx0 := Option.some.inj h
  rw [hQ]
  exact W.iret (v := x_1.2.2.2.2.2.1) hx hb hr (fun t ht hW => ⟨⟨x_1.2.2.2.2.2.1, (x_1.1, x_1.2.1, x_1.2.2.1, x_1.2.2.2.1, x_1.2.2.2.2.1, x_1.2.2.2.2.2.1, x_1.2.2.2.2.2.2.1, x_1.2.2.2.2.2.2.2.1, x_1.2.2.2.2.2.2.2.2.1, x_1.2.2.2.2.2.2.2.2.2), rfl, ⟨congrArg (fun z => z.1) hx0, congrArg (fun z => z.2) hx0⟩, by show va_P _ _ _ t.heap; rw [ht]; exact hP⟩, hS.F ht⟩) hS.2.2 dX3_firstBest_8
theorem in_X6_bestValue_X6 : ∀ w ∈ wsX60, w ∈ wsX6_bestValue := by decide +kernel
set_option maxHeartbeats 4000000 in
set_option maxRecDepth 100000 in
theorem c_X6_bestValue (l : Launch) (D : va_G) (cI cJ : ClassId) (q : Nat → Nat) (hq : CUQ q) (F : Nat) (I : Nat → Int32) (J : Nat → Int64) (a : Nat → Nat → Int32) (b : Nat → Nat → Int64) (v1 : Int32) (x0 : Int32 × Int32 × Int32 × Int32 × Int32 × Int32 × Int32 × Int64 × (Nat → Int32) × (Nat → Int32) × (Nat → Int64)) (h : f_X6_bestValue F I J a b v1 = some x0) : Met l yX6_bestValue wsX6_bestValue ({ frames := 5, cells := 0, slots := 0, locals := 116 }) (CUPc D cI cJ q I J a b [.ref (q 0), .int v1]) (va_Qi (fun (r : Int32) (u : Int32 × Int32 × Int32 × Int32 × Int32 × Int32 × Int64 × (Nat → Int32) × (Nat → Int32) × (Nat → Int64)) => r = x0.1 ∧ u = x0.2) (fun (u : Int32 × Int32 × Int32 × Int32 × Int32 × Int32 × Int64 × (Nat → Int32) × (Nat → Int32) × (Nat → Int64)) t => va_P D vwCl (CUW cI cJ q (fu (fu (fu (fu (fu (fu I 17 u.1) 19 u.2.1) 20 u.2.2.1) 21 u.2.2.2.1) 22 u.2.2.2.2.1) 23 u.2.2.2.2.2.1) (fu J 2 u.2.2.2.2.2.2.1) (fu (fu a 9 u.2.2.2.2.2.2.2.1) 10 u.2.2.2.2.2.2.2.2.1) (fu b 0 u.2.2.2.2.2.2.2.2.2)) t.heap) (CUA q)) 0 0 (CUA q) := by
  refine mt_of (cc := cX6_bestValue) (maxL := 2) (ret := (some .int)) (by decide) rfl ?_
  intro p e s m args below meth c s₁ B0 hml hv R Q hR hQ
  obtain ⟨hargs, hP, hK, hN⟩ := hv
  have hx := B0.exec
  have hb := B0.bytes
  have hr := B0.returns
  have hts := atoms_spec (ws := wsX6_bestValue) B0.pre
  have hown : s.vm.findClass RX6 = some m.cls := findClass_of_methodNamed B0.named
  have hlocks := B0.notSynchronized
  have hS : va_S (CUA q) s.heap s.heap [] := va_S.rf
  have hl := lv_entry ([.ref (q 0), .int v1]) (n := 2) (Nat.le_of_ble_eq_true rfl)
  rw [hargs, lg_entry_eq]
  rw [← hargs]
  generalize (lg_sl ([.ref (q 0), .int v1]) ++ List.replicate (2 - (lg_sl ([.ref (q 0), .int v1])).length) Slot.unset).toArray = ls at hl ⊢
  have hl : lv_has ls 2 [(0, .ref (q 0)), (1, .int v1)] := hl
  unfold f_X6_bestValue at h
  refine lv_aload_n hx hb dX6_bestValue_0 rfl (lv_at hl 0 rfl) ?_
  refine va_get (D := D) (ci := 6) (v := .ref (q 1)) (C := RX6) (T := TX6) (N := 9) hx hb hts in_X6_bestValue_X6 hown hK hP 0 rfl rfl 0 (by decide) (hts (.fieldLink RX6 10 "LearnedReasons" "things" "LLearnedReasons$Things;") (by decide +kernel)) (fun _ h9 => h9) rfl dX6_bestValue_1 ?_
  refine lv_iload_n hx hb dX6_bestValue_4 rfl (lv_at hl 1 rfl) ?_
  obtain ⟨x_1, hx_1, h⟩ := ob_some h
  refine va_calli (va_runV (As := [.int v1]) (rest := []) ⟨hx, hb, hml, hown, hts⟩ (c_X5_isName l D cI cJ q hq F I J a b v1 x_1 hx_1) (cwV 1 hts gX6_bestValue_X5_isName rfl rfl rfl (by decide +kernel) (by rw [hR]; exact ⟨Nat.le_of_ble_eq_true rfl, Nat.le_of_ble_eq_true rfl⟩)) ⟨CUPc_blind, va_recv hK hP (ci := 5) (q0 := 1) rfl rfl, fun U hU hW => ⟨rfl, by rw [hU]; exact hP, va_K.moved hW.alike hK, va_Nw.warmM hW hN⟩⟩ rfl rfl hl.1 rfl (lv_room (Nat.le_of_ble_eq_true rfl)) dX6_bestValue_5 ⟨Nat.zero_le _, Nat.zero_le _⟩) hS (fun _ _ h => h) (fun _ h => h) (fun r u t H1 locs ht hvm hw hB hz1 hk1 hS => ?_)
  obtain rfl := hw.symm
  rw [ht] at hB
  have hP : va_P D vwCl (CUW cI cJ q I J a b) H1 := hB
  clear hB hz1 hk1 ht hvm
  generalize H1 = H at hP hS ⊢
  refine lv_if_ne (tgt := 13) hx hb dX6_bestValue_8 (by decide) (fun c_2 => ?_) (fun c_2 => ?_)
  · have h := if_f c_2 h
    refine lv_aload_n hx hb dX6_bestValue_13 rfl (lv_at hl 0 rfl) ?_
    refine va_get (D := D) (ci := 6) (v := .ref (q 6)) (C := RX6) (T := TX6) (N := 9) hx hb hts in_X6_bestValue_X6 hown hK hP 0 rfl rfl 4 (by decide) (hts (.fieldLink RX6 49 "LearnedReasons" "models" "LLearnedReasons$Models;") (by decide +kernel)) (fun _ h9 => h9) rfl dX6_bestValue_14 ?_
    obtain ⟨x_3, hx_3, h⟩ := ob_some h
    refine va_calli (va_runV (As := []) (rest := []) ⟨hx, hb, hml, hown, hts⟩ (c_X3_modelCount l D cI cJ q hq F I J a b x_3 hx_3) (cwV 0 hts gX6_bestValue_X3_modelCount rfl rfl rfl (by decide +kernel) (by rw [hR]; exact ⟨Nat.le_of_ble_eq_true rfl, Nat.le_of_ble_eq_true rfl⟩)) ⟨CUPc_blind, va_recv hK hP (ci := 3) (q0 := 6) rfl rfl, fun U hU hW => ⟨rfl, by rw [hU]; exact hP, va_K.moved hW.alike hK, va_Nw.warmM hW hN⟩⟩ rfl rfl hl.1 rfl (lv_room (Nat.le_of_ble_eq_true rfl)) dX6_bestValue_17 ⟨Nat.zero_le _, Nat.zero_le _⟩) hS (fun _ _ h => h) (fun _ h => h) (fun r u t H1 locs ht hvm hw hB hz1 hk1 hS => ?_)
    obtain ⟨rfl, rfl⟩ := hw
    rw [ht] at hB
    have hP : va_P D vwCl (CUW cI cJ q (fu (fu (fu (fu (fu (fu I 17 x_3.2.1) 19 x_3.2.2.1) 20 x_3.2.2.2.1) 21 x_3.2.2.2.2.1) 22 x_3.2.2.2.2.2.1) 23 x_3.2.2.2.2.2.2.1) (fu J 2 x_3.2.2.2.2.2.2.2.1) (fu (fu a 9 x_3.2.2.2.2.2.2.2.2.1) 10 x_3.2.2.2.2.2.2.2.2.2.1) (fu b 0 x_3.2.2.2.2.2.2.2.2.2.2)) H1 := hB
    clear hB hz1 hk1 ht hvm
    generalize H1 = H at hP hS ⊢
    refine lv_if_ne (tgt := 26) hx hb dX6_bestValue_20 (by decide) (fun c_4 => ?_) (fun c_4 => ?_)
    · have h := if_f c_4 h
      refine lv_aload_n hx hb dX6_bestValue_26 rfl (lv_at hl 0 rfl) ?_
      refine va_get (D := D) (ci := 6) (v := .ref (q 6)) (C := RX6) (T := TX6) (N := 9) hx hb hts in_X6_bestValue_X6 hown hK hP 0 rfl rfl 4 (by decide) (hts (.fieldLink RX6 49 "LearnedReasons" "models" "LLearnedReasons$Models;") (by decide +kernel)) (fun _ h9 => h9) rfl dX6_bestValue_27 ?_
      obtain ⟨x_5, hx_5, h⟩ := ob_some h
      refine va_calli (va_runV (As := []) (rest := []) ⟨hx, hb, hml, hown, hts⟩ (c_X3_firstBest l D cI cJ q hq F (fu (fu (fu (fu (fu (fu I 17 x_3.2.1) 19 x_3.2.2.1) 20 x_3.2.2.2.1) 21 x_3.2.2.2.2.1) 22 x_3.2.2.2.2.2.1) 23 x_3.2.2.2.2.2.2.1) (fu J 2 x_3.2.2.2.2.2.2.2.1) (fu (fu a 9 x_3.2.2.2.2.2.2.2.2.1) 10 x_3.2.2.2.2.2.2.2.2.2.1) (fu b 0 x_3.2.2.2.2.2.2.2.2.2.2) x_5 hx_5) (cwV 0 hts gX6_bestValue_X3_firstBest rfl rfl rfl (by decide +kernel) (by rw [hR]; exact ⟨Nat.le_of_ble_eq_true rfl, Nat.le_of_ble_eq_true rfl⟩)) ⟨CUPc_blind, va_recv hK hP (ci := 3) (q0 := 6) rfl rfl, fun U hU hW => ⟨rfl, by rw [hU]; exact hP, va_K.moved hW.alike hK, va_Nw.warmM hW hN⟩⟩ rfl rfl hl.1 rfl (lv_room (Nat.le_of_ble_eq_true rfl)) dX6_bestValue_30 ⟨Nat.zero_le _, Nat.zero_le _⟩) hS (fun _ _ h => h) (fun _ h => h) (fun r u t H1 locs ht hvm hw hB hz1 hk1 hS => ?_)
      obtain ⟨rfl, rfl⟩ := hw
      rw [ht] at hB
      have hP : va_P D vwCl (CUW cI cJ q (fu (fu (fu (fu (fu (fu I 17 x_5.2.1) 19 x_5.2.2.1) 20 x_5.2.2.2.1) 21 x_5.2.2.2.2.1) 22 x_5.2.2.2.2.2.1) 23 x_5.2.2.2.2.2.2.1) (fu J 2 x_5.2.2.2.2.2.2.2.1) (fu (fu a 9 x_5.2.2.2.2.2.2.2.2.1) 10 x_5.2.2.2.2.2.2.2.2.2.1) (fu b 0 x_5.2.2.2.2.2.2.2.2.2.2)) H1 := hB
      clear hB hz1 hk1 ht hvm
      generalize H1 = H at hP hS ⊢
      refine lv_iload_n hx hb dX6_bestValue_33 rfl (lv_at hl 1 rfl) ?_
      refine lv_ishr hx hb dX6_bestValue_34 ?_
      refine lv_iconst (v := 1) hx hb dX6_bestValue_35 (by decide) ?_
      refine lv_iand hx hb dX6_bestValue_36 ?_
      have hx0 := Option.some.inj h
      rw [hQ]
      exact W.iret (v := (x_5.1 >>> (v1 &&& 31)) &&& 1) hx hb hr (fun t ht hW => ⟨⟨((x_5.1 >>> (v1 &&& 31)) &&& 1), (x_5.2.1, x_5.2.2.1, x_5.2.2.2.1, x_5.2.2.2.2.1, x_5.2.2.2.2.2.1, x_5.2.2.2.2.2.2.1, x_5.2.2.2.2.2.2.2.1, x_5.2.2.2.2.2.2.2.2.1, x_5.2.2.2.2.2.2.2.2.2.1, x_5.2.2.2.2.2.2.2.2.2.2), rfl, ⟨congrArg (fun z => z.1) hx0, congrArg (fun z => z.2) hx0⟩, by show va_P _ _ _ t.heap; rw [ht]; exact hP⟩, hS.F ht⟩) hS.2.2 dX6_bestValue_37
    · have h := if_t c_4 h
      refine lv_bipush (v := (-3)) hx hb dX6_bestValue_23 (by decide) ?_
      have hx0 := Option.some.inj h
      rw [hQ]
      exact W.iret (v := (-3)) hx hb hr (fun t ht hW => ⟨⟨(-3), (x_3.2.1, x_3.2.2.1, x_3.2.2.2.1, x_3.2.2.2.2.1, x_3.2.2.2.2.2.1, x_3.2.2.2.2.2.2.1, x_3.2.2.2.2.2.2.2.1, x_3.2.2.2.2.2.2.2.2.1, x_3.2.2.2.2.2.2.2.2.2.1, x_3.2.2.2.2.2.2.2.2.2.2), rfl, ⟨congrArg (fun z => z.1) hx0, congrArg (fun z => z.2) hx0⟩, by show va_P _ _ _ t.heap; rw [ht]; exact hP⟩, hS.F ht⟩) hS.2.2 dX6_bestValue_25
  · have h := if_t c_2 h
    refine lv_iconst (v := (-1)) hx hb dX6_bestValue_11 (by decide) ?_
    have hx0 := Option.some.inj h
    rw [hQ]
    exact W.iret (v := (-1)) hx hb hr (fun t ht hW => ⟨⟨(-1), ((I 17), (I 19), (I 20), (I 21), (I 22), (I 23), (J 2), (a 9), (a 10), (b 0)), rfl, ⟨congrArg (fun z => z.1) hx0, congrArg (fun z => z.2) hx0⟩, by show va_P _ _ _ t.heap; rw [ht]; exact hP⟩, hS.F ht⟩) hS.2.2 dX6_bestValue_12
