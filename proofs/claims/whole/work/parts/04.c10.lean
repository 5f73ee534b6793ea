theorem in_X3_areKeptTogether_X3 : ∀ w ∈ wsX30, w ∈ wsX3_areKeptTogether := by decide +kernel
set_option maxHeartbeats 4000000 in
set_option maxRecDepth 100000 in
theorem c_X3_areKeptTogether (l : Launch) (D : va_G) (cI cJ : ClassId) (q : Nat → Nat) (hq : CUQ q) (F : Nat) (I : Nat → Int32) (J : Nat → Int64) (a : Nat → Nat → Int32) (b : Nat → Nat → Int64) (v1 : Int64) (x0 : Int32) (h : f_X3_areKeptTogether F I J a b v1 = some x0) : Met l yX3_areKeptTogether wsX3_areKeptTogether ({ frames := 1, cells := 0, slots := 0, locals := 20 }) (CUPc D cI cJ q I J a b [.ref (q 6), .long v1]) (va_Qi (fun (r : Int32) (u : Unit) => r = x0) (fun (u : Unit) t => va_P D vwCl (CUW cI cJ q I J a b) t.heap) (CUA q)) 0 0 (CUA q) := by
  refine mt_of (cc := cX3_areKeptTogether) (maxL := 5) (ret := (some .boolean)) (by decide) rfl ?_
  intro p e s m args below meth c s₁ B0 hml hv R Q hR hQ
  obtain ⟨hargs, hP, hK, hN⟩ := hv
  have hx := B0.exec
  have hb := B0.bytes
  have hr := B0.returns
  have hts := atoms_spec (ws := wsX3_areKeptTogether) B0.pre
  have hown : s.vm.findClass RX3 = some m.cls := findClass_of_methodNamed B0.named
  have hlocks := B0.notSynchronized
  have hS : va_S (CUA q) s.heap s.heap [] := va_S.rf
  have hl := lv_entry ([.ref (q 6), .long v1]) (n := 5) (Nat.le_of_ble_eq_true rfl)
  rw [hargs, lg_entry_eq]
  rw [← hargs]
  generalize (lg_sl ([.ref (q 6), .long v1]) ++ List.replicate (5 - (lg_sl ([.ref (q 6), .long v1])).length) Slot.unset).toArray = ls at hl ⊢
  have hl : lv_has ls 5 [(0, .ref (q 6)), (1, .long v1)] := hl
  unfold f_X3_areKeptTogether at h
  have C13 : ∀ (n13 : Nat) (v1 : Int64) (v3 : Int32) (v4 : Int32), k_X3_areKeptTogether_13 F I J a b n13 v1 v3 v4 = some x0 → ∀ (H : Heap) (locs : List Loc), va_P D vwCl (CUW cI cJ q I J a b) H → va_S (CUA q) s.heap H locs → ∀ ls : Array Slot, lv_has ls 5 [(0, .ref (q 6)), (1, .long v1), (3, .int v3), (4, .int v4)] → W p l e R s m args below meth c H locs 0 0 Q (F0 m 13 ls []) := by
    intro n13
    induction n13 with
    | zero => intro v1 v3 v4 h; rw [k_X3_areKeptTogether_13] at h; cases h
    | succ n13 ih13 =>
      intro v1 v3 v4 h H locs hP hS ls hl
      rw [k_X3_areKeptTogether_13] at h
      refine lv_iload hx hb dX3_areKeptTogether_13 (lv_at hl 3 rfl) ?_
      refine lv_iload_n hx hb dX3_areKeptTogether_15 rfl (lv_at hl 2 rfl) ?_
      refine lv_icmp_ge (tgt := 41) hx hb dX3_areKeptTogether_16 (by decide) (fun c_1 => ?_) (fun c_1 => ?_)
      · have h := if_t c_1 h
        refine lv_iconst (v := 0) hx hb dX3_areKeptTogether_41 (by decide) ?_
        have hx0 := Option.some.inj h
        rw [hQ]
        exact W.zret (v := 0) hx hb hr (rfl) (fun t ht hW => ⟨⟨0, (), rfl, hx0, by show va_P _ _ _ t.heap; rw [ht]; exact hP⟩, hS.F ht⟩) hS.2.2 dX3_areKeptTogether_42
      · have h := if_f c_1 h
        refine lv_aload_n hx hb dX3_areKeptTogether_19 rfl (lv_at hl 0 rfl) ?_
        refine va_get (D := D) (ci := 3) (v := .ref (q 15)) (C := RX3) (T := TX3) (N := 13) hx hb hts in_X3_areKeptTogether_X3 hown hK hP 6 rfl rfl 1 (by decide) (hts (.fieldLink RX3 11 "LearnedReasons$Models" "broken" "[J") (by decide +kernel)) (fun _ h9 => h9) rfl dX3_areKeptTogether_20 ?_
        refine lv_iload hx hb dX3_areKeptTogether_23 (lv_at hl 3 rfl) ?_
        obtain ⟨g_2, h⟩ := gd_some h
        refine va_lald hx hb hK hP 15 1 rfl rfl g_2 dX3_areKeptTogether_25 ?_
        refine lv_lload_n hx hb dX3_areKeptTogether_26 rfl (lv_at hl 1 rfl) ?_
        refine lv_land hx hb dX3_areKeptTogether_27 ?_
        refine lv_lconst (v := 0) hx hb dX3_areKeptTogether_28 (by decide) ?_
        refine W.lcmp hx hb dX3_areKeptTogether_29 ?_
        refine lv_if_ne (tgt := 35) hx hb dX3_areKeptTogether_30 (by decide) (fun c_3 => ?_) (fun c_3 => ?_)
        · have h := if_f c_3 h
          refine lv_iinc (v := v4 + 1) (lv' := [(4, .int (v4 + 1)), (0, .ref (q 6)), (1, .long v1), (3, .int v3)]) hx hb dX3_areKeptTogether_35 hl (k := 3) rfl rfl (by decide) rfl (fun ls hl => ?_)
          refine lv_goto (tgt := 13) hx hb dX3_areKeptTogether_38 (by decide) ?_
          exact ih13 v1 v3 (v4 + 1) h _ _ hP hS ls (lv_sub hl [1, 2, 3, 0] rfl)
        · have h := if_t c_3 h
          refine lv_iconst (v := 1) hx hb dX3_areKeptTogether_33 (by decide) ?_
          have hx0 := Option.some.inj h
          rw [hQ]
          exact W.zret (v := 1) hx hb hr (rfl) (fun t ht hW => ⟨⟨1, (), rfl, hx0, by show va_P _ _ _ t.heap; rw [ht]; exact hP⟩, hS.F ht⟩) hS.2.2 dX3_areKeptTogether_34
  refine lv_iconst (v := 1) hx hb dX3_areKeptTogether_0 (by decide) ?_
  refine lv_aload_n hx hb dX3_areKeptTogether_1 rfl (lv_at hl 0 rfl) ?_
  refine va_get (D := D) (ci := 3) (v := .ref (q 1)) (C := RX3) (T := TX3) (N := 13) hx hb hts in_X3_areKeptTogether_X3 hown hK hP 6 rfl rfl 0 (by decide) (hts (.fieldLink RX3 25 "LearnedReasons$Models" "things" "LLearnedReasons$Things;") (by decide +kernel)) (fun _ h9 => h9) rfl dX3_areKeptTogether_2 ?_
  obtain ⟨x_4, hx_4, h⟩ := ob_some h
  refine va_calli (va_runV (As := []) (rest := [.int 1]) ⟨hx, hb, hml, hown, hts⟩ (c_X5_names l D cI cJ q hq F I J a b x_4 hx_4) (cwV 0 hts gX3_areKeptTogether_X5_names rfl rfl rfl (by decide +kernel) (by rw [hR]; exact ⟨Nat.le_of_ble_eq_true rfl, Nat.le_of_ble_eq_true rfl⟩)) ⟨CUPc_blind, va_recv hK hP (ci := 5) (q0 := 1) rfl rfl, fun U hU hW => ⟨rfl, by rw [hU]; exact hP, va_K.moved hW.alike hK, va_Nw.warmM hW hN⟩⟩ rfl rfl hl.1 rfl (lv_room (Nat.le_of_ble_eq_true rfl)) dX3_areKeptTogether_5 ⟨Nat.zero_le _, Nat.zero_le _⟩) hS (fun _ _ h => h) (fun _ h => h) (fun r u t H1 locs ht hvm hw hB hz1 hk1 hS => ?_)
  obtain rfl := hw.symm
  rw [ht] at hB
  have hP : va_P D vwCl (CUW cI cJ q I J a b) H1 := hB
  clear hB hz1 hk1 ht hvm
  generalize H1 = H at hP hS ⊢
  refine lv_ishl hx hb dX3_areKeptTogether_8 ?_
  refine lv_topi (fun v_5 ev_5 => ?_)
  have h := nmI_at ev_5 h
  refine lv_istore_n (lv' := [(3, .int v_5), (0, .ref (q 6)), (1, .long v1)]) hx hb dX3_areKeptTogether_9 rfl hl (by decide) rfl (fun ls hl => ?_)
  refine lv_iconst (v := 0) hx hb dX3_areKeptTogether_10 (by decide) ?_
  refine lv_istore (lv' := [(4, .int 0), (3, .int v_5), (0, .ref (q 6)), (1, .long v1)]) hx hb dX3_areKeptTogether_11 hl (by decide) rfl (fun ls hl => ?_)
  exact C13 F v1 v_5 0 h _ _ hP hS ls (lv_sub hl [2, 3, 1, 0] rfl)
theorem in_X3_coreThings_X3 : ∀ w ∈ wsX30, w ∈ wsX3_coreThings := by decide +kernel
set_option maxHeartbeats 4000000 in
set_option maxRecDepth 100000 in
theorem c_X3_coreThings (l : Launch) (D : va_G) (cI cJ : ClassId) (q : Nat → Nat) (hq : CUQ q) (F : Nat) (I : Nat → Int32) (J : Nat → Int64) (a : Nat → Nat → Int32) (b : Nat → Nat → Int64) (x0 : Int64 × Int32 × Int64 × Int64 × (Nat → Int32) × (Nat → Int32) × (Nat → Int64)) (h : f_X3_coreThings F I J a b = some x0) : Met l yX3_coreThings wsX3_coreThings ({ frames := 3, cells := 0, slots := 0, locals := 72 }) (CUPc D cI cJ q I J a b [.ref (q 6)]) (va_Ql (fun (r : Int64) (u : Int32 × Int64 × Int64 × (Nat → Int32) × (Nat → Int32) × (Nat → Int64)) => r = x0.1 ∧ u = x0.2) (fun (u : Int32 × Int64 × Int64 × (Nat → Int32) × (Nat → Int32) × (Nat → Int64)) t => va_P D vwCl (CUW cI cJ q (fu I 18 u.1) (fu (fu J 2 u.2.1) 3 u.2.2.1) (fu (fu a 9 u.2.2.2.1) 10 u.2.2.2.2.1) (fu b 0 u.2.2.2.2.2)) t.heap) (CUA q)) 0 0 (CUA q) := by
  refine mt_of (cc := cX3_coreThings) (maxL := 4) (ret := (some .long)) (by decide) rfl ?_
  intro p e s m args below meth c s₁ B0 hml hv R Q hR hQ
  obtain ⟨hargs, hP, hK, hN⟩ := hv
  have hx := B0.exec
  have hb := B0.bytes
  have hr := B0.returns
  have hts := atoms_spec (ws := wsX3_coreThings) B0.pre
  have hown : s.vm.findClass RX3 = some m.cls := findClass_of_methodNamed B0.named
  have hlocks := B0.notSynchronized
  have hS : va_S (CUA q) s.heap s.heap [] := va_S.rf
  have hl := lv_entry ([.ref (q 6)]) (n := 4) (Nat.le_of_ble_eq_true rfl)
  rw [hargs, lg_entry_eq]
  rw [← hargs]
  generalize (lg_sl ([.ref (q 6)]) ++ List.replicate (4 - (lg_sl ([.ref (q 6)])).length) Slot.unset).toArray = ls at hl ⊢
  have hl : lv_has ls 4 [(0, .ref (q 6))] := hl
  unfold f_X3_coreThings at h
  have C25 : ∀ (n25 : Nat) (v1 : Int32) (J2 : Int64) (J3 : Int64) (a9 : Nat → Int32) (a10 : Nat → Int32) (b0 : Nat → Int64), k_X3_coreThings_25 F I J a b n25 v1 J2 J3 a9 a10 b0 = some x0 → ∀ (H : Heap) (locs : List Loc), va_P D vwCl (CUW cI cJ q I (fu (fu J 2 J2) 3 J3) (fu (fu a 9 a9) 10 a10) (fu b 0 b0)) H → va_S (CUA q) s.heap H locs → ∀ ls : Array Slot, lv_has ls 4 [(0, .ref (q 6)), (1, .int v1)] → W p l e R s m args below meth c H locs 0 0 Q (F0 m 25 ls []) := by
    intro n25
    induction n25 with
    | zero => intro v1 J2 J3 a9 a10 b0 h; rw [k_X3_coreThings_25] at h; cases h
    | succ n25 ih25 =>
      intro v1 J2 J3 a9 a10 b0 h H locs hP hS ls hl
      rw [k_X3_coreThings_25] at h
      refine lv_iload_n hx hb dX3_coreThings_25 rfl (lv_at hl 1 rfl) ?_
      refine lv_if_lt (tgt := 70) hx hb dX3_coreThings_26 (by decide) (fun c_1 => ?_) (fun c_1 => ?_)
      · have h := if_t c_1 h
        refine lv_aload_n hx hb dX3_coreThings_70 rfl (lv_at hl 0 rfl) ?_
        refine lv_iconst (v := 1) hx hb dX3_coreThings_71 (by decide) ?_
        refine va_put (D := D) (ci := 3) (v := .int 1) (ty := .boolean) (C := RX3) (T := TX3) (N := 13) hx hb hts in_X3_coreThings_X3 tyX3 tyX3_ok nmX3 hown hK hP (CUW_D hq) hS 6 rfl rfl 6 (by decide) (hts (.fieldLink RX3 33 "LearnedReasons$Models" "isCored" "Z") (by decide +kernel)) (fun _ h9 => h9) rfl (by decide +kernel) rfl rfl (Nat.le_of_ble_eq_true rfl) dX3_coreThings_72 (fun H locs hP _ hS => ?_)
        have hP : va_P D vwCl (CUW cI cJ q (fu I 18 1) (fu (fu J 2 J2) 3 J3) (fu (fu a 9 a9) 10 a10) (fu b 0 b0)) H := hP
        refine lv_aload_n hx hb dX3_coreThings_75 rfl (lv_at hl 0 rfl) ?_
        refine va_get (D := D) (ci := 3) (v := .long J3) (C := RX3) (T := TX3) (N := 13) hx hb hts in_X3_coreThings_X3 hown hK hP 6 rfl rfl 12 (by decide) (hts (.fieldLink RX3 74 "LearnedReasons$Models" "coreThings" "J") (by decide +kernel)) (fun _ h9 => h9) rfl dX3_coreThings_76 ?_
        have hx0 := Option.some.inj h
        rw [hQ]
        exact W.lret (v := J3) hx hb hr (fun t ht hW => ⟨⟨J3, (1, J2, J3, a9, a10, b0), rfl, ⟨congrArg (fun z => z.1) hx0, congrArg (fun z => z.2) hx0⟩, by show va_P _ _ _ t.heap; rw [ht]; exact hP⟩, hS.F ht⟩) hS.2.2 dX3_coreThings_79
      · have h := if_f c_1 h
        refine lv_aload_n hx hb dX3_coreThings_29 rfl (lv_at hl 0 rfl) ?_
        refine va_get (D := D) (ci := 3) (v := .long J3) (C := RX3) (T := TX3) (N := 13) hx hb hts in_X3_coreThings_X3 hown hK hP 6 rfl rfl 12 (by decide) (hts (.fieldLink RX3 74 "LearnedReasons$Models" "coreThings" "J") (by decide +kernel)) (fun _ h9 => h9) rfl dX3_coreThings_30 ?_
        refine lv_lconst (v := 1) hx hb dX3_coreThings_33 (by decide) ?_
        refine lv_iload_n hx hb dX3_coreThings_34 rfl (lv_at hl 1 rfl) ?_
        refine lv_lshl hx hb dX3_coreThings_35 rfl ?_
        refine lv_ldc2 (v := (-1)) hx hb hown (hts (.constantLong RX3 78 (-1)) (by decide +kernel)) dX3_coreThings_36 ?_
        refine lv_lxor hx hb dX3_coreThings_39 ?_
        refine lv_land hx hb dX3_coreThings_40 ?_
        refine lv_topl (fun w_2 ew_2 => ?_)
        have h := nmJ_at ew_2 h
        refine lv_lstore_n (lv' := [(2, .long w_2), (0, .ref (q 6)), (1, .int v1)]) hx hb dX3_coreThings_41 rfl hl (by decide) rfl (fun ls hl => ?_)
        refine lv_lload_n hx hb dX3_coreThings_42 rfl (lv_at hl 0 rfl) ?_
        refine lv_aload_n hx hb dX3_coreThings_43 rfl (lv_at hl 1 rfl) ?_
        refine va_get (D := D) (ci := 3) (v := .long J3) (C := RX3) (T := TX3) (N := 13) hx hb hts in_X3_coreThings_X3 hown hK hP 6 rfl rfl 12 (by decide) (hts (.fieldLink RX3 74 "LearnedReasons$Models" "coreThings" "J") (by decide +kernel)) (fun _ h9 => h9) rfl dX3_coreThings_44 ?_
        refine W.lcmp hx hb dX3_coreThings_47 ?_
        refine lv_if_eq (tgt := 64) hx hb dX3_coreThings_48 (by decide) (fun c_3 => ?_) (fun c_3 => ?_)
        · have h := if_t c_3 h
          refine lv_iinc (v := v1 + (-1)) (lv' := [(1, .int (v1 + (-1))), (2, .long w_2), (0, .ref (q 6))]) hx hb dX3_coreThings_64 hl (k := 2) rfl rfl (by decide) rfl (fun ls hl => ?_)
          refine lv_goto (tgt := 25) hx hb dX3_coreThings_67 (by decide) ?_
          exact ih25 (v1 + (-1)) J2 J3 a9 a10 b0 h _ _ hP hS ls (lv_sub hl [2, 0] rfl)
        · have h := if_f c_3 h
          refine lv_aload_n hx hb dX3_coreThings_51 rfl (lv_at hl 1 rfl) ?_
          refine lv_lload_n hx hb dX3_coreThings_52 rfl (lv_at hl 0 rfl) ?_
          obtain ⟨x_4, hx_4, h⟩ := ob_some h
          refine va_calli (va_runV (As := [.long w_2]) (rest := []) ⟨hx, hb, hml, hown, hts⟩ (c_X3_areKeptTogether l D cI cJ q hq F I (fu (fu J 2 J2) 3 J3) (fu (fu a 9 a9) 10 a10) (fu b 0 b0) w_2 x_4 hx_4) (cwV 1 hts gX3_coreThings_X3_areKeptTogether rfl rfl rfl (by decide +kernel) (by rw [hR]; exact ⟨Nat.le_of_ble_eq_true rfl, Nat.le_of_ble_eq_true rfl⟩)) ⟨CUPc_blind, va_recv hK hP (ci := 3) (q0 := 6) rfl rfl, fun U hU hW => ⟨rfl, by rw [hU]; exact hP, va_K.moved hW.alike hK, va_Nw.warmM hW hN⟩⟩ rfl rfl hl.1 rfl (lv_room (Nat.le_of_ble_eq_true rfl)) dX3_coreThings_53 ⟨Nat.zero_le _, Nat.zero_le _⟩) hS (fun _ _ h => h) (fun _ h => h) (fun r u t H1 locs ht hvm hw hB hz1 hk1 hS => ?_)
          obtain rfl := hw.symm
          rw [ht] at hB
          have hP : va_P D vwCl (CUW cI cJ q I (fu (fu J 2 J2) 3 J3) (fu (fu a 9 a9) 10 a10) (fu b 0 b0)) H1 := hB
          clear hB hz1 hk1 ht hvm
          generalize H1 = H at hP hS ⊢
          refine lv_if_ne (tgt := 64) hx hb dX3_coreThings_56 (by decide) (fun c_5 => ?_) (fun c_5 => ?_)
          · have h := if_f c_5 h
            refine lv_iinc (v := v1 + (-1)) (lv' := [(1, .int (v1 + (-1))), (2, .long w_2), (0, .ref (q 6))]) hx hb dX3_coreThings_64 hl (k := 2) rfl rfl (by decide) rfl (fun ls hl => ?_)
            refine lv_goto (tgt := 25) hx hb dX3_coreThings_67 (by decide) ?_
            exact ih25 (v1 + (-1)) J2 J3 a9 a10 b0 h _ _ hP hS ls (lv_sub hl [2, 0] rfl)
          · have h := if_t c_5 h
            refine lv_aload_n hx hb dX3_coreThings_59 rfl (lv_at hl 1 rfl) ?_
            refine lv_lload_n hx hb dX3_coreThings_60 rfl (lv_at hl 0 rfl) ?_
            refine va_put (D := D) (ci := 3) (v := .long w_2) (ty := .long) (C := RX3) (T := TX3) (N := 13) hx hb hts in_X3_coreThings_X3 tyX3 tyX3_ok nmX3 hown hK hP (CUW_D hq) hS 6 rfl rfl 12 (by decide) (hts (.fieldLink RX3 74 "LearnedReasons$Models" "coreThings" "J") (by decide +kernel)) (fun _ h9 => h9) rfl (by decide +kernel) rfl rfl (Nat.le_of_ble_eq_true rfl) dX3_coreThings_61 (fun H locs hP _ hS => ?_)
            have hP : va_P D vwCl (CUW cI cJ q I (fu (fu J 2 J2) 3 w_2) (fu (fu a 9 a9) 10 a10) (fu b 0 b0)) H := hP
            refine lv_iinc (v := v1 + (-1)) (lv' := [(1, .int (v1 + (-1))), (2, .long w_2), (0, .ref (q 6))]) hx hb dX3_coreThings_64 hl (k := 2) rfl rfl (by decide) rfl (fun ls hl => ?_)
            refine lv_goto (tgt := 25) hx hb dX3_coreThings_67 (by decide) ?_
            exact ih25 (v1 + (-1)) J2 w_2 a9 a10 b0 h _ _ hP hS ls (lv_sub hl [2, 0] rfl)
  refine lv_aload_n hx hb dX3_coreThings_0 rfl (lv_at hl 0 rfl) ?_
  refine va_get (D := D) (ci := 3) (v := .int (I 18)) (C := RX3) (T := TX3) (N := 13) hx hb hts in_X3_coreThings_X3 hown hK hP 6 rfl rfl 6 (by decide) (hts (.fieldLink RX3 33 "LearnedReasons$Models" "isCored" "Z") (by decide +kernel)) (fun _ h9 => h9) rfl dX3_coreThings_1 ?_
  refine lv_if_ne (tgt := 75) hx hb dX3_coreThings_4 (by decide) (fun c_6 => ?_) (fun c_6 => ?_)
  · have h := if_f c_6 h
    refine lv_aload_n hx hb dX3_coreThings_75 rfl (lv_at hl 0 rfl) ?_
    refine va_get (D := D) (ci := 3) (v := .long (J 3)) (C := RX3) (T := TX3) (N := 13) hx hb hts in_X3_coreThings_X3 hown hK hP 6 rfl rfl 12 (by decide) (hts (.fieldLink RX3 74 "LearnedReasons$Models" "coreThings" "J") (by decide +kernel)) (fun _ h9 => h9) rfl dX3_coreThings_76 ?_
    have hx0 := Option.some.inj h
    rw [hQ]
    exact W.lret (v := J 3) hx hb hr (fun t ht hW => ⟨⟨(J 3), ((I 18), (J 2), (J 3), (a 9), (a 10), (b 0)), rfl, ⟨congrArg (fun z => z.1) hx0, congrArg (fun z => z.2) hx0⟩, by show va_P _ _ _ t.heap; rw [ht]; exact hP⟩, hS.F ht⟩) hS.2.2 dX3_coreThings_79
  · have h := if_t c_6 h
    refine lv_aload_n hx hb dX3_coreThings_7 rfl (lv_at hl 0 rfl) ?_
    obtain ⟨x_7, hx_7, h⟩ := ob_some h
    refine va_callv (va_runV (As := []) (rest := []) ⟨hx, hb, hml, hown, hts⟩ (c_X3_readThings l D cI cJ q hq F I J a b x_7 hx_7) (cwV 0 hts gX3_coreThings_X3_readThings rfl rfl rfl (by decide +kernel) (by rw [hR]; exact ⟨Nat.le_of_ble_eq_true rfl, Nat.le_of_ble_eq_true rfl⟩)) ⟨CUPc_blind, va_recv hK hP (ci := 3) (q0 := 6) rfl rfl, fun U hU hW => ⟨rfl, by rw [hU]; exact hP, va_K.moved hW.alike hK, va_Nw.warmM hW hN⟩⟩ rfl rfl hl.1 rfl (lv_room (Nat.le_of_ble_eq_true rfl)) dX3_coreThings_8 ⟨Nat.zero_le _, Nat.zero_le _⟩) hS (fun _ _ h => h) (fun _ h => h) (fun u t H1 locs ht hvm hw hB hz1 hk1 hS => ?_)
    obtain rfl := hw.symm
    rw [ht] at hB
    have hP : va_P D vwCl (CUW cI cJ q I (fu J 2 x_7.1) (fu (fu a 9 x_7.2.1) 10 x_7.2.2.1) (fu b 0 x_7.2.2.2)) H1 := hB
    clear hB hz1 hk1 ht hvm
    generalize H1 = H at hP hS ⊢
    refine lv_aload_n hx hb dX3_coreThings_11 rfl (lv_at hl 0 rfl) ?_
    refine lv_aload_n hx hb dX3_coreThings_12 rfl (lv_at hl 0 rfl) ?_
    refine va_get (D := D) (ci := 3) (v := .ref (q 1)) (C := RX3) (T := TX3) (N := 13) hx hb hts in_X3_coreThings_X3 hown hK hP 6 rfl rfl 0 (by decide) (hts (.fieldLink RX3 25 "LearnedReasons$Models" "things" "LLearnedReasons$Things;") (by decide +kernel)) (fun _ h9 => h9) rfl dX3_coreThings_13 ?_
    obtain ⟨x_8, hx_8, h⟩ := ob_some h
    refine va_calll (va_runV (As := []) (rest := [.ref (q 6)]) ⟨hx, hb, hml, hown, hts⟩ (c_X5_standing l D cI cJ q hq F I (fu J 2 x_7.1) (fu (fu a 9 x_7.2.1) 10 x_7.2.2.1) (fu b 0 x_7.2.2.2) x_8 hx_8) (cwV 0 hts gX3_coreThings_X5_standing rfl rfl rfl (by decide +kernel) (by rw [hR]; exact ⟨Nat.le_of_ble_eq_true rfl, Nat.le_of_ble_eq_true rfl⟩)) ⟨CUPc_blind, va_recv hK hP (ci := 5) (q0 := 1) rfl rfl, fun U hU hW => ⟨rfl, by rw [hU]; exact hP, va_K.moved hW.alike hK, va_Nw.warmM hW hN⟩⟩ rfl rfl hl.1 rfl (lv_room (Nat.le_of_ble_eq_true rfl)) dX3_coreThings_16 ⟨Nat.zero_le _, Nat.zero_le _⟩) hS (fun _ _ h => h) (fun _ h => h) (fun r u t H1 locs ht hvm hw hB hz1 hk1 hS => ?_)
    obtain rfl := hw.symm
    rw [ht] at hB
    have hP : va_P D vwCl (CUW cI cJ q I (fu J 2 x_7.1) (fu (fu a 9 x_7.2.1) 10 x_7.2.2.1) (fu b 0 x_7.2.2.2)) H1 := hB
    clear hB hz1 hk1 ht hvm
    generalize H1 = H at hP hS ⊢
    refine va_put (D := D) (ci := 3) (v := .long x_8) (ty := .long) (C := RX3) (T := TX3) (N := 13) hx hb hts in_X3_coreThings_X3 tyX3 tyX3_ok nmX3 hown hK hP (CUW_D hq) hS 6 rfl rfl 12 (by decide) (hts (.fieldLink RX3 74 "LearnedReasons$Models" "coreThings" "J") (by decide +kernel)) (fun _ h9 => h9) rfl (by decide +kernel) rfl rfl (Nat.le_of_ble_eq_true rfl) dX3_coreThings_19 (fun H locs hP _ hS => ?_)
    have hP : va_P D vwCl (CUW cI cJ q I (fu (fu J 2 x_7.1) 3 x_8) (fu (fu a 9 x_7.2.1) 10 x_7.2.2.1) (fu b 0 x_7.2.2.2)) H := hP
    refine lv_bipush (v := 59) hx hb dX3_coreThings_22 (by decide) ?_
    refine lv_istore_n (lv' := [(1, .int 59), (0, .ref (q 6))]) hx hb dX3_coreThings_24 rfl hl (by decide) rfl (fun ls hl => ?_)
    exact C25 F 59 x_7.1 x_8 x_7.2.1 x_7.2.2.1 x_7.2.2.2 h _ _ hP hS ls (lv_sub hl [1, 0] rfl)
theorem in_X6_core_X6 : ∀ w ∈ wsX60, w ∈ wsX6_core := by decide +kernel
set_option maxHeartbeats 4000000 in
set_option maxRecDepth 100000 in
theorem c_X6_core (l : Launch) (D : va_G) (cI cJ : ClassId) (q : Nat → Nat) (hq : CUQ q) (F : Nat) (I : Nat → Int32) (J : Nat → Int64) (a : Nat → Nat → Int32) (b : Nat → Nat → Int64) (v1 : Int32) (x0 : Int32 × Int32 × Int32 × Int32 × Int32 × Int32 × Int32 × Int32 × Int64 × Int64 × (Nat → Int32) × (Nat → Int32) × (Nat → Int64)) (h : f_X6_core F I J a b v1 = some x0) : Met l yX6_core wsX6_core ({ frames := 5, cells := 0, slots := 0, locals := 116 }) (CUPc D cI cJ q I J a b [.ref (q 0), .int v1]) (va_Qi (fun (r : Int32) (u : Int32 × Int32 × Int32 × Int32 × Int32 × Int32 × Int32 × Int64 × Int64 × (Nat → Int32) × (Nat → Int32) × (Nat → Int64)) => r = x0.1 ∧ u = x0.2) (fun (u : Int32 × Int32 × Int32 × Int32 × Int32 × Int32 × Int32 × Int64 × Int64 × (Nat → Int32) × (Nat → Int32) × (Nat → Int64)) t => va_P D vwCl (CUW cI cJ q (fu (fu (fu (fu (fu (fu (fu I 17 u.1) 18 u.2.1) 19 u.2.2.1) 20 u.2.2.2.1) 21 u.2.2.2.2.1) 22 u.2.2.2.2.2.1) 23 u.2.2.2.2.2.2.1) (fu (fu J 2 u.2.2.2.2.2.2.2.1) 3 u.2.2.2.2.2.2.2.2.1) (fu (fu a 9 u.2.2.2.2.2.2.2.2.2.1) 10 u.2.2.2.2.2.2.2.2.2.2.1) (fu b 0 u.2.2.2.2.2.2.2.2.2.2.2)) t.heap) (CUA q)) 0 0 (CUA q) := by
  refine mt_of (cc := cX6_core) (maxL := 3) (ret := (some .int)) (by decide) rfl ?_
  intro p e s m args below meth c s₁ B0 hml hv R Q hR hQ
  obtain ⟨hargs, hP, hK, hN⟩ := hv
  have hx := B0.exec
  have hb := B0.bytes
  have hr := B0.returns
  have hts := atoms_spec (ws := wsX6_core) B0.pre
  have hown : s.vm.findClass RX6 = some m.cls := findClass_of_methodNamed B0.named
  have hlocks := B0.notSynchronized
  have hS : va_S (CUA q) s.heap s.heap [] := va_S.rf
  have hl := lv_entry ([.ref (q 0), .int v1]) (n := 3) (Nat.le_of_ble_eq_true rfl)
  rw [hargs, lg_entry_eq]
  rw [← hargs]
  generalize (lg_sl ([.ref (q 0), .int v1]) ++ List.replicate (3 - (lg_sl ([.ref (q 0), .int v1])).length) Slot.unset).toArray = ls at hl ⊢
  have hl : lv_has ls 3 [(0, .ref (q 0)), (1, .int v1)] := hl
  unfold f_X6_core at h
  refine lv_aload_n hx hb dX6_core_0 rfl (lv_at hl 0 rfl) ?_
  refine va_get (D := D) (ci := 6) (v := .ref (q 6)) (C := RX6) (T := TX6) (N := 9) hx hb hts in_X6_core_X6 hown hK hP 0 rfl rfl 4 (by decide) (hts (.fieldLink RX6 49 "LearnedReasons" "models" "LLearnedReasons$Models;") (by decide +kernel)) (fun _ h9 => h9) rfl dX6_core_1 ?_
  obtain ⟨x_1, hx_1, h⟩ := ob_some h
  refine va_calli (va_runV (As := []) (rest := []) ⟨hx, hb, hml, hown, hts⟩ (c_X3_modelCount l D cI cJ q hq F I J a b x_1 hx_1) (cwV 0 hts gX6_core_X3_modelCount rfl rfl rfl (by decide +kernel) (by rw [hR]; exact ⟨Nat.le_of_ble_eq_true rfl, Nat.le_of_ble_eq_true rfl⟩)) ⟨CUPc_blind, va_recv hK hP (ci := 3) (q0 := 6) rfl rfl, fun U hU hW => ⟨rfl, by rw [hU]; exact hP, va_K.moved hW.alike hK, va_Nw.warmM hW hN⟩⟩ rfl rfl hl.1 rfl (lv_room (Nat.le_of_ble_eq_true rfl)) dX6_core_4 ⟨Nat.zero_le _, Nat.zero_le _⟩) hS (fun _ _ h => h) (fun _ h => h) (fun r u t H1 locs ht hvm hw hB hz1 hk1 hS => ?_)
  obtain ⟨rfl, rfl⟩ := hw
  rw [ht] at hB
  have hP : va_P D vwCl (CUW cI cJ q (fu (fu (fu (fu (fu (fu I 17 x_1.2.1) 19 x_1.2.2.1) 20 x_1.2.2.2.1) 21 x_1.2.2.2.2.1) 22 x_1.2.2.2.2.2.1) 23 x_1.2.2.2.2.2.2.1) (fu J 2 x_1.2.2.2.2.2.2.2.1) (fu (fu a 9 x_1.2.2.2.2.2.2.2.2.1) 10 x_1.2.2.2.2.2.2.2.2.2.1) (fu b 0 x_1.2.2.2.2.2.2.2.2.2.2)) H1 := hB
  clear hB hz1 hk1 ht hvm
  generalize H1 = H at hP hS ⊢
  refine lv_if_eq (tgt := 13) hx hb dX6_core_7 (by decide) (fun c_2 => ?_) (fun c_2 => ?_)
  · have h := if_t c_2 h
    refine lv_aload_n hx hb dX6_core_13 rfl (lv_at hl 0 rfl) ?_
    refine va_get (D := D) (ci := 6) (v := .ref (q 6)) (C := RX6) (T := TX6) (N := 9) hx hb hts in_X6_core_X6 hown hK hP 0 rfl rfl 4 (by decide) (hts (.fieldLink RX6 49 "LearnedReasons" "models" "LLearnedReasons$Models;") (by decide +kernel)) (fun _ h9 => h9) rfl dX6_core_14 ?_
    obtain ⟨x_3, hx_3, h⟩ := ob_some h
    refine va_calll (va_runV (As := []) (rest := []) ⟨hx, hb, hml, hown, hts⟩ (c_X3_coreThings l D cI cJ q hq F (fu (fu (fu (fu (fu (fu I 17 x_1.2.1) 19 x_1.2.2.1) 20 x_1.2.2.2.1) 21 x_1.2.2.2.2.1) 22 x_1.2.2.2.2.2.1) 23 x_1.2.2.2.2.2.2.1) (fu J 2 x_1.2.2.2.2.2.2.2.1) (fu (fu a 9 x_1.2.2.2.2.2.2.2.2.1) 10 x_1.2.2.2.2.2.2.2.2.2.1) (fu b 0 x_1.2.2.2.2.2.2.2.2.2.2) x_3 hx_3) (cwV 0 hts gX6_core_X3_coreThings rfl rfl rfl (by decide +kernel) (by rw [hR]; exact ⟨Nat.le_of_ble_eq_true rfl, Nat.le_of_ble_eq_true rfl⟩)) ⟨CUPc_blind, va_recv hK hP (ci := 3) (q0 := 6) rfl rfl, fun U hU hW => ⟨rfl, by rw [hU]; exact hP, va_K.moved hW.alike hK, va_Nw.warmM hW hN⟩⟩ rfl rfl hl.1 rfl (lv_room (Nat.le_of_ble_eq_true rfl)) dX6_core_17 ⟨Nat.zero_le _, Nat.zero_le _⟩) hS (fun _ _ h => h) (fun _ h => h) (fun r u t H1 locs ht hvm hw hB hz1 hk1 hS => ?_)
    obtain ⟨rfl, rfl⟩ := hw
    rw [ht] at hB
    have hP : va_P D vwCl (CUW cI cJ q (fu (fu (fu (fu (fu (fu (fu I 17 x_1.2.1) 18 x_3.2.1) 19 x_1.2.2.1) 20 x_1.2.2.2.1) 21 x_1.2.2.2.2.1) 22 x_1.2.2.2.2.2.1) 23 x_1.2.2.2.2.2.2.1) (fu (fu J 2 x_3.2.2.1) 3 x_3.2.2.2.1) (fu (fu a 9 x_3.2.2.2.2.1) 10 x_3.2.2.2.2.2.1) (fu b 0 x_3.2.2.2.2.2.2)) H1 := hB
    clear hB hz1 hk1 ht hvm
    generalize H1 = H at hP hS ⊢
    refine lv_iload_n hx hb dX6_core_20 rfl (lv_at hl 1 rfl) ?_
    obtain ⟨x_4, hx_4, h⟩ := ob_some h
    refine va_calli (va_runS (As := [.long x_3.1, .int v1]) (rest := []) ⟨hx, hb, hml, hown, hts⟩ (c_X6_placeOfBit l F x_3.1 v1 x_4 hx_4) (va_cwS 2 hts gX6_core_X6_placeOfBit rfl rfl rfl (by decide +kernel) (by rw [hR]; exact ⟨Nat.le_of_ble_eq_true rfl, Nat.le_of_ble_eq_true rfl⟩)) ⟨fun _ _ _ _ h => h, fun U hU hW => ⟨rfl, trivial⟩⟩ rfl rfl hl.1 rfl (lv_room (Nat.le_of_ble_eq_true rfl)) dX6_core_21 ⟨Nat.zero_le _, Nat.zero_le _⟩) hS (fun _ _ h => h.elim) (fun _ h => h.elim) (fun r u t H1 locs ht hvm hw hB hz1 hk1 hS => ?_)
    obtain rfl := hw.symm
    have hP := hP.kept (fun k x hx => hk1 x.1 (hP k x hx).lt (fun h => h))
    clear hB hz1 hk1 ht hvm
    generalize H1 = H at hP hS ⊢
    refine lv_istore_n (lv' := [(2, .int x_4), (0, .ref (q 0)), (1, .int v1)]) hx hb dX6_core_24 rfl hl (by decide) rfl (fun ls hl => ?_)
    refine lv_iload_n hx hb dX6_core_25 rfl (lv_at hl 0 rfl) ?_
    refine lv_if_ge (tgt := 33) hx hb dX6_core_26 (by decide) (fun c_5 => ?_) (fun c_5 => ?_)
    · have h := if_t c_5 h
      refine lv_iload_n hx hb dX6_core_33 rfl (lv_at hl 0 rfl) ?_
      have hx0 := Option.some.inj h
      rw [hQ]
      exact W.iret (v := x_4) hx hb hr (fun t ht hW => ⟨⟨x_4, (x_1.2.1, x_3.2.1, x_1.2.2.1, x_1.2.2.2.1, x_1.2.2.2.2.1, x_1.2.2.2.2.2.1, x_1.2.2.2.2.2.2.1, x_3.2.2.1, x_3.2.2.2.1, x_3.2.2.2.2.1, x_3.2.2.2.2.2.1, x_3.2.2.2.2.2.2), rfl, ⟨congrArg (fun z => z.1) hx0, congrArg (fun z => z.2) hx0⟩, by show va_P _ _ _ t.heap; rw [ht]; exact hP⟩, hS.F ht⟩) hS.2.2 dX6_core_34
    · have h := if_f c_5 h
      refine lv_iconst (v := (-1)) hx hb dX6_core_29 (by decide) ?_
      refine lv_goto (tgt := 34) hx hb dX6_core_30 (by decide) ?_
      have hx0 := Option.some.inj h
      rw [hQ]
      exact W.iret (v := (-1)) hx hb hr (fun t ht hW => ⟨⟨(-1), (x_1.2.1, x_3.2.1, x_1.2.2.1, x_1.2.2.2.1, x_1.2.2.2.2.1, x_1.2.2.2.2.2.1, x_1.2.2.2.2.2.2.1, x_3.2.2.1, x_3.2.2.2.1, x_3.2.2.2.2.1, x_3.2.2.2.2.2.1, x_3.2.2.2.2.2.2), rfl, ⟨congrArg (fun z => z.1) hx0, congrArg (fun z => z.2) hx0⟩, by show va_P _ _ _ t.heap; rw [ht]; exact hP⟩, hS.F ht⟩) hS.2.2 dX6_core_34
  · have h := if_f c_2 h
    refine lv_bipush (v := (-2)) hx hb dX6_core_10 (by decide) ?_
    have hx0 := Option.some.inj h
    rw [hQ]
    exact W.iret (v := (-2)) hx hb hr (fun t ht hW => ⟨⟨(-2), (x_1.2.1, (I 18), x_1.2.2.1, x_1.2.2.2.1, x_1.2.2.2.2.1, x_1.2.2.2.2.2.1, x_1.2.2.2.2.2.2.1, x_1.2.2.2.2.2.2.2.1, (J 3), x_1.2.2.2.2.2.2.2.2.1, x_1.2.2.2.2.2.2.2.2.2.1, x_1.2.2.2.2.2.2.2.2.2.2), rfl, ⟨congrArg (fun z => z.1) hx0, congrArg (fun z => z.2) hx0⟩, by show va_P _ _ _ t.heap; rw [ht]; exact hP⟩, hS.F ht⟩) hS.2.2 dX6_core_12
