theorem in_X7_change_X7 : ∀ w ∈ wsX70, w ∈ wsX7_change := by decide +kernel
set_option maxHeartbeats 4000000 in
set_option maxRecDepth 100000 in
theorem c_X7_change (l : Launch) (D : va_G) (cI cJ cZ : ClassId) (q : Nat → Nat) (hq : MUQ q) (F : Nat) (I : Nat → Int32) (J : Nat → Int64) (a : Nat → Nat → Int32) (b : Nat → Nat → Int64) (x0 : Int32 × Int32 × Int32) (h : f_X7_change F I J a b = some x0) : Met l yX7_change wsX7_change ({ frames := 0, cells := 0, slots := 0, locals := 0 }) (MUPc D cI cJ cZ q I J a b [.ref (q 0)]) (va_Qv (fun (u : Int32 × Int32 × Int32) => u = x0) (fun (u : Int32 × Int32 × Int32) t => va_P D vwCl (MUW cI cJ cZ q (fu (fu (fu I 7 u.1) 8 u.2.1) 9 u.2.2) J a b) t.heap) (MUA q)) 0 0 (MUA q) := by
  refine mt_of (cc := cX7_change) (maxL := 1) (ret := none) (by decide) rfl ?_
  intro p e s m args below meth c s₁ B0 hml hv R Q hR hQ
  obtain ⟨hargs, hP, hK, hN⟩ := hv
  have hx := B0.exec
  have hb := B0.bytes
  have hr := B0.returns
  have hts := atoms_spec (ws := wsX7_change) B0.pre
  have hown : s.vm.findClass RX7 = some m.cls := findClass_of_methodNamed B0.named
  have hlocks := B0.notSynchronized
  have hS : va_S (MUA q) s.heap s.heap [] := va_S.rf
  have hl := lv_entry ([.ref (q 0)]) (n := 1) (Nat.le_of_ble_eq_true rfl)
  rw [hargs, lg_entry_eq]
  rw [← hargs]
  generalize (lg_sl ([.ref (q 0)]) ++ List.replicate (1 - (lg_sl ([.ref (q 0)])).length) Slot.unset).toArray = ls at hl ⊢
  have hl : lv_has ls 1 [(0, .ref (q 0))] := hl
  unfold f_X7_change at h
  refine lv_aload_n hx hb dX7_change_0 rfl (lv_at hl 0 rfl) ?_
  refine lv_iconst (v := 0) hx hb dX7_change_1 (by decide) ?_
  refine va_put (D := D) (ci := 7) (v := .int 0) (ty := .boolean) (C := RX7) (T := TX7) (N := 38) hx hb hts in_X7_change_X7 tyX7 tyX7_ok nmX7 hown hK hP (MUW_D hq) hS 0 rfl rfl 17 (by decide) (hts (.fieldLink RX7 115 "LearnedReasonsModel" "known" "Z") (by decide +kernel)) (fun _ h9 => h9) rfl (by decide +kernel) rfl rfl (Nat.le_of_ble_eq_true rfl) dX7_change_2 (fun H locs hP _ hS => ?_)
  have hP : va_P D vwCl (MUW cI cJ cZ q (fu I 8 0) J a b) H := hP
  refine lv_aload_n hx hb dX7_change_5 rfl (lv_at hl 0 rfl) ?_
  refine lv_iconst (v := 0) hx hb dX7_change_6 (by decide) ?_
  refine va_put (D := D) (ci := 7) (v := .int 0) (ty := .boolean) (C := RX7) (T := TX7) (N := 38) hx hb hts in_X7_change_X7 tyX7 tyX7_ok nmX7 hown hK hP (MUW_D hq) hS 0 rfl rfl 18 (by decide) (hts (.fieldLink RX7 94 "LearnedReasonsModel" "searched" "Z") (by decide +kernel)) (fun _ h9 => h9) rfl (by decide +kernel) rfl rfl (Nat.le_of_ble_eq_true rfl) dX7_change_7 (fun H locs hP _ hS => ?_)
  have hP : va_P D vwCl (MUW cI cJ cZ q (fu (fu I 8 0) 9 0) J a b) H := hP
  refine lv_aload_n hx hb dX7_change_10 rfl (lv_at hl 0 rfl) ?_
  refine lv_iconst (v := 0) hx hb dX7_change_11 (by decide) ?_
  refine va_put (D := D) (ci := 7) (v := .int 0) (ty := .int) (C := RX7) (T := TX7) (N := 38) hx hb hts in_X7_change_X7 tyX7 tyX7_ok nmX7 hown hK hP (MUW_D hq) hS 0 rfl rfl 14 (by decide) (hts (.fieldLink RX7 80 "LearnedReasonsModel" "lemmaCount" "I") (by decide +kernel)) (fun _ h9 => h9) rfl (by decide +kernel) rfl rfl (Nat.le_of_ble_eq_true rfl) dX7_change_12 (fun H locs hP _ hS => ?_)
  have hP : va_P D vwCl (MUW cI cJ cZ q (fu (fu (fu I 7 0) 8 0) 9 0) J a b) H := hP
  have hx0 := Option.some.inj h
  rw [hQ]
  exact W.vret hx hb hr (fun t ht hW => ⟨⟨(0, 0, 0), rfl, hx0, by show va_P _ _ _ t.heap; rw [ht]; exact hP⟩, hS.F ht⟩) hS.2.2 dX7_change_15
theorem in_X7_name_X7 : ∀ w ∈ wsX70, w ∈ wsX7_name := by decide +kernel
set_option maxHeartbeats 4000000 in
set_option maxRecDepth 100000 in
theorem c_X7_name (l : Launch) (D : va_G) (cI cJ cZ : ClassId) (q : Nat → Nat) (hq : MUQ q) (F : Nat) (I : Nat → Int32) (J : Nat → Int64) (a : Nat → Nat → Int32) (b : Nat → Nat → Int64) (x0 : Int32 × Int32 × Int32 × Int32 × Int32 × (Nat → Int32) × (Nat → Int32)) (h : f_X7_name F I J a b = some x0) : Met l yX7_name wsX7_name ({ frames := 1, cells := 0, slots := 0, locals := 20 }) (MUPc D cI cJ cZ q I J a b [.ref (q 0)]) (va_Qi (fun (r : Int32) (u : Int32 × Int32 × Int32 × Int32 × (Nat → Int32) × (Nat → Int32)) => r = x0.1 ∧ u = x0.2) (fun (u : Int32 × Int32 × Int32 × Int32 × (Nat → Int32) × (Nat → Int32)) t => va_P D vwCl (MUW cI cJ cZ q (fu (fu (fu (fu I 0 u.1) 7 u.2.1) 8 u.2.2.1) 9 u.2.2.2.1) J (fu (fu a 5 u.2.2.2.2.1) 6 u.2.2.2.2.2) b) t.heap) (MUA q)) 0 0 (MUA q) := by
  refine mt_of (cc := cX7_name) (maxL := 2) (ret := (some .int)) (by decide) rfl ?_
  intro p e s m args below meth c s₁ B0 hml hv R Q hR hQ
  obtain ⟨hargs, hP, hK, hN⟩ := hv
  have hx := B0.exec
  have hb := B0.bytes
  have hr := B0.returns
  have hts := atoms_spec (ws := wsX7_name) B0.pre
  have hown : s.vm.findClass RX7 = some m.cls := findClass_of_methodNamed B0.named
  have hlocks := B0.notSynchronized
  have hS : va_S (MUA q) s.heap s.heap [] := va_S.rf
  have hl := lv_entry ([.ref (q 0)]) (n := 2) (Nat.le_of_ble_eq_true rfl)
  rw [hargs, lg_entry_eq]
  rw [← hargs]
  generalize (lg_sl ([.ref (q 0)]) ++ List.replicate (2 - (lg_sl ([.ref (q 0)])).length) Slot.unset).toArray = ls at hl ⊢
  have hl : lv_has ls 2 [(0, .ref (q 0))] := hl
  unfold f_X7_name at h
  have C24 : ∀ (n24 : Nat) (v1 : Int32) (a5 : Nat → Int32) (a6 : Nat → Int32), k_X7_name_24 F I J a b n24 v1 a5 a6 = some x0 → ∀ (H : Heap) (locs : List Loc), va_P D vwCl (MUW cI cJ cZ q I J (fu (fu a 5 a5) 6 a6) b) H → va_S (MUA q) s.heap H locs → ∀ ls : Array Slot, lv_has ls 2 [(0, .ref (q 0)), (1, .int v1)] → W p l e R s m args below meth c H locs 0 0 Q (F0 m 24 ls []) := by
    intro n24
    induction n24 with
    | zero => intro v1 a5 a6 h; rw [k_X7_name_24] at h; cases h
    | succ n24 ih24 =>
      intro v1 a5 a6 h H locs hP hS ls hl
      rw [k_X7_name_24] at h
      refine lv_iload_n hx hb dX7_name_24 rfl (lv_at hl 1 rfl) ?_
      refine lv_bipush (v := 60) hx hb dX7_name_25 (by decide) ?_
      refine lv_icmp_ge (tgt := 51) hx hb dX7_name_27 (by decide) (fun c_1 => ?_) (fun c_1 => ?_)
      · have h := if_t c_1 h
        refine lv_aload_n hx hb dX7_name_51 rfl (lv_at hl 0 rfl) ?_
        refine lv_dup hx hb dX7_name_52 rfl ?_
        refine va_get (D := D) (ci := 7) (v := .int (I 0)) (C := RX7) (T := TX7) (N := 38) hx hb hts in_X7_name_X7 hown hK hP 0 rfl rfl 0 (by decide) (hts (.fieldLink RX7 63 "LearnedReasonsModel" "names" "I") (by decide +kernel)) (fun _ h9 => h9) rfl dX7_name_53 ?_
        refine lv_iconst (v := 1) hx hb dX7_name_56 (by decide) ?_
        refine lv_iadd hx hb dX7_name_57 ?_
        refine lv_topi (fun v_2 ev_2 => ?_)
        have h := nmI_at ev_2 h
        refine va_put (D := D) (ci := 7) (v := .int v_2) (ty := .int) (C := RX7) (T := TX7) (N := 38) hx hb hts in_X7_name_X7 tyX7 tyX7_ok nmX7 hown hK hP (MUW_D hq) hS 0 rfl rfl 0 (by decide) (hts (.fieldLink RX7 63 "LearnedReasonsModel" "names" "I") (by decide +kernel)) (fun _ h9 => h9) rfl (by decide +kernel) rfl rfl (Nat.le_of_ble_eq_true rfl) dX7_name_58 (fun H locs hP _ hS => ?_)
        have hP : va_P D vwCl (MUW cI cJ cZ q (fu I 0 v_2) J (fu (fu a 5 a5) 6 a6) b) H := hP
        refine lv_aload_n hx hb dX7_name_61 rfl (lv_at hl 0 rfl) ?_
        obtain ⟨x_3, hx_3, h⟩ := ob_some h
        refine va_callv (va_runV (As := []) (rest := []) ⟨hx, hb, hml, hown, hts⟩ (c_X7_change l D cI cJ cZ q hq F (fu I 0 v_2) J (fu (fu a 5 a5) 6 a6) b x_3 hx_3) (cwV 0 hts gX7_name_X7_change rfl rfl rfl (by decide +kernel) (by rw [hR]; exact ⟨Nat.le_of_ble_eq_true rfl, Nat.le_of_ble_eq_true rfl⟩)) ⟨MUPc_blind, va_recv hK hP (ci := 7) (q0 := 0) rfl rfl, fun U hU hW => ⟨rfl, by rw [hU]; exact hP, va_K.moved hW.alike hK, trivial⟩⟩ rfl rfl hl.1 rfl (lv_room (Nat.le_of_ble_eq_true rfl)) dX7_name_62 ⟨Nat.zero_le _, Nat.zero_le _⟩) hS (fun _ _ h => h) (fun _ h => h) (fun u t H1 locs ht hvm hw hB hz1 hk1 hS => ?_)
        obtain rfl := hw.symm
        rw [ht] at hB
        have hP : va_P D vwCl (MUW cI cJ cZ q (fu (fu (fu (fu I 0 v_2) 7 x_3.1) 8 x_3.2.1) 9 x_3.2.2) J (fu (fu a 5 a5) 6 a6) b) H1 := hB
        clear hB hz1 hk1 ht hvm
        generalize H1 = H at hP hS ⊢
        refine lv_aload_n hx hb dX7_name_65 rfl (lv_at hl 0 rfl) ?_
        refine va_get (D := D) (ci := 7) (v := .int v_2) (C := RX7) (T := TX7) (N := 38) hx hb hts in_X7_name_X7 hown hK hP 0 rfl rfl 0 (by decide) (hts (.fieldLink RX7 63 "LearnedReasonsModel" "names" "I") (by decide +kernel)) (fun _ h9 => h9) rfl dX7_name_66 ?_
        refine lv_iconst (v := 1) hx hb dX7_name_69 (by decide) ?_
        refine lv_isub hx hb dX7_name_70 ?_
        have hx0 := Option.some.inj h
        rw [hQ]
        exact W.iret (v := v_2 - 1) hx hb hr (fun t ht hW => ⟨⟨(v_2 - 1), (v_2, x_3.1, x_3.2.1, x_3.2.2, a5, a6), rfl, ⟨congrArg (fun z => z.1) hx0, congrArg (fun z => z.2) hx0⟩, by show va_P _ _ _ t.heap; rw [ht]; exact hP⟩, hS.F ht⟩) hS.2.2 dX7_name_71
      · have h := if_f c_1 h
        refine lv_aload_n hx hb dX7_name_30 rfl (lv_at hl 0 rfl) ?_
        refine va_get (D := D) (ci := 7) (v := .ref (q 6)) (C := RX7) (T := TX7) (N := 38) hx hb hts in_X7_name_X7 hown hK hP 0 rfl rfl 7 (by decide) (hts (.fieldLink RX7 26 "LearnedReasonsModel" "weights" "[I") (by decide +kernel)) (fun _ h9 => h9) rfl dX7_name_31 ?_
        refine lv_bipush (v := 14) hx hb dX7_name_34 (by decide) ?_
        refine lv_iload_n hx hb dX7_name_36 rfl (lv_at hl 1 rfl) ?_
        refine lv_imul hx hb dX7_name_37 ?_
        refine lv_aload_n hx hb dX7_name_38 rfl (lv_at hl 0 rfl) ?_
        refine va_get (D := D) (ci := 7) (v := .int (I 0)) (C := RX7) (T := TX7) (N := 38) hx hb hts in_X7_name_X7 hown hK hP 0 rfl rfl 0 (by decide) (hts (.fieldLink RX7 63 "LearnedReasonsModel" "names" "I") (by decide +kernel)) (fun _ h9 => h9) rfl dX7_name_39 ?_
        refine lv_iadd hx hb dX7_name_42 ?_
        refine lv_iconst (v := 0) hx hb dX7_name_43 (by decide) ?_
        obtain ⟨g_4, h⟩ := gd_some h
        refine va_iast hx hb hK hP (MUW_D hq) hS 6 0 rfl rfl g_4 dX7_name_44 (fun H locs hP _ hS => ?_)
        have hP : va_P D vwCl (MUW cI cJ cZ q I J (fu (fu a 5 (upd a5 (((14 : Int32) * v1) + (I 0)).toNatClampNeg 0)) 6 a6) b) H := hP
        refine lv_iinc (v := v1 + 1) (lv' := [(1, .int (v1 + 1)), (0, .ref (q 0))]) hx hb dX7_name_45 hl (k := 1) rfl rfl (by decide) rfl (fun ls hl => ?_)
        refine lv_goto (tgt := 24) hx hb dX7_name_48 (by decide) ?_
        exact ih24 (v1 + 1) (upd a5 (((14 : Int32) * v1) + (I 0)).toNatClampNeg 0) a6 h _ _ hP hS ls (lv_sub hl [1, 0] rfl)
  refine lv_aload_n hx hb dX7_name_0 rfl (lv_at hl 0 rfl) ?_
  refine va_get (D := D) (ci := 7) (v := .int (I 0)) (C := RX7) (T := TX7) (N := 38) hx hb hts in_X7_name_X7 hown hK hP 0 rfl rfl 0 (by decide) (hts (.fieldLink RX7 63 "LearnedReasonsModel" "names" "I") (by decide +kernel)) (fun _ h9 => h9) rfl dX7_name_1 ?_
  refine lv_bipush (v := 14) hx hb dX7_name_4 (by decide) ?_
  refine lv_icmp_ne (tgt := 12) hx hb dX7_name_6 (by decide) (fun c_5 => ?_) (fun c_5 => ?_)
  · have h := if_f c_5 h
    refine lv_aload_n hx hb dX7_name_12 rfl (lv_at hl 0 rfl) ?_
    refine va_get (D := D) (ci := 7) (v := .ref (q 7)) (C := RX7) (T := TX7) (N := 38) hx hb hts in_X7_name_X7 hown hK hP 0 rfl rfl 8 (by decide) (hts (.fieldLink RX7 29 "LearnedReasonsModel" "costs" "[I") (by decide +kernel)) (fun _ h9 => h9) rfl dX7_name_13 ?_
    refine lv_aload_n hx hb dX7_name_16 rfl (lv_at hl 0 rfl) ?_
    refine va_get (D := D) (ci := 7) (v := .int (I 0)) (C := RX7) (T := TX7) (N := 38) hx hb hts in_X7_name_X7 hown hK hP 0 rfl rfl 0 (by decide) (hts (.fieldLink RX7 63 "LearnedReasonsModel" "names" "I") (by decide +kernel)) (fun _ h9 => h9) rfl dX7_name_17 ?_
    refine lv_iconst (v := 0) hx hb dX7_name_20 (by decide) ?_
    obtain ⟨g_6, h⟩ := gd_some h
    refine va_iast hx hb hK hP (MUW_D hq) hS 7 0 rfl rfl g_6 dX7_name_21 (fun H locs hP _ hS => ?_)
    have hP : va_P D vwCl (MUW cI cJ cZ q I J (fu a 6 (upd (a 6) (I 0).toNatClampNeg 0)) b) H := hP
    refine lv_iconst (v := 0) hx hb dX7_name_22 (by decide) ?_
    refine lv_istore_n (lv' := [(1, .int 0), (0, .ref (q 0))]) hx hb dX7_name_23 rfl hl (by decide) rfl (fun ls hl => ?_)
    exact C24 F 0 (a 5) (upd (a 6) (I 0).toNatClampNeg 0) h _ _ hP hS ls (lv_sub hl [1, 0] rfl)
  · have h := if_t c_5 h
    refine lv_bipush (v := (-4)) hx hb dX7_name_9 (by decide) ?_
    have hx0 := Option.some.inj h
    rw [hQ]
    exact W.iret (v := (-4)) hx hb hr (fun t ht hW => ⟨⟨(-4), ((I 0), (I 7), (I 8), (I 9), (a 5), (a 6)), rfl, ⟨congrArg (fun z => z.1) hx0, congrArg (fun z => z.2) hx0⟩, by show va_P _ _ _ t.heap; rw [ht]; exact hP⟩, hS.F ht⟩) hS.2.2 dX7_name_11
theorem in_X7_isLiteral_X7 : ∀ w ∈ wsX70, w ∈ wsX7_isLiteral := by decide +kernel
set_option maxHeartbeats 4000000 in
set_option maxRecDepth 100000 in
theorem c_X7_isLiteral (l : Launch) (D : va_G) (cI cJ cZ : ClassId) (q : Nat → Nat) (hq : MUQ q) (F : Nat) (I : Nat → Int32) (J : Nat → Int64) (a : Nat → Nat → Int32) (b : Nat → Nat → Int64) (v1 : Int32) (x0 : Int32) (h : f_X7_isLiteral F I J a b v1 = some x0) : Met l yX7_isLiteral wsX7_isLiteral ({ frames := 0, cells := 0, slots := 0, locals := 0 }) (MUPc D cI cJ cZ q I J a b [.ref (q 0), .int v1]) (va_Qi (fun (r : Int32) (u : Unit) => r = x0) (fun (u : Unit) t => va_P D vwCl (MUW cI cJ cZ q I J a b) t.heap) (MUA q)) 0 0 (MUA q) := by
  refine mt_of (cc := cX7_isLiteral) (maxL := 2) (ret := (some .boolean)) (by decide) rfl ?_
  intro p e s m args below meth c s₁ B0 hml hv R Q hR hQ
  obtain ⟨hargs, hP, hK, hN⟩ := hv
  have hx := B0.exec
  have hb := B0.bytes
  have hr := B0.returns
  have hts := atoms_spec (ws := wsX7_isLiteral) B0.pre
  have hown : s.vm.findClass RX7 = some m.cls := findClass_of_methodNamed B0.named
  have hlocks := B0.notSynchronized
  have hS : va_S (MUA q) s.heap s.heap [] := va_S.rf
  have hl := lv_entry ([.ref (q 0), .int v1]) (n := 2) (Nat.le_of_ble_eq_true rfl)
  rw [hargs, lg_entry_eq]
  rw [← hargs]
  generalize (lg_sl ([.ref (q 0), .int v1]) ++ List.replicate (2 - (lg_sl ([.ref (q 0), .int v1])).length) Slot.unset).toArray = ls at hl ⊢
  have hl : lv_has ls 2 [(0, .ref (q 0)), (1, .int v1)] := hl
  unfold f_X7_isLiteral at h
  refine lv_iload_n hx hb dX7_isLiteral_0 rfl (lv_at hl 1 rfl) ?_
  refine lv_if_lt (tgt := 18) hx hb dX7_isLiteral_1 (by decide) (fun c_1 => ?_) (fun c_1 => ?_)
  · have h := if_t c_1 h
    refine lv_iconst (v := 0) hx hb dX7_isLiteral_18 (by decide) ?_
    have hx0 := Option.some.inj h
    rw [hQ]
    exact W.zret (v := 0) hx hb hr (rfl) (fun t ht hW => ⟨⟨0, (), rfl, hx0, by show va_P _ _ _ t.heap; rw [ht]; exact hP⟩, hS.F ht⟩) hS.2.2 dX7_isLiteral_19
  · have h := if_f c_1 h
    refine lv_iload_n hx hb dX7_isLiteral_4 rfl (lv_at hl 1 rfl) ?_
    refine lv_iconst (v := 2) hx hb dX7_isLiteral_5 (by decide) ?_
    refine lv_idiv hx hb dX7_isLiteral_6 (by decide) ?_
    refine lv_aload_n hx hb dX7_isLiteral_7 rfl (lv_at hl 0 rfl) ?_
    refine va_get (D := D) (ci := 7) (v := .int (I 0)) (C := RX7) (T := TX7) (N := 38) hx hb hts in_X7_isLiteral_X7 hown hK hP 0 rfl rfl 0 (by decide) (hts (.fieldLink RX7 63 "LearnedReasonsModel" "names" "I") (by decide +kernel)) (fun _ h9 => h9) rfl dX7_isLiteral_8 ?_
    refine lv_icmp_ge (tgt := 18) hx hb dX7_isLiteral_11 (by decide) (fun c_2 => ?_) (fun c_2 => ?_)
    · have h := if_t c_2 h
      refine lv_iconst (v := 0) hx hb dX7_isLiteral_18 (by decide) ?_
      have hx0 := Option.some.inj h
      rw [hQ]
      exact W.zret (v := 0) hx hb hr (rfl) (fun t ht hW => ⟨⟨0, (), rfl, hx0, by show va_P _ _ _ t.heap; rw [ht]; exact hP⟩, hS.F ht⟩) hS.2.2 dX7_isLiteral_19
    · have h := if_f c_2 h
      refine lv_iconst (v := 1) hx hb dX7_isLiteral_14 (by decide) ?_
      refine lv_goto (tgt := 19) hx hb dX7_isLiteral_15 (by decide) ?_
      have hx0 := Option.some.inj h
      rw [hQ]
      exact W.zret (v := 1) hx hb hr (rfl) (fun t ht hW => ⟨⟨1, (), rfl, hx0, by show va_P _ _ _ t.heap; rw [ht]; exact hP⟩, hS.F ht⟩) hS.2.2 dX7_isLiteral_19
theorem in_X7_literal_X7 : ∀ w ∈ wsX70, w ∈ wsX7_literal := by decide +kernel
set_option maxHeartbeats 4000000 in
set_option maxRecDepth 100000 in
theorem c_X7_literal (l : Launch) (D : va_G) (cI cJ cZ : ClassId) (q : Nat → Nat) (hq : MUQ q) (F : Nat) (I : Nat → Int32) (J : Nat → Int64) (a : Nat → Nat → Int32) (b : Nat → Nat → Int64) (v1 : Int32) (x0 : Int32 × Int32 × Int32 × Int32) (h : f_X7_literal F I J a b v1 = some x0) : Met l yX7_literal wsX7_literal ({ frames := 1, cells := 0, slots := 0, locals := 21 }) (MUPc D cI cJ cZ q I J a b [.ref (q 0), .int v1]) (va_Qi (fun (r : Int32) (u : Int32 × Int32 × Int32) => r = x0.1 ∧ u = x0.2) (fun (u : Int32 × Int32 × Int32) t => va_P D vwCl (MUW cI cJ cZ q (fu (fu (fu I 2 u.1) 3 u.2.1) 4 u.2.2) J a b) t.heap) (MUA q)) 0 0 (MUA q) := by
  refine mt_of (cc := cX7_literal) (maxL := 3) (ret := (some .int)) (by decide) rfl ?_
  intro p e s m args below meth c s₁ B0 hml hv R Q hR hQ
  obtain ⟨hargs, hP, hK, hN⟩ := hv
  have hx := B0.exec
  have hb := B0.bytes
  have hr := B0.returns
  have hts := atoms_spec (ws := wsX7_literal) B0.pre
  have hown : s.vm.findClass RX7 = some m.cls := findClass_of_methodNamed B0.named
  have hlocks := B0.notSynchronized
  have hS : va_S (MUA q) s.heap s.heap [] := va_S.rf
  have hl := lv_entry ([.ref (q 0), .int v1]) (n := 3) (Nat.le_of_ble_eq_true rfl)
  rw [hargs, lg_entry_eq]
  rw [← hargs]
  generalize (lg_sl ([.ref (q 0), .int v1]) ++ List.replicate (3 - (lg_sl ([.ref (q 0), .int v1])).length) Slot.unset).toArray = ls at hl ⊢
  have hl : lv_has ls 3 [(0, .ref (q 0)), (1, .int v1)] := hl
  unfold f_X7_literal at h
  have C33 : ∀ (v1 : Int32) (v2 : Int32) (s0 : Int32), k_X7_literal_33 F I J a b v1 v2 s0 = some x0 → ∀ (H : Heap) (locs : List Loc), va_P D vwCl (MUW cI cJ cZ q I J a b) H → va_S (MUA q) s.heap H locs → ∀ ls : Array Slot, lv_has ls 3 [(0, .ref (q 0)), (1, .int v1), (2, .int v2)] → W p l e R s m args below meth c H locs 0 0 Q (F0 m 33 ls [.int s0]) := by
    intro v1 v2 s0 h H locs hP hS ls hl
    rw [k_X7_literal_33] at h
    refine lv_iload_n hx hb dX7_literal_33 rfl (lv_at hl 2 rfl) ?_
    refine lv_iand hx hb dX7_literal_34 ?_
    refine lv_if_eq (tgt := 43) hx hb dX7_literal_35 (by decide) (fun c_1 => ?_) (fun c_1 => ?_)
    · have h := if_t c_1 h
      refine lv_aload_n hx hb dX7_literal_43 rfl (lv_at hl 0 rfl) ?_
      refine va_get (D := D) (ci := 7) (v := .int (I 2)) (C := RX7) (T := TX7) (N := 38) hx hb hts in_X7_literal_X7 hown hK hP 0 rfl rfl 9 (by decide) (hts (.fieldLink RX7 160 "LearnedReasonsModel" "handSize" "I") (by decide +kernel)) (fun _ h9 => h9) rfl dX7_literal_44 ?_
      refine lv_bipush (v := 8) hx hb dX7_literal_47 (by decide) ?_
      refine lv_icmp_ne (tgt := 55) hx hb dX7_literal_49 (by decide) (fun c_2 => ?_) (fun c_2 => ?_)
      · have h := if_f c_2 h
        refine lv_iload_n hx hb dX7_literal_55 rfl (lv_at hl 1 rfl) ?_
        refine lv_iconst (v := 2) hx hb dX7_literal_56 (by decide) ?_
        refine lv_irem hx hb dX7_literal_57 (by decide) ?_
        refine lv_if_ne (tgt := 74) hx hb dX7_literal_58 (by decide) (fun c_3 => ?_) (fun c_3 => ?_)
        · have h := if_f c_3 h
          refine lv_aload_n hx hb dX7_literal_74 rfl (lv_at hl 0 rfl) ?_
          refine lv_dup hx hb dX7_literal_75 rfl ?_
          refine va_get (D := D) (ci := 7) (v := .int (I 4)) (C := RX7) (T := TX7) (N := 38) hx hb hts in_X7_literal_X7 hown hK hP 0 rfl rfl 11 (by decide) (hts (.fieldLink RX7 157 "LearnedReasonsModel" "handNo" "I") (by decide +kernel)) (fun _ h9 => h9) rfl dX7_literal_76 ?_
          refine lv_iload_n hx hb dX7_literal_79 rfl (lv_at hl 2 rfl) ?_
          refine lv_ior hx hb dX7_literal_80 ?_
          refine lv_topi (fun v_4 ev_4 => ?_)
          have h := nmI_at ev_4 h
          refine va_put (D := D) (ci := 7) (v := .int v_4) (ty := .int) (C := RX7) (T := TX7) (N := 38) hx hb hts in_X7_literal_X7 tyX7 tyX7_ok nmX7 hown hK hP (MUW_D hq) hS 0 rfl rfl 11 (by decide) (hts (.fieldLink RX7 157 "LearnedReasonsModel" "handNo" "I") (by decide +kernel)) (fun _ h9 => h9) rfl (by decide +kernel) rfl rfl (Nat.le_of_ble_eq_true rfl) dX7_literal_81 (fun H locs hP _ hS => ?_)
          have hP : va_P D vwCl (MUW cI cJ cZ q (fu I 4 v_4) J a b) H := hP
          refine lv_aload_n hx hb dX7_literal_84 rfl (lv_at hl 0 rfl) ?_
          refine lv_dup hx hb dX7_literal_85 rfl ?_
          refine va_get (D := D) (ci := 7) (v := .int (I 2)) (C := RX7) (T := TX7) (N := 38) hx hb hts in_X7_literal_X7 hown hK hP 0 rfl rfl 9 (by decide) (hts (.fieldLink RX7 160 "LearnedReasonsModel" "handSize" "I") (by decide +kernel)) (fun _ h9 => h9) rfl dX7_literal_86 ?_
          refine lv_iconst (v := 1) hx hb dX7_literal_89 (by decide) ?_
          refine lv_iadd hx hb dX7_literal_90 ?_
          refine lv_topi (fun v_5 ev_5 => ?_)
          have h := nmI_at ev_5 h
          refine va_put (D := D) (ci := 7) (v := .int v_5) (ty := .int) (C := RX7) (T := TX7) (N := 38) hx hb hts in_X7_literal_X7 tyX7 tyX7_ok nmX7 hown hK hP (MUW_D hq) hS 0 rfl rfl 9 (by decide) (hts (.fieldLink RX7 160 "LearnedReasonsModel" "handSize" "I") (by decide +kernel)) (fun _ h9 => h9) rfl (by decide +kernel) rfl rfl (Nat.le_of_ble_eq_true rfl) dX7_literal_91 (fun H locs hP _ hS => ?_)
          have hP : va_P D vwCl (MUW cI cJ cZ q (fu (fu I 2 v_5) 4 v_4) J a b) H := hP
          refine lv_aload_n hx hb dX7_literal_94 rfl (lv_at hl 0 rfl) ?_
          refine va_get (D := D) (ci := 7) (v := .int v_5) (C := RX7) (T := TX7) (N := 38) hx hb hts in_X7_literal_X7 hown hK hP 0 rfl rfl 9 (by decide) (hts (.fieldLink RX7 160 "LearnedReasonsModel" "handSize" "I") (by decide +kernel)) (fun _ h9 => h9) rfl dX7_literal_95 ?_
          have hx0 := Option.some.inj h
          rw [hQ]
          exact W.iret (v := v_5) hx hb hr (fun t ht hW => ⟨⟨v_5, (v_5, (I 3), v_4), rfl, ⟨congrArg (fun z => z.1) hx0, congrArg (fun z => z.2) hx0⟩, by show va_P _ _ _ t.heap; rw [ht]; exact hP⟩, hS.F ht⟩) hS.2.2 dX7_literal_98
        · have h := if_t c_3 h
          refine lv_aload_n hx hb dX7_literal_61 rfl (lv_at hl 0 rfl) ?_
          refine lv_dup hx hb dX7_literal_62 rfl ?_
          refine va_get (D := D) (ci := 7) (v := .int (I 3)) (C := RX7) (T := TX7) (N := 38) hx hb hts in_X7_literal_X7 hown hK hP 0 rfl rfl 10 (by decide) (hts (.fieldLink RX7 154 "LearnedReasonsModel" "handYes" "I") (by decide +kernel)) (fun _ h9 => h9) rfl dX7_literal_63 ?_
          refine lv_iload_n hx hb dX7_literal_66 rfl (lv_at hl 2 rfl) ?_
          refine lv_ior hx hb dX7_literal_67 ?_
          refine lv_topi (fun v_6 ev_6 => ?_)
          have h := nmI_at ev_6 h
          refine va_put (D := D) (ci := 7) (v := .int v_6) (ty := .int) (C := RX7) (T := TX7) (N := 38) hx hb hts in_X7_literal_X7 tyX7 tyX7_ok nmX7 hown hK hP (MUW_D hq) hS 0 rfl rfl 10 (by decide) (hts (.fieldLink RX7 154 "LearnedReasonsModel" "handYes" "I") (by decide +kernel)) (fun _ h9 => h9) rfl (by decide +kernel) rfl rfl (Nat.le_of_ble_eq_true rfl) dX7_literal_68 (fun H locs hP _ hS => ?_)
          have hP : va_P D vwCl (MUW cI cJ cZ q (fu I 3 v_6) J a b) H := hP
          refine lv_goto (tgt := 84) hx hb dX7_literal_71 (by decide) ?_
          refine lv_aload_n hx hb dX7_literal_84 rfl (lv_at hl 0 rfl) ?_
          refine lv_dup hx hb dX7_literal_85 rfl ?_
          refine va_get (D := D) (ci := 7) (v := .int (I 2)) (C := RX7) (T := TX7) (N := 38) hx hb hts in_X7_literal_X7 hown hK hP 0 rfl rfl 9 (by decide) (hts (.fieldLink RX7 160 "LearnedReasonsModel" "handSize" "I") (by decide +kernel)) (fun _ h9 => h9) rfl dX7_literal_86 ?_
          refine lv_iconst (v := 1) hx hb dX7_literal_89 (by decide) ?_
          refine lv_iadd hx hb dX7_literal_90 ?_
          refine lv_topi (fun v_7 ev_7 => ?_)
          have h := nmI_at ev_7 h
          refine va_put (D := D) (ci := 7) (v := .int v_7) (ty := .int) (C := RX7) (T := TX7) (N := 38) hx hb hts in_X7_literal_X7 tyX7 tyX7_ok nmX7 hown hK hP (MUW_D hq) hS 0 rfl rfl 9 (by decide) (hts (.fieldLink RX7 160 "LearnedReasonsModel" "handSize" "I") (by decide +kernel)) (fun _ h9 => h9) rfl (by decide +kernel) rfl rfl (Nat.le_of_ble_eq_true rfl) dX7_literal_91 (fun H locs hP _ hS => ?_)
          have hP : va_P D vwCl (MUW cI cJ cZ q (fu (fu I 2 v_7) 3 v_6) J a b) H := hP
          refine lv_aload_n hx hb dX7_literal_94 rfl (lv_at hl 0 rfl) ?_
          refine va_get (D := D) (ci := 7) (v := .int v_7) (C := RX7) (T := TX7) (N := 38) hx hb hts in_X7_literal_X7 hown hK hP 0 rfl rfl 9 (by decide) (hts (.fieldLink RX7 160 "LearnedReasonsModel" "handSize" "I") (by decide +kernel)) (fun _ h9 => h9) rfl dX7_literal_95 ?_
          have hx0 := Option.some.inj h
          rw [hQ]
          exact W.iret (v := v_7) hx hb hr (fun t ht hW => ⟨⟨v_7, (v_7, v_6, (I 4)), rfl, ⟨congrArg (fun z => z.1) hx0, congrArg (fun z => z.2) hx0⟩, by show va_P _ _ _ t.heap; rw [ht]; exact hP⟩, hS.F ht⟩) hS.2.2 dX7_literal_98
      · have h := if_t c_2 h
        refine lv_bipush (v := (-4)) hx hb dX7_literal_52 (by decide) ?_
        have hx0 := Option.some.inj h
        rw [hQ]
        exact W.iret (v := (-4)) hx hb hr (fun t ht hW => ⟨⟨(-4), ((I 2), (I 3), (I 4)), rfl, ⟨congrArg (fun z => z.1) hx0, congrArg (fun z => z.2) hx0⟩, by show va_P _ _ _ t.heap; rw [ht]; exact hP⟩, hS.F ht⟩) hS.2.2 dX7_literal_54
    · have h := if_f c_1 h
      refine lv_aload_n hx hb dX7_literal_38 rfl (lv_at hl 0 rfl) ?_
      refine va_get (D := D) (ci := 7) (v := .int (I 2)) (C := RX7) (T := TX7) (N := 38) hx hb hts in_X7_literal_X7 hown hK hP 0 rfl rfl 9 (by decide) (hts (.fieldLink RX7 160 "LearnedReasonsModel" "handSize" "I") (by decide +kernel)) (fun _ h9 => h9) rfl dX7_literal_39 ?_
      have hx0 := Option.some.inj h
      rw [hQ]
      exact W.iret (v := I 2) hx hb hr (fun t ht hW => ⟨⟨(I 2), ((I 2), (I 3), (I 4)), rfl, ⟨congrArg (fun z => z.1) hx0, congrArg (fun z => z.2) hx0⟩, by show va_P _ _ _ t.heap; rw [ht]; exact hP⟩, hS.F ht⟩) hS.2.2 dX7_literal_42
  refine lv_aload_n hx hb dX7_literal_0 rfl (lv_at hl 0 rfl) ?_
  refine lv_iload_n hx hb dX7_literal_1 rfl (lv_at hl 1 rfl) ?_
  obtain ⟨x_8, hx_8, h⟩ := ob_some h
  refine va_calli (va_runV (As := [.int v1]) (rest := []) ⟨hx, hb, hml, hown, hts⟩ (c_X7_isLiteral l D cI cJ cZ q hq F I J a b v1 x_8 hx_8) (cwV 1 hts gX7_literal_X7_isLiteral rfl rfl rfl (by decide +kernel) (by rw [hR]; exact ⟨Nat.le_of_ble_eq_true rfl, Nat.le_of_ble_eq_true rfl⟩)) ⟨MUPc_blind, va_recv hK hP (ci := 7) (q0 := 0) rfl rfl, fun U hU hW => ⟨rfl, by rw [hU]; exact hP, va_K.moved hW.alike hK, trivial⟩⟩ rfl rfl hl.1 rfl (lv_room (Nat.le_of_ble_eq_true rfl)) dX7_literal_2 ⟨Nat.zero_le _, Nat.zero_le _⟩) hS (fun _ _ h => h) (fun _ h => h) (fun r u t H1 locs ht hvm hw hB hz1 hk1 hS => ?_)
  obtain rfl := hw.symm
  rw [ht] at hB
  have hP : va_P D vwCl (MUW cI cJ cZ q I J a b) H1 := hB
  clear hB hz1 hk1 ht hvm
  generalize H1 = H at hP hS ⊢
  refine lv_if_ne (tgt := 10) hx hb dX7_literal_5 (by decide) (fun c_9 => ?_) (fun c_9 => ?_)
  · have h := if_f c_9 h
    refine lv_iconst (v := 1) hx hb dX7_literal_10 (by decide) ?_
    refine lv_iload_n hx hb dX7_literal_11 rfl (lv_at hl 1 rfl) ?_
    refine lv_iconst (v := 2) hx hb dX7_literal_12 (by decide) ?_
    refine lv_idiv hx hb dX7_literal_13 (by decide) ?_
    refine lv_ishl hx hb dX7_literal_14 ?_
    refine lv_topi (fun v_10 ev_10 => ?_)
    have h := nmI_at ev_10 h
    refine lv_istore_n (lv' := [(2, .int v_10), (0, .ref (q 0)), (1, .int v1)]) hx hb dX7_literal_15 rfl hl (by decide) rfl (fun ls hl => ?_)
    refine lv_iload_n hx hb dX7_literal_16 rfl (lv_at hl 2 rfl) ?_
    refine lv_iconst (v := 2) hx hb dX7_literal_17 (by decide) ?_
    refine lv_irem hx hb dX7_literal_18 (by decide) ?_
    refine lv_if_ne (tgt := 29) hx hb dX7_literal_19 (by decide) (fun c_11 => ?_) (fun c_11 => ?_)
    · have h := if_f c_11 h
      refine lv_aload_n hx hb dX7_literal_29 rfl (lv_at hl 1 rfl) ?_
      refine va_get (D := D) (ci := 7) (v := .int (I 4)) (C := RX7) (T := TX7) (N := 38) hx hb hts in_X7_literal_X7 hown hK hP 0 rfl rfl 11 (by decide) (hts (.fieldLink RX7 157 "LearnedReasonsModel" "handNo" "I") (by decide +kernel)) (fun _ h9 => h9) rfl dX7_literal_30 ?_
      exact C33 v1 v_10 (I 4) h _ _ hP hS ls (lv_sub hl [1, 2, 0] rfl)
    · have h := if_t c_11 h
      refine lv_aload_n hx hb dX7_literal_22 rfl (lv_at hl 1 rfl) ?_
      refine va_get (D := D) (ci := 7) (v := .int (I 3)) (C := RX7) (T := TX7) (N := 38) hx hb hts in_X7_literal_X7 hown hK hP 0 rfl rfl 10 (by decide) (hts (.fieldLink RX7 154 "LearnedReasonsModel" "handYes" "I") (by decide +kernel)) (fun _ h9 => h9) rfl dX7_literal_23 ?_
      refine lv_goto (tgt := 33) hx hb dX7_literal_26 (by decide) ?_
      exact C33 v1 v_10 (I 3) h _ _ hP hS ls (lv_sub hl [1, 2, 0] rfl)
  · have h := if_t c_9 h
    refine lv_iconst (v := (-1)) hx hb dX7_literal_8 (by decide) ?_
    have hx0 := Option.some.inj h
    rw [hQ]
    exact W.iret (v := (-1)) hx hb hr (fun t ht hW => ⟨⟨(-1), ((I 2), (I 3), (I 4)), rfl, ⟨congrArg (fun z => z.1) hx0, congrArg (fun z => z.2) hx0⟩, by show va_P _ _ _ t.heap; rw [ht]; exact hP⟩, hS.F ht⟩) hS.2.2 dX7_literal_9
theorem in_X7_emptyHand_X7 : ∀ w ∈ wsX70, w ∈ wsX7_emptyHand := by decide +kernel
set_option maxHeartbeats 4000000 in
set_option maxRecDepth 100000 in
theorem c_X7_emptyHand (l : Launch) (D : va_G) (cI cJ cZ : ClassId) (q : Nat → Nat) (hq : MUQ q) (F : Nat) (I : Nat → Int32) (J : Nat → Int64) (a : Nat → Nat → Int32) (b : Nat → Nat → Int64) (x0 : Int32 × Int32 × Int32) (h : f_X7_emptyHand F I J a b = some x0) : Met l yX7_emptyHand wsX7_emptyHand ({ frames := 0, cells := 0, slots := 0, locals := 0 }) (MUPc D cI cJ cZ q I J a b [.ref (q 0)]) (va_Qv (fun (u : Int32 × Int32 × Int32) => u = x0) (fun (u : Int32 × Int32 × Int32) t => va_P D vwCl (MUW cI cJ cZ q (fu (fu (fu I 2 u.1) 3 u.2.1) 4 u.2.2) J a b) t.heap) (MUA q)) 0 0 (MUA q) := by
  refine mt_of (cc := cX7_emptyHand) (maxL := 1) (ret := none) (by decide) rfl ?_
  intro p e s m args below meth c s₁ B0 hml hv R Q hR hQ
  obtain ⟨hargs, hP, hK, hN⟩ := hv
  have hx := B0.exec
  have hb := B0.bytes
  have hr := B0.returns
  have hts := atoms_spec (ws := wsX7_emptyHand) B0.pre
  have hown : s.vm.findClass RX7 = some m.cls := findClass_of_methodNamed B0.named
  have hlocks := B0.notSynchronized
  have hS : va_S (MUA q) s.heap s.heap [] := va_S.rf
  have hl := lv_entry ([.ref (q 0)]) (n := 1) (Nat.le_of_ble_eq_true rfl)
  rw [hargs, lg_entry_eq]
  rw [← hargs]
  generalize (lg_sl ([.ref (q 0)]) ++ List.replicate (1 - (lg_sl ([.ref (q 0)])).length) Slot.unset).toArray = ls at hl ⊢
  have hl : lv_has ls 1 [(0, .ref (q 0))] := hl
  unfold f_X7_emptyHand at h
  refine lv_aload_n hx hb dX7_emptyHand_0 rfl (lv_at hl 0 rfl) ?_
  refine lv_iconst (v := 0) hx hb dX7_emptyHand_1 (by decide) ?_
  refine va_put (D := D) (ci := 7) (v := .int 0) (ty := .int) (C := RX7) (T := TX7) (N := 38) hx hb hts in_X7_emptyHand_X7 tyX7 tyX7_ok nmX7 hown hK hP (MUW_D hq) hS 0 rfl rfl 10 (by decide) (hts (.fieldLink RX7 154 "LearnedReasonsModel" "handYes" "I") (by decide +kernel)) (fun _ h9 => h9) rfl (by decide +kernel) rfl rfl (Nat.le_of_ble_eq_true rfl) dX7_emptyHand_2 (fun H locs hP _ hS => ?_)
  have hP : va_P D vwCl (MUW cI cJ cZ q (fu I 3 0) J a b) H := hP
  refine lv_aload_n hx hb dX7_emptyHand_5 rfl (lv_at hl 0 rfl) ?_
  refine lv_iconst (v := 0) hx hb dX7_emptyHand_6 (by decide) ?_
  refine va_put (D := D) (ci := 7) (v := .int 0) (ty := .int) (C := RX7) (T := TX7) (N := 38) hx hb hts in_X7_emptyHand_X7 tyX7 tyX7_ok nmX7 hown hK hP (MUW_D hq) hS 0 rfl rfl 11 (by decide) (hts (.fieldLink RX7 157 "LearnedReasonsModel" "handNo" "I") (by decide +kernel)) (fun _ h9 => h9) rfl (by decide +kernel) rfl rfl (Nat.le_of_ble_eq_true rfl) dX7_emptyHand_7 (fun H locs hP _ hS => ?_)
  have hP : va_P D vwCl (MUW cI cJ cZ q (fu (fu I 3 0) 4 0) J a b) H := hP
  refine lv_aload_n hx hb dX7_emptyHand_10 rfl (lv_at hl 0 rfl) ?_
  refine lv_iconst (v := 0) hx hb dX7_emptyHand_11 (by decide) ?_
  refine va_put (D := D) (ci := 7) (v := .int 0) (ty := .int) (C := RX7) (T := TX7) (N := 38) hx hb hts in_X7_emptyHand_X7 tyX7 tyX7_ok nmX7 hown hK hP (MUW_D hq) hS 0 rfl rfl 9 (by decide) (hts (.fieldLink RX7 160 "LearnedReasonsModel" "handSize" "I") (by decide +kernel)) (fun _ h9 => h9) rfl (by decide +kernel) rfl rfl (Nat.le_of_ble_eq_true rfl) dX7_emptyHand_12 (fun H locs hP _ hS => ?_)
  have hP : va_P D vwCl (MUW cI cJ cZ q (fu (fu (fu I 2 0) 3 0) 4 0) J a b) H := hP
  have hx0 := Option.some.inj h
  rw [hQ]
  exact W.vret hx hb hr (fun t ht hW => ⟨⟨(0, 0, 0), rfl, hx0, by show va_P _ _ _ t.heap; rw [ht]; exact hP⟩, hS.F ht⟩) hS.2.2 dX7_emptyHand_15
theorem in_X7_clause_X7 : ∀ w ∈ wsX70, w ∈ wsX7_clause := by decide +kernel
set_option maxHeartbeats 4000000 in
set_option maxRecDepth 100000 in
theorem c_X7_clause (l : Launch) (D : va_G) (cI cJ cZ : ClassId) (q : Nat → Nat) (hq : MUQ q) (F : Nat) (I : Nat → Int32) (J : Nat → Int64) (a : Nat → Nat → Int32) (b : Nat → Nat → Int64) (x0 : Int32 × Int32 × Int32 × Int32 × Int32 × Int32 × Int32 × Int32 × (Nat → Int32) × (Nat → Int32) × (Nat → Int32) × (Nat → Int32)) (h : f_X7_clause F I J a b = some x0) : Met l yX7_clause wsX7_clause ({ frames := 1, cells := 0, slots := 0, locals := 20 }) (MUPc D cI cJ cZ q I J a b [.ref (q 0)]) (va_Qi (fun (r : Int32) (u : Int32 × Int32 × Int32 × Int32 × Int32 × Int32 × Int32 × (Nat → Int32) × (Nat → Int32) × (Nat → Int32) × (Nat → Int32)) => r = x0.1 ∧ u = x0.2) (fun (u : Int32 × Int32 × Int32 × Int32 × Int32 × Int32 × Int32 × (Nat → Int32) × (Nat → Int32) × (Nat → Int32) × (Nat → Int32)) t => va_P D vwCl (MUW cI cJ cZ q (fu (fu (fu (fu (fu (fu (fu I 1 u.1) 2 u.2.1) 3 u.2.2.1) 4 u.2.2.2.1) 7 u.2.2.2.2.1) 8 u.2.2.2.2.2.1) 9 u.2.2.2.2.2.2.1) J (fu (fu (fu (fu a 0 u.2.2.2.2.2.2.2.1) 1 u.2.2.2.2.2.2.2.2.1) 2 u.2.2.2.2.2.2.2.2.2.1) 3 u.2.2.2.2.2.2.2.2.2.2) b) t.heap) (MUA q)) 0 0 (MUA q) := by
  refine mt_of (cc := cX7_clause) (maxL := 1) (ret := (some .int)) (by decide) rfl ?_
  intro p e s m args below meth c s₁ B0 hml hv R Q hR hQ
  obtain ⟨hargs, hP, hK, hN⟩ := hv
  have hx := B0.exec
  have hb := B0.bytes
  have hr := B0.returns
  have hts := atoms_spec (ws := wsX7_clause) B0.pre
  have hown : s.vm.findClass RX7 = some m.cls := findClass_of_methodNamed B0.named
  have hlocks := B0.notSynchronized
  have hS : va_S (MUA q) s.heap s.heap [] := va_S.rf
  have hl := lv_entry ([.ref (q 0)]) (n := 1) (Nat.le_of_ble_eq_true rfl)
  rw [hargs, lg_entry_eq]
  rw [← hargs]
  generalize (lg_sl ([.ref (q 0)]) ++ List.replicate (1 - (lg_sl ([.ref (q 0)])).length) Slot.unset).toArray = ls at hl ⊢
  have hl : lv_has ls 1 [(0, .ref (q 0))] := hl
  unfold f_X7_clause at h
  refine lv_aload_n hx hb dX7_clause_0 rfl (lv_at hl 0 rfl) ?_
  refine va_get (D := D) (ci := 7) (v := .int (I 1)) (C := RX7) (T := TX7) (N := 38) hx hb hts in_X7_clause_X7 hown hK hP 0 rfl rfl 1 (by decide) (hts (.fieldLink RX7 66 "LearnedReasonsModel" "things" "I") (by decide +kernel)) (fun _ h9 => h9) rfl dX7_clause_1 ?_
  refine lv_bipush (v := 60) hx hb dX7_clause_4 (by decide) ?_
  refine lv_icmp_ne (tgt := 12) hx hb dX7_clause_6 (by decide) (fun c_1 => ?_) (fun c_1 => ?_)
  · have h := if_f c_1 h
    refine lv_aload_n hx hb dX7_clause_12 rfl (lv_at hl 0 rfl) ?_
    refine va_get (D := D) (ci := 7) (v := .ref (q 1)) (C := RX7) (T := TX7) (N := 38) hx hb hts in_X7_clause_X7 hown hK hP 0 rfl rfl 2 (by decide) (hts (.fieldLink RX7 7 "LearnedReasonsModel" "alive" "[Z") (by decide +kernel)) (fun _ h9 => h9) rfl dX7_clause_13 ?_
    refine lv_aload_n hx hb dX7_clause_16 rfl (lv_at hl 0 rfl) ?_
    refine va_get (D := D) (ci := 7) (v := .int (I 1)) (C := RX7) (T := TX7) (N := 38) hx hb hts in_X7_clause_X7 hown hK hP 0 rfl rfl 1 (by decide) (hts (.fieldLink RX7 66 "LearnedReasonsModel" "things" "I") (by decide +kernel)) (fun _ h9 => h9) rfl dX7_clause_17 ?_
    refine lv_iconst (v := 1) hx hb dX7_clause_20 (by decide) ?_
    obtain ⟨g_2, h⟩ := gd_some h
    refine va_zast hx hb hK hP (MUW_D hq) hS 1 2 rfl rfl g_2 dX7_clause_21 (fun H locs hP _ hS => ?_)
    have hP : va_P D vwCl (MUW cI cJ cZ q I J (fu a 0 (upd (a 0) (I 1).toNatClampNeg 1)) b) H := hP
    refine lv_aload_n hx hb dX7_clause_22 rfl (lv_at hl 0 rfl) ?_
    refine va_get (D := D) (ci := 7) (v := .ref (q 2)) (C := RX7) (T := TX7) (N := 38) hx hb hts in_X7_clause_X7 hown hK hP 0 rfl rfl 3 (by decide) (hts (.fieldLink RX7 13 "LearnedReasonsModel" "isRow" "[Z") (by decide +kernel)) (fun _ h9 => h9) rfl dX7_clause_23 ?_
    refine lv_aload_n hx hb dX7_clause_26 rfl (lv_at hl 0 rfl) ?_
    refine va_get (D := D) (ci := 7) (v := .int (I 1)) (C := RX7) (T := TX7) (N := 38) hx hb hts in_X7_clause_X7 hown hK hP 0 rfl rfl 1 (by decide) (hts (.fieldLink RX7 66 "LearnedReasonsModel" "things" "I") (by decide +kernel)) (fun _ h9 => h9) rfl dX7_clause_27 ?_
    refine lv_iconst (v := 0) hx hb dX7_clause_30 (by decide) ?_
    obtain ⟨g_3, h⟩ := gd_some h
    refine va_zast hx hb hK hP (MUW_D hq) hS 2 2 rfl rfl g_3 dX7_clause_31 (fun H locs hP _ hS => ?_)
    have hP : va_P D vwCl (MUW cI cJ cZ q I J (fu (fu a 0 (upd (a 0) (I 1).toNatClampNeg 1)) 1 (upd (a 1) (I 1).toNatClampNeg 0)) b) H := hP
    refine lv_aload_n hx hb dX7_clause_32 rfl (lv_at hl 0 rfl) ?_
    refine va_get (D := D) (ci := 7) (v := .ref (q 3)) (C := RX7) (T := TX7) (N := 38) hx hb hts in_X7_clause_X7 hown hK hP 0 rfl rfl 4 (by decide) (hts (.fieldLink RX7 16 "LearnedReasonsModel" "wants" "[I") (by decide +kernel)) (fun _ h9 => h9) rfl dX7_clause_33 ?_
    refine lv_aload_n hx hb dX7_clause_36 rfl (lv_at hl 0 rfl) ?_
    refine va_get (D := D) (ci := 7) (v := .int (I 1)) (C := RX7) (T := TX7) (N := 38) hx hb hts in_X7_clause_X7 hown hK hP 0 rfl rfl 1 (by decide) (hts (.fieldLink RX7 66 "LearnedReasonsModel" "things" "I") (by decide +kernel)) (fun _ h9 => h9) rfl dX7_clause_37 ?_
    refine lv_aload_n hx hb dX7_clause_40 rfl (lv_at hl 0 rfl) ?_
    refine va_get (D := D) (ci := 7) (v := .int (I 3)) (C := RX7) (T := TX7) (N := 38) hx hb hts in_X7_clause_X7 hown hK hP 0 rfl rfl 10 (by decide) (hts (.fieldLink RX7 154 "LearnedReasonsModel" "handYes" "I") (by decide +kernel)) (fun _ h9 => h9) rfl dX7_clause_41 ?_
    obtain ⟨g_4, h⟩ := gd_some h
    refine va_iast hx hb hK hP (MUW_D hq) hS 3 0 rfl rfl g_4 dX7_clause_44 (fun H locs hP _ hS => ?_)
    have hP : va_P D vwCl (MUW cI cJ cZ q I J (fu (fu (fu a 0 (upd (a 0) (I 1).toNatClampNeg 1)) 1 (upd (a 1) (I 1).toNatClampNeg 0)) 2 (upd (a 2) (I 1).toNatClampNeg (I 3))) b) H := hP
    refine lv_aload_n hx hb dX7_clause_45 rfl (lv_at hl 0 rfl) ?_
    refine va_get (D := D) (ci := 7) (v := .ref (q 4)) (C := RX7) (T := TX7) (N := 38) hx hb hts in_X7_clause_X7 hown hK hP 0 rfl rfl 5 (by decide) (hts (.fieldLink RX7 20 "LearnedReasonsModel" "wantsNot" "[I") (by decide +kernel)) (fun _ h9 => h9) rfl dX7_clause_46 ?_
    refine lv_aload_n hx hb dX7_clause_49 rfl (lv_at hl 0 rfl) ?_
    refine va_get (D := D) (ci := 7) (v := .int (I 1)) (C := RX7) (T := TX7) (N := 38) hx hb hts in_X7_clause_X7 hown hK hP 0 rfl rfl 1 (by decide) (hts (.fieldLink RX7 66 "LearnedReasonsModel" "things" "I") (by decide +kernel)) (fun _ h9 => h9) rfl dX7_clause_50 ?_
    refine lv_aload_n hx hb dX7_clause_53 rfl (lv_at hl 0 rfl) ?_
    refine va_get (D := D) (ci := 7) (v := .int (I 4)) (C := RX7) (T := TX7) (N := 38) hx hb hts in_X7_clause_X7 hown hK hP 0 rfl rfl 11 (by decide) (hts (.fieldLink RX7 157 "LearnedReasonsModel" "handNo" "I") (by decide +kernel)) (fun _ h9 => h9) rfl dX7_clause_54 ?_
    obtain ⟨g_5, h⟩ := gd_some h
    refine va_iast hx hb hK hP (MUW_D hq) hS 4 0 rfl rfl g_5 dX7_clause_57 (fun H locs hP _ hS => ?_)
    have hP : va_P D vwCl (MUW cI cJ cZ q I J (fu (fu (fu (fu a 0 (upd (a 0) (I 1).toNatClampNeg 1)) 1 (upd (a 1) (I 1).toNatClampNeg 0)) 2 (upd (a 2) (I 1).toNatClampNeg (I 3))) 3 (upd (a 3) (I 1).toNatClampNeg (I 4))) b) H := hP
    refine lv_aload_n hx hb dX7_clause_58 rfl (lv_at hl 0 rfl) ?_
    obtain ⟨x_6, hx_6, h⟩ := ob_some h
    refine va_callv (va_runV (As := []) (rest := []) ⟨hx, hb, hml, hown, hts⟩ (c_X7_emptyHand l D cI cJ cZ q hq F I J (fu (fu (fu (fu a 0 (upd (a 0) (I 1).toNatClampNeg 1)) 1 (upd (a 1) (I 1).toNatClampNeg 0)) 2 (upd (a 2) (I 1).toNatClampNeg (I 3))) 3 (upd (a 3) (I 1).toNatClampNeg (I 4))) b x_6 hx_6) (cwV 0 hts gX7_clause_X7_emptyHand rfl rfl rfl (by decide +kernel) (by rw [hR]; exact ⟨Nat.le_of_ble_eq_true rfl, Nat.le_of_ble_eq_true rfl⟩)) ⟨MUPc_blind, va_recv hK hP (ci := 7) (q0 := 0) rfl rfl, fun U hU hW => ⟨rfl, by rw [hU]; exact hP, va_K.moved hW.alike hK, trivial⟩⟩ rfl rfl hl.1 rfl (lv_room (Nat.le_of_ble_eq_true rfl)) dX7_clause_59 ⟨Nat.zero_le _, Nat.zero_le _⟩) hS (fun _ _ h => h) (fun _ h => h) (fun u t H1 locs ht hvm hw hB hz1 hk1 hS => ?_)
    obtain rfl := hw.symm
    rw [ht] at hB
    have hP : va_P D vwCl (MUW cI cJ cZ q (fu (fu (fu I 2 x_6.1) 3 x_6.2.1) 4 x_6.2.2) J (fu (fu (fu (fu a 0 (upd (a 0) (I 1).toNatClampNeg 1)) 1 (upd (a 1) (I 1).toNatClampNeg 0)) 2 (upd (a 2) (I 1).toNatClampNeg (I 3))) 3 (upd (a 3) (I 1).toNatClampNeg (I 4))) b) H1 := hB
    clear hB hz1 hk1 ht hvm
    generalize H1 = H at hP hS ⊢
    refine lv_aload_n hx hb dX7_clause_62 rfl (lv_at hl 0 rfl) ?_
    refine lv_dup hx hb dX7_clause_63 rfl ?_
    refine va_get (D := D) (ci := 7) (v := .int (I 1)) (C := RX7) (T := TX7) (N := 38) hx hb hts in_X7_clause_X7 hown hK hP 0 rfl rfl 1 (by decide) (hts (.fieldLink RX7 66 "LearnedReasonsModel" "things" "I") (by decide +kernel)) (fun _ h9 => h9) rfl dX7_clause_64 ?_
    refine lv_iconst (v := 1) hx hb dX7_clause_67 (by decide) ?_
    refine lv_iadd hx hb dX7_clause_68 ?_
    refine lv_topi (fun v_7 ev_7 => ?_)
    have h := nmI_at ev_7 h
    refine va_put (D := D) (ci := 7) (v := .int v_7) (ty := .int) (C := RX7) (T := TX7) (N := 38) hx hb hts in_X7_clause_X7 tyX7 tyX7_ok nmX7 hown hK hP (MUW_D hq) hS 0 rfl rfl 1 (by decide) (hts (.fieldLink RX7 66 "LearnedReasonsModel" "things" "I") (by decide +kernel)) (fun _ h9 => h9) rfl (by decide +kernel) rfl rfl (Nat.le_of_ble_eq_true rfl) dX7_clause_69 (fun H locs hP _ hS => ?_)
    have hP : va_P D vwCl (MUW cI cJ cZ q (fu (fu (fu (fu I 1 v_7) 2 x_6.1) 3 x_6.2.1) 4 x_6.2.2) J (fu (fu (fu (fu a 0 (upd (a 0) (I 1).toNatClampNeg 1)) 1 (upd (a 1) (I 1).toNatClampNeg 0)) 2 (upd (a 2) (I 1).toNatClampNeg (I 3))) 3 (upd (a 3) (I 1).toNatClampNeg (I 4))) b) H := hP
    refine lv_aload_n hx hb dX7_clause_72 rfl (lv_at hl 0 rfl) ?_
    obtain ⟨x_8, hx_8, h⟩ := ob_some h
    refine va_callv (va_runV (As := []) (rest := []) ⟨hx, hb, hml, hown, hts⟩ (c_X7_change l D cI cJ cZ q hq F (fu (fu (fu (fu I 1 v_7) 2 x_6.1) 3 x_6.2.1) 4 x_6.2.2) J (fu (fu (fu (fu a 0 (upd (a 0) (I 1).toNatClampNeg 1)) 1 (upd (a 1) (I 1).toNatClampNeg 0)) 2 (upd (a 2) (I 1).toNatClampNeg (I 3))) 3 (upd (a 3) (I 1).toNatClampNeg (I 4))) b x_8 hx_8) (cwV 0 hts gX7_clause_X7_change rfl rfl rfl (by decide +kernel) (by rw [hR]; exact ⟨Nat.le_of_ble_eq_true rfl, Nat.le_of_ble_eq_true rfl⟩)) ⟨MUPc_blind, va_recv hK hP (ci := 7) (q0 := 0) rfl rfl, fun U hU hW => ⟨rfl, by rw [hU]; exact hP, va_K.moved hW.alike hK, trivial⟩⟩ rfl rfl hl.1 rfl (lv_room (Nat.le_of_ble_eq_true rfl)) dX7_clause_73 ⟨Nat.zero_le _, Nat.zero_le _⟩) hS (fun _ _ h => h) (fun _ h => h) (fun u t H1 locs ht hvm hw hB hz1 hk1 hS => ?_)
    obtain rfl := hw.symm
    rw [ht] at hB
    have hP : va_P D vwCl (MUW cI cJ cZ q (fu (fu (fu (fu (fu (fu (fu I 1 v_7) 2 x_6.1) 3 x_6.2.1) 4 x_6.2.2) 7 x_8.1) 8 x_8.2.1) 9 x_8.2.2) J (fu (fu (fu (fu a 0 (upd (a 0) (I 1).toNatClampNeg 1)) 1 (upd (a 1) (I 1).toNatClampNeg 0)) 2 (upd (a 2) (I 1).toNatClampNeg (I 3))) 3 (upd (a 3) (I 1).toNatClampNeg (I 4))) b) H1 := hB
    clear hB hz1 hk1 ht hvm
    generalize H1 = H at hP hS ⊢
    refine lv_aload_n hx hb dX7_clause_76 rfl (lv_at hl 0 rfl) ?_
    refine va_get (D := D) (ci := 7) (v := .int v_7) (C := RX7) (T := TX7) (N := 38) hx hb hts in_X7_clause_X7 hown hK hP 0 rfl rfl 1 (by decide) (hts (.fieldLink RX7 66 "LearnedReasonsModel" "things" "I") (by decide +kernel)) (fun _ h9 => h9) rfl dX7_clause_77 ?_
    refine lv_iconst (v := 1) hx hb dX7_clause_80 (by decide) ?_
    refine lv_isub hx hb dX7_clause_81 ?_
    have hx0 := Option.some.inj h
    rw [hQ]
    exact W.iret (v := v_7 - 1) hx hb hr (fun t ht hW => ⟨⟨(v_7 - 1), (v_7, x_6.1, x_6.2.1, x_6.2.2, x_8.1, x_8.2.1, x_8.2.2, (upd (a 0) (I 1).toNatClampNeg 1), (upd (a 1) (I 1).toNatClampNeg 0), (upd (a 2) (I 1).toNatClampNeg (I 3)), (upd (a 3) (I 1).toNatClampNeg (I 4))), rfl, ⟨congrArg (fun z => z.1) hx0, congrArg (fun z => z.2) hx0⟩, by show va_P _ _ _ t.heap; rw [ht]; exact hP⟩, hS.F ht⟩) hS.2.2 dX7_clause_82
  · have h := if_t c_1 h
    refine lv_bipush (v := (-4)) hx hb dX7_clause_9 (by decide) ?_
    have hx0 := Option.some.inj h
    rw [hQ]
    exact W.iret (v := (-4)) hx hb hr (fun t ht hW => ⟨⟨(-4), ((I 1), (I 2), (I 3), (I 4), (I 7), (I 8), (I 9), (a 0), (a 1), (a 2), (a 3)), rfl, ⟨congrArg (fun z => z.1) hx0, congrArg (fun z => z.2) hx0⟩, by show va_P _ _ _ t.heap; rw [ht]; exact hP⟩, hS.F ht⟩) hS.2.2 dX7_clause_11
theorem in_X7_row_X7 : ∀ w ∈ wsX70, w ∈ wsX7_row := by decide +kernel
set_option maxHeartbeats 4000000 in
set_option maxRecDepth 100000 in
theorem c_X7_row (l : Launch) (D : va_G) (cI cJ cZ : ClassId) (q : Nat → Nat) (hq : MUQ q) (F : Nat) (I : Nat → Int32) (J : Nat → Int64) (a : Nat → Nat → Int32) (b : Nat → Nat → Int64) (v1 : Int32) (x0 : Int32 × Int32 × Int32 × Int32 × Int32 × (Nat → Int32) × (Nat → Int32) × (Nat → Int32) × (Nat → Int32)) (h : f_X7_row F I J a b v1 = some x0) : Met l yX7_row wsX7_row ({ frames := 1, cells := 0, slots := 0, locals := 20 }) (MUPc D cI cJ cZ q I J a b [.ref (q 0), .int v1]) (va_Qi (fun (r : Int32) (u : Int32 × Int32 × Int32 × Int32 × (Nat → Int32) × (Nat → Int32) × (Nat → Int32) × (Nat → Int32)) => r = x0.1 ∧ u = x0.2) (fun (u : Int32 × Int32 × Int32 × Int32 × (Nat → Int32) × (Nat → Int32) × (Nat → Int32) × (Nat → Int32)) t => va_P D vwCl (MUW cI cJ cZ q (fu (fu (fu (fu I 1 u.1) 7 u.2.1) 8 u.2.2.1) 9 u.2.2.2.1) J (fu (fu (fu (fu a 0 u.2.2.2.2.1) 1 u.2.2.2.2.2.1) 4 u.2.2.2.2.2.2.1) 5 u.2.2.2.2.2.2.2) b) t.heap) (MUA q)) 0 0 (MUA q) := by
  refine mt_of (cc := cX7_row) (maxL := 3) (ret := (some .int)) (by decide) rfl ?_
  intro p e s m args below meth c s₁ B0 hml hv R Q hR hQ
  obtain ⟨hargs, hP, hK, hN⟩ := hv
  have hx := B0.exec
  have hb := B0.bytes
  have hr := B0.returns
  have hts := atoms_spec (ws := wsX7_row) B0.pre
  have hown : s.vm.findClass RX7 = some m.cls := findClass_of_methodNamed B0.named
  have hlocks := B0.notSynchronized
  have hS : va_S (MUA q) s.heap s.heap [] := va_S.rf
  have hl := lv_entry ([.ref (q 0), .int v1]) (n := 3) (Nat.le_of_ble_eq_true rfl)
  rw [hargs, lg_entry_eq]
  rw [← hargs]
  generalize (lg_sl ([.ref (q 0), .int v1]) ++ List.replicate (3 - (lg_sl ([.ref (q 0), .int v1])).length) Slot.unset).toArray = ls at hl ⊢
  have hl : lv_has ls 3 [(0, .ref (q 0)), (1, .int v1)] := hl
  unfold f_X7_row at h
  have C61 : ∀ (n61 : Nat) (v2 : Int32) (a0 : Nat → Int32) (a1 : Nat → Int32) (a4 : Nat → Int32) (a5 : Nat → Int32), k_X7_row_61 F I J a b n61 v2 a0 a1 a4 a5 = some x0 → ∀ (H : Heap) (locs : List Loc), va_P D vwCl (MUW cI cJ cZ q I J (fu (fu (fu (fu a 0 a0) 1 a1) 4 a4) 5 a5) b) H → va_S (MUA q) s.heap H locs → ∀ ls : Array Slot, lv_has ls 3 [(0, .ref (q 0)), (2, .int v2)] → W p l e R s m args below meth c H locs 0 0 Q (F0 m 61 ls []) := by
    intro n61
    induction n61 with
    | zero => intro v2 a0 a1 a4 a5 h; rw [k_X7_row_61] at h; cases h
    | succ n61 ih61 =>
      intro v2 a0 a1 a4 a5 h H locs hP hS ls hl
      rw [k_X7_row_61] at h
      refine lv_iload_n hx hb dX7_row_61 rfl (lv_at hl 1 rfl) ?_
      refine lv_bipush (v := 14) hx hb dX7_row_62 (by decide) ?_
      refine lv_icmp_ge (tgt := 88) hx hb dX7_row_64 (by decide) (fun c_1 => ?_) (fun c_1 => ?_)
      · have h := if_t c_1 h
        refine lv_aload_n hx hb dX7_row_88 rfl (lv_at hl 0 rfl) ?_
        refine lv_dup hx hb dX7_row_89 rfl ?_
        refine va_get (D := D) (ci := 7) (v := .int (I 1)) (C := RX7) (T := TX7) (N := 38) hx hb hts in_X7_row_X7 hown hK hP 0 rfl rfl 1 (by decide) (hts (.fieldLink RX7 66 "LearnedReasonsModel" "things" "I") (by decide +kernel)) (fun _ h9 => h9) rfl dX7_row_90 ?_
        refine lv_iconst (v := 1) hx hb dX7_row_93 (by decide) ?_
        refine lv_iadd hx hb dX7_row_94 ?_
        refine lv_topi (fun v_2 ev_2 => ?_)
        have h := nmI_at ev_2 h
        refine va_put (D := D) (ci := 7) (v := .int v_2) (ty := .int) (C := RX7) (T := TX7) (N := 38) hx hb hts in_X7_row_X7 tyX7 tyX7_ok nmX7 hown hK hP (MUW_D hq) hS 0 rfl rfl 1 (by decide) (hts (.fieldLink RX7 66 "LearnedReasonsModel" "things" "I") (by decide +kernel)) (fun _ h9 => h9) rfl (by decide +kernel) rfl rfl (Nat.le_of_ble_eq_true rfl) dX7_row_95 (fun H locs hP _ hS => ?_)
        have hP : va_P D vwCl (MUW cI cJ cZ q (fu I 1 v_2) J (fu (fu (fu (fu a 0 a0) 1 a1) 4 a4) 5 a5) b) H := hP
        refine lv_aload_n hx hb dX7_row_98 rfl (lv_at hl 0 rfl) ?_
        obtain ⟨x_3, hx_3, h⟩ := ob_some h
        refine va_callv (va_runV (As := []) (rest := []) ⟨hx, hb, hml, hown, hts⟩ (c_X7_change l D cI cJ cZ q hq F (fu I 1 v_2) J (fu (fu (fu (fu a 0 a0) 1 a1) 4 a4) 5 a5) b x_3 hx_3) (cwV 0 hts gX7_row_X7_change rfl rfl rfl (by decide +kernel) (by rw [hR]; exact ⟨Nat.le_of_ble_eq_true rfl, Nat.le_of_ble_eq_true rfl⟩)) ⟨MUPc_blind, va_recv hK hP (ci := 7) (q0 := 0) rfl rfl, fun U hU hW => ⟨rfl, by rw [hU]; exact hP, va_K.moved hW.alike hK, trivial⟩⟩ rfl rfl hl.1 rfl (lv_room (Nat.le_of_ble_eq_true rfl)) dX7_row_99 ⟨Nat.zero_le _, Nat.zero_le _⟩) hS (fun _ _ h => h) (fun _ h => h) (fun u t H1 locs ht hvm hw hB hz1 hk1 hS => ?_)
        obtain rfl := hw.symm
        rw [ht] at hB
        have hP : va_P D vwCl (MUW cI cJ cZ q (fu (fu (fu (fu I 1 v_2) 7 x_3.1) 8 x_3.2.1) 9 x_3.2.2) J (fu (fu (fu (fu a 0 a0) 1 a1) 4 a4) 5 a5) b) H1 := hB
        clear hB hz1 hk1 ht hvm
        generalize H1 = H at hP hS ⊢
        refine lv_aload_n hx hb dX7_row_102 rfl (lv_at hl 0 rfl) ?_
        refine va_get (D := D) (ci := 7) (v := .int v_2) (C := RX7) (T := TX7) (N := 38) hx hb hts in_X7_row_X7 hown hK hP 0 rfl rfl 1 (by decide) (hts (.fieldLink RX7 66 "LearnedReasonsModel" "things" "I") (by decide +kernel)) (fun _ h9 => h9) rfl dX7_row_103 ?_
        refine lv_iconst (v := 1) hx hb dX7_row_106 (by decide) ?_
        refine lv_isub hx hb dX7_row_107 ?_
        have hx0 := Option.some.inj h
        rw [hQ]
        exact W.iret (v := v_2 - 1) hx hb hr (fun t ht hW => ⟨⟨(v_2 - 1), (v_2, x_3.1, x_3.2.1, x_3.2.2, a0, a1, a4, a5), rfl, ⟨congrArg (fun z => z.1) hx0, congrArg (fun z => z.2) hx0⟩, by show va_P _ _ _ t.heap; rw [ht]; exact hP⟩, hS.F ht⟩) hS.2.2 dX7_row_108
      · have h := if_f c_1 h
        refine lv_aload_n hx hb dX7_row_67 rfl (lv_at hl 0 rfl) ?_
        refine va_get (D := D) (ci := 7) (v := .ref (q 6)) (C := RX7) (T := TX7) (N := 38) hx hb hts in_X7_row_X7 hown hK hP 0 rfl rfl 7 (by decide) (hts (.fieldLink RX7 26 "LearnedReasonsModel" "weights" "[I") (by decide +kernel)) (fun _ h9 => h9) rfl dX7_row_68 ?_
        refine lv_bipush (v := 14) hx hb dX7_row_71 (by decide) ?_
        refine lv_aload_n hx hb dX7_row_73 rfl (lv_at hl 0 rfl) ?_
        refine va_get (D := D) (ci := 7) (v := .int (I 1)) (C := RX7) (T := TX7) (N := 38) hx hb hts in_X7_row_X7 hown hK hP 0 rfl rfl 1 (by decide) (hts (.fieldLink RX7 66 "LearnedReasonsModel" "things" "I") (by decide +kernel)) (fun _ h9 => h9) rfl dX7_row_74 ?_
        refine lv_imul hx hb dX7_row_77 ?_
        refine lv_iload_n hx hb dX7_row_78 rfl (lv_at hl 1 rfl) ?_
        refine lv_iadd hx hb dX7_row_79 ?_
        refine lv_iconst (v := 0) hx hb dX7_row_80 (by decide) ?_
        obtain ⟨g_4, h⟩ := gd_some h
        refine va_iast hx hb hK hP (MUW_D hq) hS 6 0 rfl rfl g_4 dX7_row_81 (fun H locs hP _ hS => ?_)
        have hP : va_P D vwCl (MUW cI cJ cZ q I J (fu (fu (fu (fu a 0 a0) 1 a1) 4 a4) 5 (upd a5 (((14 : Int32) * (I 1)) + v2).toNatClampNeg 0)) b) H := hP
        refine lv_iinc (v := v2 + 1) (lv' := [(2, .int (v2 + 1)), (0, .ref (q 0))]) hx hb dX7_row_82 hl (k := 1) rfl rfl (by decide) rfl (fun ls hl => ?_)
        refine lv_goto (tgt := 61) hx hb dX7_row_85 (by decide) ?_
        exact ih61 (v2 + 1) a0 a1 a4 (upd a5 (((14 : Int32) * (I 1)) + v2).toNatClampNeg 0) h _ _ hP hS ls (lv_sub hl [1, 0] rfl)
  refine lv_iload_n hx hb dX7_row_0 rfl (lv_at hl 1 rfl) ?_
  refine lv_sipush (v := (-200)) hx hb dX7_row_1 (by decide) ?_
  refine lv_icmp_lt (tgt := 14) hx hb dX7_row_4 (by decide) (fun c_5 => ?_) (fun c_5 => ?_)
  · have h := if_t c_5 h
    refine lv_bipush (v := (-2)) hx hb dX7_row_14 (by decide) ?_
    have hx0 := Option.some.inj h
    rw [hQ]
    exact W.iret (v := (-2)) hx hb hr (fun t ht hW => ⟨⟨(-2), ((I 1), (I 7), (I 8), (I 9), (a 0), (a 1), (a 4), (a 5)), rfl, ⟨congrArg (fun z => z.1) hx0, congrArg (fun z => z.2) hx0⟩, by show va_P _ _ _ t.heap; rw [ht]; exact hP⟩, hS.F ht⟩) hS.2.2 dX7_row_16
  · have h := if_f c_5 h
    refine lv_iload_n hx hb dX7_row_7 rfl (lv_at hl 1 rfl) ?_
    refine lv_sipush (v := 200) hx hb dX7_row_8 (by decide) ?_
    refine lv_icmp_le (tgt := 17) hx hb dX7_row_11 (by decide) (fun c_6 => ?_) (fun c_6 => ?_)
    · have h := if_t c_6 h
      refine lv_aload_n hx hb dX7_row_17 rfl (lv_at hl 0 rfl) ?_
      refine va_get (D := D) (ci := 7) (v := .int (I 1)) (C := RX7) (T := TX7) (N := 38) hx hb hts in_X7_row_X7 hown hK hP 0 rfl rfl 1 (by decide) (hts (.fieldLink RX7 66 "LearnedReasonsModel" "things" "I") (by decide +kernel)) (fun _ h9 => h9) rfl dX7_row_18 ?_
      refine lv_bipush (v := 60) hx hb dX7_row_21 (by decide) ?_
      refine lv_icmp_ne (tgt := 29) hx hb dX7_row_23 (by decide) (fun c_7 => ?_) (fun c_7 => ?_)
      · have h := if_f c_7 h
        refine lv_aload_n hx hb dX7_row_29 rfl (lv_at hl 0 rfl) ?_
        refine va_get (D := D) (ci := 7) (v := .ref (q 1)) (C := RX7) (T := TX7) (N := 38) hx hb hts in_X7_row_X7 hown hK hP 0 rfl rfl 2 (by decide) (hts (.fieldLink RX7 7 "LearnedReasonsModel" "alive" "[Z") (by decide +kernel)) (fun _ h9 => h9) rfl dX7_row_30 ?_
        refine lv_aload_n hx hb dX7_row_33 rfl (lv_at hl 0 rfl) ?_
        refine va_get (D := D) (ci := 7) (v := .int (I 1)) (C := RX7) (T := TX7) (N := 38) hx hb hts in_X7_row_X7 hown hK hP 0 rfl rfl 1 (by decide) (hts (.fieldLink RX7 66 "LearnedReasonsModel" "things" "I") (by decide +kernel)) (fun _ h9 => h9) rfl dX7_row_34 ?_
        refine lv_iconst (v := 1) hx hb dX7_row_37 (by decide) ?_
        obtain ⟨g_8, h⟩ := gd_some h
        refine va_zast hx hb hK hP (MUW_D hq) hS 1 2 rfl rfl g_8 dX7_row_38 (fun H locs hP _ hS => ?_)
        have hP : va_P D vwCl (MUW cI cJ cZ q I J (fu a 0 (upd (a 0) (I 1).toNatClampNeg 1)) b) H := hP
        refine lv_aload_n hx hb dX7_row_39 rfl (lv_at hl 0 rfl) ?_
        refine va_get (D := D) (ci := 7) (v := .ref (q 2)) (C := RX7) (T := TX7) (N := 38) hx hb hts in_X7_row_X7 hown hK hP 0 rfl rfl 3 (by decide) (hts (.fieldLink RX7 13 "LearnedReasonsModel" "isRow" "[Z") (by decide +kernel)) (fun _ h9 => h9) rfl dX7_row_40 ?_
        refine lv_aload_n hx hb dX7_row_43 rfl (lv_at hl 0 rfl) ?_
        refine va_get (D := D) (ci := 7) (v := .int (I 1)) (C := RX7) (T := TX7) (N := 38) hx hb hts in_X7_row_X7 hown hK hP 0 rfl rfl 1 (by decide) (hts (.fieldLink RX7 66 "LearnedReasonsModel" "things" "I") (by decide +kernel)) (fun _ h9 => h9) rfl dX7_row_44 ?_
        refine lv_iconst (v := 1) hx hb dX7_row_47 (by decide) ?_
        obtain ⟨g_9, h⟩ := gd_some h
        refine va_zast hx hb hK hP (MUW_D hq) hS 2 2 rfl rfl g_9 dX7_row_48 (fun H locs hP _ hS => ?_)
        have hP : va_P D vwCl (MUW cI cJ cZ q I J (fu (fu a 0 (upd (a 0) (I 1).toNatClampNeg 1)) 1 (upd (a 1) (I 1).toNatClampNeg 1)) b) H := hP
        refine lv_aload_n hx hb dX7_row_49 rfl (lv_at hl 0 rfl) ?_
        refine va_get (D := D) (ci := 7) (v := .ref (q 5)) (C := RX7) (T := TX7) (N := 38) hx hb hts in_X7_row_X7 hown hK hP 0 rfl rfl 6 (by decide) (hts (.fieldLink RX7 23 "LearnedReasonsModel" "bounds" "[I") (by decide +kernel)) (fun _ h9 => h9) rfl dX7_row_50 ?_
        refine lv_aload_n hx hb dX7_row_53 rfl (lv_at hl 0 rfl) ?_
        refine va_get (D := D) (ci := 7) (v := .int (I 1)) (C := RX7) (T := TX7) (N := 38) hx hb hts in_X7_row_X7 hown hK hP 0 rfl rfl 1 (by decide) (hts (.fieldLink RX7 66 "LearnedReasonsModel" "things" "I") (by decide +kernel)) (fun _ h9 => h9) rfl dX7_row_54 ?_
        refine lv_iload_n hx hb dX7_row_57 rfl (lv_at hl 1 rfl) ?_
        obtain ⟨g_10, h⟩ := gd_some h
        refine va_iast hx hb hK hP (MUW_D hq) hS 5 0 rfl rfl g_10 dX7_row_58 (fun H locs hP _ hS => ?_)
        have hP : va_P D vwCl (MUW cI cJ cZ q I J (fu (fu (fu a 0 (upd (a 0) (I 1).toNatClampNeg 1)) 1 (upd (a 1) (I 1).toNatClampNeg 1)) 4 (upd (a 4) (I 1).toNatClampNeg v1)) b) H := hP
        refine lv_iconst (v := 0) hx hb dX7_row_59 (by decide) ?_
        refine lv_istore_n (lv' := [(2, .int 0), (0, .ref (q 0)), (1, .int v1)]) hx hb dX7_row_60 rfl hl (by decide) rfl (fun ls hl => ?_)
        exact C61 F 0 (upd (a 0) (I 1).toNatClampNeg 1) (upd (a 1) (I 1).toNatClampNeg 1) (upd (a 4) (I 1).toNatClampNeg v1) (a 5) h _ _ hP hS ls (lv_sub hl [1, 0] rfl)
      · have h := if_t c_7 h
        refine lv_bipush (v := (-4)) hx hb dX7_row_26 (by decide) ?_
        have hx0 := Option.some.inj h
        rw [hQ]
        exact W.iret (v := (-4)) hx hb hr (fun t ht hW => ⟨⟨(-4), ((I 1), (I 7), (I 8), (I 9), (a 0), (a 1), (a 4), (a 5)), rfl, ⟨congrArg (fun z => z.1) hx0, congrArg (fun z => z.2) hx0⟩, by show va_P _ _ _ t.heap; rw [ht]; exact hP⟩, hS.F ht⟩) hS.2.2 dX7_row_28
    · have h := if_f c_6 h
      refine lv_bipush (v := (-2)) hx hb dX7_row_14 (by decide) ?_
      have hx0 := Option.some.inj h
      rw [hQ]
      exact W.iret (v := (-2)) hx hb hr (fun t ht hW => ⟨⟨(-2), ((I 1), (I 7), (I 8), (I 9), (a 0), (a 1), (a 4), (a 5)), rfl, ⟨congrArg (fun z => z.1) hx0, congrArg (fun z => z.2) hx0⟩, by show va_P _ _ _ t.heap; rw [ht]; exact hP⟩, hS.F ht⟩) hS.2.2 dX7_row_16
theorem in_X7_isName_X7 : ∀ w ∈ wsX70, w ∈ wsX7_isName := by decide +kernel
set_option maxHeartbeats 4000000 in
set_option maxRecDepth 100000 in
theorem c_X7_isName (l : Launch) (D : va_G) (cI cJ cZ : ClassId) (q : Nat → Nat) (hq : MUQ q) (F : Nat) (I : Nat → Int32) (J : Nat → Int64) (a : Nat → Nat → Int32) (b : Nat → Nat → Int64) (v1 : Int32) (x0 : Int32) (h : f_X7_isName F I J a b v1 = some x0) : Met l yX7_isName wsX7_isName ({ frames := 0, cells := 0, slots := 0, locals := 0 }) (MUPc D cI cJ cZ q I J a b [.ref (q 0), .int v1]) (va_Qi (fun (r : Int32) (u : Unit) => r = x0) (fun (u : Unit) t => va_P D vwCl (MUW cI cJ cZ q I J a b) t.heap) (MUA q)) 0 0 (MUA q) := by
  refine mt_of (cc := cX7_isName) (maxL := 2) (ret := (some .boolean)) (by decide) rfl ?_
  intro p e s m args below meth c s₁ B0 hml hv R Q hR hQ
  obtain ⟨hargs, hP, hK, hN⟩ := hv
  have hx := B0.exec
  have hb := B0.bytes
  have hr := B0.returns
  have hts := atoms_spec (ws := wsX7_isName) B0.pre
  have hown : s.vm.findClass RX7 = some m.cls := findClass_of_methodNamed B0.named
  have hlocks := B0.notSynchronized
  have hS : va_S (MUA q) s.heap s.heap [] := va_S.rf
  have hl := lv_entry ([.ref (q 0), .int v1]) (n := 2) (Nat.le_of_ble_eq_true rfl)
  rw [hargs, lg_entry_eq]
  rw [← hargs]
  generalize (lg_sl ([.ref (q 0), .int v1]) ++ List.replicate (2 - (lg_sl ([.ref (q 0), .int v1])).length) Slot.unset).toArray = ls at hl ⊢
  have hl : lv_has ls 2 [(0, .ref (q 0)), (1, .int v1)] := hl
  unfold f_X7_isName at h
  refine lv_iload_n hx hb dX7_isName_0 rfl (lv_at hl 1 rfl) ?_
  refine lv_if_lt (tgt := 16) hx hb dX7_isName_1 (by decide) (fun c_1 => ?_) (fun c_1 => ?_)
  · have h := if_t c_1 h
    refine lv_iconst (v := 0) hx hb dX7_isName_16 (by decide) ?_
    have hx0 := Option.some.inj h
    rw [hQ]
    exact W.zret (v := 0) hx hb hr (rfl) (fun t ht hW => ⟨⟨0, (), rfl, hx0, by show va_P _ _ _ t.heap; rw [ht]; exact hP⟩, hS.F ht⟩) hS.2.2 dX7_isName_17
  · have h := if_f c_1 h
    refine lv_iload_n hx hb dX7_isName_4 rfl (lv_at hl 1 rfl) ?_
    refine lv_aload_n hx hb dX7_isName_5 rfl (lv_at hl 0 rfl) ?_
    refine va_get (D := D) (ci := 7) (v := .int (I 0)) (C := RX7) (T := TX7) (N := 38) hx hb hts in_X7_isName_X7 hown hK hP 0 rfl rfl 0 (by decide) (hts (.fieldLink RX7 63 "LearnedReasonsModel" "names" "I") (by decide +kernel)) (fun _ h9 => h9) rfl dX7_isName_6 ?_
    refine lv_icmp_ge (tgt := 16) hx hb dX7_isName_9 (by decide) (fun c_2 => ?_) (fun c_2 => ?_)
    · have h := if_t c_2 h
      refine lv_iconst (v := 0) hx hb dX7_isName_16 (by decide) ?_
      have hx0 := Option.some.inj h
      rw [hQ]
      exact W.zret (v := 0) hx hb hr (rfl) (fun t ht hW => ⟨⟨0, (), rfl, hx0, by show va_P _ _ _ t.heap; rw [ht]; exact hP⟩, hS.F ht⟩) hS.2.2 dX7_isName_17
    · have h := if_f c_2 h
      refine lv_iconst (v := 1) hx hb dX7_isName_12 (by decide) ?_
      refine lv_goto (tgt := 17) hx hb dX7_isName_13 (by decide) ?_
      have hx0 := Option.some.inj h
      rw [hQ]
      exact W.zret (v := 1) hx hb hr (rfl) (fun t ht hW => ⟨⟨1, (), rfl, hx0, by show va_P _ _ _ t.heap; rw [ht]; exact hP⟩, hS.F ht⟩) hS.2.2 dX7_isName_17
