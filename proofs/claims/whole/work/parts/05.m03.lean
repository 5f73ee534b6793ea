theorem in_X7_lemma_X7 : ∀ w ∈ wsX70, w ∈ wsX7_lemma := by decide +kernel
set_option maxHeartbeats 4000000 in
set_option maxRecDepth 100000 in
theorem c_X7_lemma (l : Launch) (D : va_G) (cI cJ cZ : ClassId) (q : Nat → Nat) (hq : MUQ q) (F : Nat) (I : Nat → Int32) (J : Nat → Int64) (a : Nat → Nat → Int32) (b : Nat → Nat → Int64) (x0 : Int32 × Int32 × Int32 × Int32 × Int32 × Int32 × Int32 × Int32 × (Nat → Int32) × (Nat → Int32)) (h : f_X7_lemma F I J a b = some x0) : Met l yX7_lemma wsX7_lemma ({ frames := 3, cells := 0, slots := 0, locals := 73 }) (MUPc D cI cJ cZ q I J a b [.ref (q 0)]) (va_Qi (fun (r : Int32) (u : Int32 × Int32 × Int32 × Int32 × Int32 × Int32 × Int32 × (Nat → Int32) × (Nat → Int32)) => r = x0.1 ∧ u = x0.2) (fun (u : Int32 × Int32 × Int32 × Int32 × Int32 × Int32 × Int32 × (Nat → Int32) × (Nat → Int32)) t => va_P D vwCl (MUW cI cJ cZ q (fu (fu (fu (fu (fu (fu (fu I 2 u.1) 3 u.2.1) 4 u.2.2.1) 7 u.2.2.2.1) 10 u.2.2.2.2.1) 11 u.2.2.2.2.2.1) 12 u.2.2.2.2.2.2.1) J (fu (fu a 7 u.2.2.2.2.2.2.2.1) 8 u.2.2.2.2.2.2.2.2) b) t.heap) (MUA q)) 0 0 (MUA q) := by
  refine mt_of (cc := cX7_lemma) (maxL := 2) (ret := (some .int)) (by decide) rfl ?_
  intro p e s m args below meth c s₁ B0 hml hv R Q hR hQ
  obtain ⟨hargs, hP, hK, hN⟩ := hv
  have hx := B0.exec
  have hb := B0.bytes
  have hr := B0.returns
  have hts := atoms_spec (ws := wsX7_lemma) B0.pre
  have hown : s.vm.findClass RX7 = some m.cls := findClass_of_methodNamed B0.named
  have hlocks := B0.notSynchronized
  have hS : va_S (MUA q) s.heap s.heap [] := va_S.rf
  have hl := lv_entry ([.ref (q 0)]) (n := 2) (Nat.le_of_ble_eq_true rfl)
  rw [hargs, lg_entry_eq]
  rw [← hargs]
  generalize (lg_sl ([.ref (q 0)]) ++ List.replicate (2 - (lg_sl ([.ref (q 0)])).length) Slot.unset).toArray = ls at hl ⊢
  have hl : lv_has ls 2 [(0, .ref (q 0))] := hl
  unfold f_X7_lemma at h
  refine lv_aload_n hx hb dX7_lemma_0 rfl (lv_at hl 0 rfl) ?_
  refine va_get (D := D) (ci := 7) (v := .int (I 7)) (C := RX7) (T := TX7) (N := 38) hx hb hts in_X7_lemma_X7 hown hK hP 0 rfl rfl 14 (by decide) (hts (.fieldLink RX7 80 "LearnedReasonsModel" "lemmaCount" "I") (by decide +kernel)) (fun _ h9 => h9) rfl dX7_lemma_1 ?_
  refine lv_bipush (v := 40) hx hb dX7_lemma_4 (by decide) ?_
  refine lv_icmp_ne (tgt := 12) hx hb dX7_lemma_6 (by decide) (fun c_1 => ?_) (fun c_1 => ?_)
  · have h := if_f c_1 h
    refine lv_aload_n hx hb dX7_lemma_12 rfl (lv_at hl 0 rfl) ?_
    refine lv_aload_n hx hb dX7_lemma_13 rfl (lv_at hl 0 rfl) ?_
    refine va_get (D := D) (ci := 7) (v := .int (I 4)) (C := RX7) (T := TX7) (N := 38) hx hb hts in_X7_lemma_X7 hown hK hP 0 rfl rfl 11 (by decide) (hts (.fieldLink RX7 157 "LearnedReasonsModel" "handNo" "I") (by decide +kernel)) (fun _ h9 => h9) rfl dX7_lemma_14 ?_
    refine lv_aload_n hx hb dX7_lemma_17 rfl (lv_at hl 0 rfl) ?_
    refine va_get (D := D) (ci := 7) (v := .int (I 3)) (C := RX7) (T := TX7) (N := 38) hx hb hts in_X7_lemma_X7 hown hK hP 0 rfl rfl 10 (by decide) (hts (.fieldLink RX7 154 "LearnedReasonsModel" "handYes" "I") (by decide +kernel)) (fun _ h9 => h9) rfl dX7_lemma_18 ?_
    refine lv_iconst (v := 2) hx hb dX7_lemma_21 (by decide) ?_
    obtain ⟨x_2, hx_2, h⟩ := ob_some h
    refine va_calli (va_runV (As := [.int (I 4), .int (I 3), .int 2]) (rest := []) ⟨hx, hb, hml, hown, hts⟩ (c_X7_conflicts l D cI cJ cZ q hq F I J a b (I 4) (I 3) 2 x_2 hx_2) (cwV 3 hts gX7_lemma_X7_conflicts rfl rfl rfl (by decide +kernel) (by rw [hR]; exact ⟨Nat.le_of_ble_eq_true rfl, Nat.le_of_ble_eq_true rfl⟩)) ⟨MUPc_blind, va_recv hK hP (ci := 7) (q0 := 0) rfl rfl, fun U hU hW => ⟨rfl, by rw [hU]; exact hP, va_K.moved hW.alike hK, trivial⟩⟩ rfl rfl hl.1 rfl (lv_room (Nat.le_of_ble_eq_true rfl)) dX7_lemma_22 ⟨Nat.zero_le _, Nat.zero_le _⟩) hS (fun _ _ h => h) (fun _ h => h) (fun r u t H1 locs ht hvm hw hB hz1 hk1 hS => ?_)
    obtain ⟨rfl, rfl⟩ := hw
    rw [ht] at hB
    have hP : va_P D vwCl (MUW cI cJ cZ q (fu (fu (fu I 10 x_2.2.1) 11 x_2.2.2.1) 12 x_2.2.2.2) J a b) H1 := hB
    clear hB hz1 hk1 ht hvm
    generalize H1 = H at hP hS ⊢
    refine lv_istore_n (lv' := [(1, .int x_2.1), (0, .ref (q 0))]) hx hb dX7_lemma_25 rfl hl (by decide) rfl (fun ls hl => ?_)
    refine lv_iload_n hx hb dX7_lemma_26 rfl (lv_at hl 0 rfl) ?_
    refine lv_if_eq (tgt := 66) hx hb dX7_lemma_27 (by decide) (fun c_3 => ?_) (fun c_3 => ?_)
    · have h := if_t c_3 h
      refine lv_aload_n hx hb dX7_lemma_66 rfl (lv_at hl 1 rfl) ?_
      obtain ⟨x_4, hx_4, h⟩ := ob_some h
      refine va_callv (va_runV (As := []) (rest := []) ⟨hx, hb, hml, hown, hts⟩ (c_X7_emptyHand l D cI cJ cZ q hq F (fu (fu (fu I 10 x_2.2.1) 11 x_2.2.2.1) 12 x_2.2.2.2) J a b x_4 hx_4) (cwV 0 hts gX7_lemma_X7_emptyHand rfl rfl rfl (by decide +kernel) (by rw [hR]; exact ⟨Nat.le_of_ble_eq_true rfl, Nat.le_of_ble_eq_true rfl⟩)) ⟨MUPc_blind, va_recv hK hP (ci := 7) (q0 := 0) rfl rfl, fun U hU hW => ⟨rfl, by rw [hU]; exact hP, va_K.moved hW.alike hK, trivial⟩⟩ rfl rfl hl.1 rfl (lv_room (Nat.le_of_ble_eq_true rfl)) dX7_lemma_67 ⟨Nat.zero_le _, Nat.zero_le _⟩) hS (fun _ _ h => h) (fun _ h => h) (fun u t H1 locs ht hvm hw hB hz1 hk1 hS => ?_)
      obtain rfl := hw.symm
      rw [ht] at hB
      have hP : va_P D vwCl (MUW cI cJ cZ q (fu (fu (fu (fu (fu (fu I 2 x_4.1) 3 x_4.2.1) 4 x_4.2.2) 10 x_2.2.1) 11 x_2.2.2.1) 12 x_2.2.2.2) J a b) H1 := hB
      clear hB hz1 hk1 ht hvm
      generalize H1 = H at hP hS ⊢
      refine lv_iload_n hx hb dX7_lemma_70 rfl (lv_at hl 0 rfl) ?_
      refine lv_if_eq (tgt := 78) hx hb dX7_lemma_71 (by decide) (fun c_5 => ?_) (fun c_5 => ?_)
      · have h := if_t c_5 h
        refine lv_iconst (v := 0) hx hb dX7_lemma_78 (by decide) ?_
        have hx0 := Option.some.inj h
        rw [hQ]
        exact W.iret (v := 0) hx hb hr (fun t ht hW => ⟨⟨0, (x_4.1, x_4.2.1, x_4.2.2, (I 7), x_2.2.1, x_2.2.2.1, x_2.2.2.2, (a 7), (a 8)), rfl, ⟨congrArg (fun z => z.1) hx0, congrArg (fun z => z.2) hx0⟩, by show va_P _ _ _ t.heap; rw [ht]; exact hP⟩, hS.F ht⟩) hS.2.2 dX7_lemma_79
      · have h := if_f c_5 h
        refine lv_iconst (v := 1) hx hb dX7_lemma_74 (by decide) ?_
        refine lv_goto (tgt := 79) hx hb dX7_lemma_75 (by decide) ?_
        have hx0 := Option.some.inj h
        rw [hQ]
        exact W.iret (v := 1) hx hb hr (fun t ht hW => ⟨⟨1, (x_4.1, x_4.2.1, x_4.2.2, (I 7), x_2.2.1, x_2.2.2.1, x_2.2.2.2, (a 7), (a 8)), rfl, ⟨congrArg (fun z => z.1) hx0, congrArg (fun z => z.2) hx0⟩, by show va_P _ _ _ t.heap; rw [ht]; exact hP⟩, hS.F ht⟩) hS.2.2 dX7_lemma_79
    · have h := if_f c_3 h
      refine lv_aload_n hx hb dX7_lemma_30 rfl (lv_at hl 1 rfl) ?_
      refine va_get (D := D) (ci := 7) (v := .ref (q 8)) (C := RX7) (T := TX7) (N := 38) hx hb hts in_X7_lemma_X7 hown hK hP 0 rfl rfl 15 (by decide) (hts (.fieldLink RX7 32 "LearnedReasonsModel" "lemmaYes" "[I") (by decide +kernel)) (fun _ h9 => h9) rfl dX7_lemma_31 ?_
      refine lv_aload_n hx hb dX7_lemma_34 rfl (lv_at hl 1 rfl) ?_
      refine va_get (D := D) (ci := 7) (v := .int (I 7)) (C := RX7) (T := TX7) (N := 38) hx hb hts in_X7_lemma_X7 hown hK hP 0 rfl rfl 14 (by decide) (hts (.fieldLink RX7 80 "LearnedReasonsModel" "lemmaCount" "I") (by decide +kernel)) (fun _ h9 => h9) rfl dX7_lemma_35 ?_
      refine lv_aload_n hx hb dX7_lemma_38 rfl (lv_at hl 1 rfl) ?_
      refine va_get (D := D) (ci := 7) (v := .int (I 3)) (C := RX7) (T := TX7) (N := 38) hx hb hts in_X7_lemma_X7 hown hK hP 0 rfl rfl 10 (by decide) (hts (.fieldLink RX7 154 "LearnedReasonsModel" "handYes" "I") (by decide +kernel)) (fun _ h9 => h9) rfl dX7_lemma_39 ?_
      obtain ⟨g_6, h⟩ := gd_some h
      refine va_iast hx hb hK hP (MUW_D hq) hS 8 0 rfl rfl g_6 dX7_lemma_42 (fun H locs hP _ hS => ?_)
      have hP : va_P D vwCl (MUW cI cJ cZ q (fu (fu (fu I 10 x_2.2.1) 11 x_2.2.2.1) 12 x_2.2.2.2) J (fu a 7 (upd (a 7) (I 7).toNatClampNeg (I 3))) b) H := hP
      refine lv_aload_n hx hb dX7_lemma_43 rfl (lv_at hl 1 rfl) ?_
      refine va_get (D := D) (ci := 7) (v := .ref (q 9)) (C := RX7) (T := TX7) (N := 38) hx hb hts in_X7_lemma_X7 hown hK hP 0 rfl rfl 16 (by decide) (hts (.fieldLink RX7 35 "LearnedReasonsModel" "lemmaNo" "[I") (by decide +kernel)) (fun _ h9 => h9) rfl dX7_lemma_44 ?_
      refine lv_aload_n hx hb dX7_lemma_47 rfl (lv_at hl 1 rfl) ?_
      refine va_get (D := D) (ci := 7) (v := .int (I 7)) (C := RX7) (T := TX7) (N := 38) hx hb hts in_X7_lemma_X7 hown hK hP 0 rfl rfl 14 (by decide) (hts (.fieldLink RX7 80 "LearnedReasonsModel" "lemmaCount" "I") (by decide +kernel)) (fun _ h9 => h9) rfl dX7_lemma_48 ?_
      refine lv_aload_n hx hb dX7_lemma_51 rfl (lv_at hl 1 rfl) ?_
      refine va_get (D := D) (ci := 7) (v := .int (I 4)) (C := RX7) (T := TX7) (N := 38) hx hb hts in_X7_lemma_X7 hown hK hP 0 rfl rfl 11 (by decide) (hts (.fieldLink RX7 157 "LearnedReasonsModel" "handNo" "I") (by decide +kernel)) (fun _ h9 => h9) rfl dX7_lemma_52 ?_
      obtain ⟨g_7, h⟩ := gd_some h
      refine va_iast hx hb hK hP (MUW_D hq) hS 9 0 rfl rfl g_7 dX7_lemma_55 (fun H locs hP _ hS => ?_)
      have hP : va_P D vwCl (MUW cI cJ cZ q (fu (fu (fu I 10 x_2.2.1) 11 x_2.2.2.1) 12 x_2.2.2.2) J (fu (fu a 7 (upd (a 7) (I 7).toNatClampNeg (I 3))) 8 (upd (a 8) (I 7).toNatClampNeg (I 4))) b) H := hP
      refine lv_aload_n hx hb dX7_lemma_56 rfl (lv_at hl 1 rfl) ?_
      refine lv_dup hx hb dX7_lemma_57 rfl ?_
      refine va_get (D := D) (ci := 7) (v := .int (I 7)) (C := RX7) (T := TX7) (N := 38) hx hb hts in_X7_lemma_X7 hown hK hP 0 rfl rfl 14 (by decide) (hts (.fieldLink RX7 80 "LearnedReasonsModel" "lemmaCount" "I") (by decide +kernel)) (fun _ h9 => h9) rfl dX7_lemma_58 ?_
      refine lv_iconst (v := 1) hx hb dX7_lemma_61 (by decide) ?_
      refine lv_iadd hx hb dX7_lemma_62 ?_
      refine lv_topi (fun v_8 ev_8 => ?_)
      have h := nmI_at ev_8 h
      refine va_put (D := D) (ci := 7) (v := .int v_8) (ty := .int) (C := RX7) (T := TX7) (N := 38) hx hb hts in_X7_lemma_X7 tyX7 tyX7_ok nmX7 hown hK hP (MUW_D hq) hS 0 rfl rfl 14 (by decide) (hts (.fieldLink RX7 80 "LearnedReasonsModel" "lemmaCount" "I") (by decide +kernel)) (fun _ h9 => h9) rfl (by decide +kernel) rfl rfl (Nat.le_of_ble_eq_true rfl) dX7_lemma_63 (fun H locs hP _ hS => ?_)
      have hP : va_P D vwCl (MUW cI cJ cZ q (fu (fu (fu (fu I 7 v_8) 10 x_2.2.1) 11 x_2.2.2.1) 12 x_2.2.2.2) J (fu (fu a 7 (upd (a 7) (I 7).toNatClampNeg (I 3))) 8 (upd (a 8) (I 7).toNatClampNeg (I 4))) b) H := hP
      refine lv_aload_n hx hb dX7_lemma_66 rfl (lv_at hl 1 rfl) ?_
      obtain ⟨x_9, hx_9, h⟩ := ob_some h
      refine va_callv (va_runV (As := []) (rest := []) ⟨hx, hb, hml, hown, hts⟩ (c_X7_emptyHand l D cI cJ cZ q hq F (fu (fu (fu (fu I 7 v_8) 10 x_2.2.1) 11 x_2.2.2.1) 12 x_2.2.2.2) J (fu (fu a 7 (upd (a 7) (I 7).toNatClampNeg (I 3))) 8 (upd (a 8) (I 7).toNatClampNeg (I 4))) b x_9 hx_9) (cwV 0 hts gX7_lemma_X7_emptyHand rfl rfl rfl (by decide +kernel) (by rw [hR]; exact ⟨Nat.le_of_ble_eq_true rfl, Nat.le_of_ble_eq_true rfl⟩)) ⟨MUPc_blind, va_recv hK hP (ci := 7) (q0 := 0) rfl rfl, fun U hU hW => ⟨rfl, by rw [hU]; exact hP, va_K.moved hW.alike hK, trivial⟩⟩ rfl rfl hl.1 rfl (lv_room (Nat.le_of_ble_eq_true rfl)) dX7_lemma_67 ⟨Nat.zero_le _, Nat.zero_le _⟩) hS (fun _ _ h => h) (fun _ h => h) (fun u t H1 locs ht hvm hw hB hz1 hk1 hS => ?_)
      obtain rfl := hw.symm
      rw [ht] at hB
      have hP : va_P D vwCl (MUW cI cJ cZ q (fu (fu (fu (fu (fu (fu (fu I 2 x_9.1) 3 x_9.2.1) 4 x_9.2.2) 7 v_8) 10 x_2.2.1) 11 x_2.2.2.1) 12 x_2.2.2.2) J (fu (fu a 7 (upd (a 7) (I 7).toNatClampNeg (I 3))) 8 (upd (a 8) (I 7).toNatClampNeg (I 4))) b) H1 := hB
      clear hB hz1 hk1 ht hvm
      generalize H1 = H at hP hS ⊢
      refine lv_iload_n hx hb dX7_lemma_70 rfl (lv_at hl 0 rfl) ?_
      refine lv_if_eq (tgt := 78) hx hb dX7_lemma_71 (by decide) (fun c_10 => ?_) (fun c_10 => ?_)
      · have h := if_t c_10 h
        refine lv_iconst (v := 0) hx hb dX7_lemma_78 (by decide) ?_
        have hx0 := Option.some.inj h
        rw [hQ]
        exact W.iret (v := 0) hx hb hr (fun t ht hW => ⟨⟨0, (x_9.1, x_9.2.1, x_9.2.2, v_8, x_2.2.1, x_2.2.2.1, x_2.2.2.2, (upd (a 7) (I 7).toNatClampNeg (I 3)), (upd (a 8) (I 7).toNatClampNeg (I 4))), rfl, ⟨congrArg (fun z => z.1) hx0, congrArg (fun z => z.2) hx0⟩, by show va_P _ _ _ t.heap; rw [ht]; exact hP⟩, hS.F ht⟩) hS.2.2 dX7_lemma_79
      · have h := if_f c_10 h
        refine lv_iconst (v := 1) hx hb dX7_lemma_74 (by decide) ?_
        refine lv_goto (tgt := 79) hx hb dX7_lemma_75 (by decide) ?_
        have hx0 := Option.some.inj h
        rw [hQ]
        exact W.iret (v := 1) hx hb hr (fun t ht hW => ⟨⟨1, (x_9.1, x_9.2.1, x_9.2.2, v_8, x_2.2.1, x_2.2.2.1, x_2.2.2.2, (upd (a 7) (I 7).toNatClampNeg (I 3)), (upd (a 8) (I 7).toNatClampNeg (I 4))), rfl, ⟨congrArg (fun z => z.1) hx0, congrArg (fun z => z.2) hx0⟩, by show va_P _ _ _ t.heap; rw [ht]; exact hP⟩, hS.F ht⟩) hS.2.2 dX7_lemma_79
  · have h := if_t c_1 h
    refine lv_bipush (v := (-4)) hx hb dX7_lemma_9 (by decide) ?_
    have hx0 := Option.some.inj h
    rw [hQ]
    exact W.iret (v := (-4)) hx hb hr (fun t ht hW => ⟨⟨(-4), ((I 2), (I 3), (I 4), (I 7), (I 10), (I 11), (I 12), (a 7), (a 8)), rfl, ⟨congrArg (fun z => z.1) hx0, congrArg (fun z => z.2) hx0⟩, by show va_P _ _ _ t.heap; rw [ht]; exact hP⟩, hS.F ht⟩) hS.2.2 dX7_lemma_11
theorem in_X7_lemmas_X7 : ∀ w ∈ wsX70, w ∈ wsX7_lemmas := by decide +kernel
set_option maxHeartbeats 4000000 in
set_option maxRecDepth 100000 in
theorem c_X7_lemmas (l : Launch) (D : va_G) (cI cJ cZ : ClassId) (q : Nat → Nat) (hq : MUQ q) (F : Nat) (I : Nat → Int32) (J : Nat → Int64) (a : Nat → Nat → Int32) (b : Nat → Nat → Int64) (x0 : Int32) (h : f_X7_lemmas F I J a b = some x0) : Met l yX7_lemmas wsX7_lemmas ({ frames := 0, cells := 0, slots := 0, locals := 0 }) (MUPc D cI cJ cZ q I J a b [.ref (q 0)]) (va_Qi (fun (r : Int32) (u : Unit) => r = x0) (fun (u : Unit) t => va_P D vwCl (MUW cI cJ cZ q I J a b) t.heap) (MUA q)) 0 0 (MUA q) := by
  refine mt_of (cc := cX7_lemmas) (maxL := 1) (ret := (some .int)) (by decide) rfl ?_
  intro p e s m args below meth c s₁ B0 hml hv R Q hR hQ
  obtain ⟨hargs, hP, hK, hN⟩ := hv
  have hx := B0.exec
  have hb := B0.bytes
  have hr := B0.returns
  have hts := atoms_spec (ws := wsX7_lemmas) B0.pre
  have hown : s.vm.findClass RX7 = some m.cls := findClass_of_methodNamed B0.named
  have hlocks := B0.notSynchronized
  have hS : va_S (MUA q) s.heap s.heap [] := va_S.rf
  have hl := lv_entry ([.ref (q 0)]) (n := 1) (Nat.le_of_ble_eq_true rfl)
  rw [hargs, lg_entry_eq]
  rw [← hargs]
  generalize (lg_sl ([.ref (q 0)]) ++ List.replicate (1 - (lg_sl ([.ref (q 0)])).length) Slot.unset).toArray = ls at hl ⊢
  have hl : lv_has ls 1 [(0, .ref (q 0))] := hl
  unfold f_X7_lemmas at h
  refine lv_aload_n hx hb dX7_lemmas_0 rfl (lv_at hl 0 rfl) ?_
  refine va_get (D := D) (ci := 7) (v := .int (I 7)) (C := RX7) (T := TX7) (N := 38) hx hb hts in_X7_lemmas_X7 hown hK hP 0 rfl rfl 14 (by decide) (hts (.fieldLink RX7 80 "LearnedReasonsModel" "lemmaCount" "I") (by decide +kernel)) (fun _ h9 => h9) rfl dX7_lemmas_1 ?_
  have hx0 := Option.some.inj h
  rw [hQ]
  exact W.iret (v := I 7) hx hb hr (fun t ht hW => ⟨⟨(I 7), (), rfl, hx0, by show va_P _ _ _ t.heap; rw [ht]; exact hP⟩, hS.F ht⟩) hS.2.2 dX7_lemmas_4
theorem in_X7_choiceSet_X7 : ∀ w ∈ wsX70, w ∈ wsX7_choiceSet := by decide +kernel
set_option maxHeartbeats 4000000 in
set_option maxRecDepth 100000 in
theorem c_X7_choiceSet (l : Launch) (D : va_G) (cI cJ cZ : ClassId) (q : Nat → Nat) (hq : MUQ q) (F : Nat) (I : Nat → Int32) (J : Nat → Int64) (a : Nat → Nat → Int32) (b : Nat → Nat → Int64) (x0 : Int32) (h : f_X7_choiceSet F I J a b = some x0) : Met l yX7_choiceSet wsX7_choiceSet ({ frames := 0, cells := 0, slots := 0, locals := 0 }) (MUPc D cI cJ cZ q I J a b [.ref (q 0)]) (va_Qi (fun (r : Int32) (u : Unit) => r = x0) (fun (u : Unit) t => va_P D vwCl (MUW cI cJ cZ q I J a b) t.heap) (MUA q)) 0 0 (MUA q) := by
  refine mt_of (cc := cX7_choiceSet) (maxL := 3) (ret := (some .int)) (by decide) rfl ?_
  intro p e s m args below meth c s₁ B0 hml hv R Q hR hQ
  obtain ⟨hargs, hP, hK, hN⟩ := hv
  have hx := B0.exec
  have hb := B0.bytes
  have hr := B0.returns
  have hts := atoms_spec (ws := wsX7_choiceSet) B0.pre
  have hown : s.vm.findClass RX7 = some m.cls := findClass_of_methodNamed B0.named
  have hlocks := B0.notSynchronized
  have hS : va_S (MUA q) s.heap s.heap [] := va_S.rf
  have hl := lv_entry ([.ref (q 0)]) (n := 3) (Nat.le_of_ble_eq_true rfl)
  rw [hargs, lg_entry_eq]
  rw [← hargs]
  generalize (lg_sl ([.ref (q 0)]) ++ List.replicate (3 - (lg_sl ([.ref (q 0)])).length) Slot.unset).toArray = ls at hl ⊢
  have hl : lv_has ls 3 [(0, .ref (q 0))] := hl
  unfold f_X7_choiceSet at h
  have C4 : ∀ (n4 : Nat) (v1 : Int32) (v2 : Int32), k_X7_choiceSet_4 F I J a b n4 v1 v2 = some x0 → ∀ (H : Heap) (locs : List Loc), va_P D vwCl (MUW cI cJ cZ q I J a b) H → va_S (MUA q) s.heap H locs → ∀ ls : Array Slot, lv_has ls 3 [(0, .ref (q 0)), (1, .int v1), (2, .int v2)] → W p l e R s m args below meth c H locs 0 0 Q (F0 m 4 ls []) := by
    intro n4
    induction n4 with
    | zero => intro v1 v2 h; rw [k_X7_choiceSet_4] at h; cases h
    | succ n4 ih4 =>
      intro v1 v2 h H locs hP hS ls hl
      rw [k_X7_choiceSet_4] at h
      refine lv_iload_n hx hb dX7_choiceSet_4 rfl (lv_at hl 2 rfl) ?_
      refine lv_aload_n hx hb dX7_choiceSet_5 rfl (lv_at hl 0 rfl) ?_
      refine va_get (D := D) (ci := 7) (v := .int (I 13)) (C := RX7) (T := TX7) (N := 38) hx hb hts in_X7_choiceSet_X7 hown hK hP 0 rfl rfl 23 (by decide) (hts (.fieldLink RX7 83 "LearnedReasonsModel" "choiceCount" "I") (by decide +kernel)) (fun _ h9 => h9) rfl dX7_choiceSet_6 ?_
      refine lv_icmp_ge (tgt := 29) hx hb dX7_choiceSet_9 (by decide) (fun c_1 => ?_) (fun c_1 => ?_)
      · have h := if_t c_1 h
        refine lv_iload_n hx hb dX7_choiceSet_29 rfl (lv_at hl 1 rfl) ?_
        have hx0 := Option.some.inj h
        rw [hQ]
        exact W.iret (v := v1) hx hb hr (fun t ht hW => ⟨⟨v1, (), rfl, hx0, by show va_P _ _ _ t.heap; rw [ht]; exact hP⟩, hS.F ht⟩) hS.2.2 dX7_choiceSet_30
      · have h := if_f c_1 h
        refine lv_iload_n hx hb dX7_choiceSet_12 rfl (lv_at hl 1 rfl) ?_
        refine lv_iconst (v := 1) hx hb dX7_choiceSet_13 (by decide) ?_
        refine lv_aload_n hx hb dX7_choiceSet_14 rfl (lv_at hl 0 rfl) ?_
        refine va_get (D := D) (ci := 7) (v := .ref (q 10)) (C := RX7) (T := TX7) (N := 38) hx hb hts in_X7_choiceSet_X7 hown hK hP 0 rfl rfl 22 (by decide) (hts (.fieldLink RX7 38 "LearnedReasonsModel" "choices" "[I") (by decide +kernel)) (fun _ h9 => h9) rfl dX7_choiceSet_15 ?_
        refine lv_iload_n hx hb dX7_choiceSet_18 rfl (lv_at hl 2 rfl) ?_
        obtain ⟨g_2, h⟩ := gd_some h
        refine va_iald hx hb hK hP 10 0 rfl rfl g_2 dX7_choiceSet_19 ?_
        refine lv_ishl hx hb dX7_choiceSet_20 ?_
        refine lv_ior hx hb dX7_choiceSet_21 ?_
        refine lv_topi (fun v_3 ev_3 => ?_)
        have h := nmI_at ev_3 h
        refine lv_istore_n (lv' := [(1, .int v_3), (0, .ref (q 0)), (2, .int v2)]) hx hb dX7_choiceSet_22 rfl hl (by decide) rfl (fun ls hl => ?_)
        refine lv_iinc (v := v2 + 1) (lv' := [(2, .int (v2 + 1)), (1, .int v_3), (0, .ref (q 0))]) hx hb dX7_choiceSet_23 hl (k := 2) rfl rfl (by decide) rfl (fun ls hl => ?_)
        refine lv_goto (tgt := 4) hx hb dX7_choiceSet_26 (by decide) ?_
        exact ih4 v_3 (v2 + 1) h _ _ hP hS ls (lv_sub hl [2, 1, 0] rfl)
  refine lv_iconst (v := 0) hx hb dX7_choiceSet_0 (by decide) ?_
  refine lv_istore_n (lv' := [(1, .int 0), (0, .ref (q 0))]) hx hb dX7_choiceSet_1 rfl hl (by decide) rfl (fun ls hl => ?_)
  refine lv_iconst (v := 0) hx hb dX7_choiceSet_2 (by decide) ?_
  refine lv_istore_n (lv' := [(2, .int 0), (1, .int 0), (0, .ref (q 0))]) hx hb dX7_choiceSet_3 rfl hl (by decide) rfl (fun ls hl => ?_)
  exact C4 F 0 0 h _ _ hP hS ls (lv_sub hl [2, 1, 0] rfl)
theorem in_X7_learn_X7 : ∀ w ∈ wsX70, w ∈ wsX7_learn := by decide +kernel
set_option maxHeartbeats 4000000 in
set_option maxRecDepth 100000 in
theorem c_X7_learn (l : Launch) (D : va_G) (cI cJ cZ : ClassId) (q : Nat → Nat) (hq : MUQ q) (F : Nat) (I : Nat → Int32) (J : Nat → Int64) (a : Nat → Nat → Int32) (b : Nat → Nat → Int64) (x0 : Int32 × Int32 × Int32 × Int32 × Int32 × (Nat → Int32)) (h : f_X7_learn F I J a b = some x0) : Met l yX7_learn wsX7_learn ({ frames := 3, cells := 0, slots := 0, locals := 73 }) (MUPc D cI cJ cZ q I J a b [.ref (q 0)]) (va_Qv (fun (u : Int32 × Int32 × Int32 × Int32 × Int32 × (Nat → Int32)) => u = x0) (fun (u : Int32 × Int32 × Int32 × Int32 × Int32 × (Nat → Int32)) t => va_P D vwCl (MUW cI cJ cZ q (fu (fu (fu (fu (fu I 10 u.1) 11 u.2.1) 12 u.2.2.1) 13 u.2.2.2.1) 14 u.2.2.2.2.1) J (fu a 10 u.2.2.2.2.2) b) t.heap) (MUA q)) 0 0 (MUA q) := by
  refine mt_of (cc := cX7_learn) (maxL := 5) (ret := none) (by decide) rfl ?_
  intro p e s m args below meth c s₁ B0 hml hv R Q hR hQ
  obtain ⟨hargs, hP, hK, hN⟩ := hv
  have hx := B0.exec
  have hb := B0.bytes
  have hr := B0.returns
  have hts := atoms_spec (ws := wsX7_learn) B0.pre
  have hown : s.vm.findClass RX7 = some m.cls := findClass_of_methodNamed B0.named
  have hlocks := B0.notSynchronized
  have hS : va_S (MUA q) s.heap s.heap [] := va_S.rf
  have hl := lv_entry ([.ref (q 0)]) (n := 5) (Nat.le_of_ble_eq_true rfl)
  rw [hargs, lg_entry_eq]
  rw [← hargs]
  generalize (lg_sl ([.ref (q 0)]) ++ List.replicate (5 - (lg_sl ([.ref (q 0)])).length) Slot.unset).toArray = ls at hl ⊢
  have hl : lv_has ls 5 [(0, .ref (q 0))] := hl
  unfold f_X7_learn at h
  have C79 : ∀ (n79 : Nat) (v1 : Int32) (v2 : Int32) (v3 : Int32) (v4 : Int32) (I10 : Int32) (I11 : Int32) (I12 : Int32) (I14 : Int32) (a10 : Nat → Int32), k_X7_learn_79 F I J a b n79 v1 v2 v3 v4 I10 I11 I12 I14 a10 = some x0 → ∀ (H : Heap) (locs : List Loc), va_P D vwCl (MUW cI cJ cZ q (fu (fu (fu (fu I 10 I10) 11 I11) 12 I12) 14 I14) J (fu a 10 a10) b) H → va_S (MUA q) s.heap H locs → ∀ ls : Array Slot, lv_has ls 5 [(0, .ref (q 0)), (1, .int v1), (2, .int v2), (3, .int v3), (4, .int v4)] → W p l e R s m args below meth c H locs 0 0 Q (F0 m 79 ls []) := by
    intro n79
    induction n79 with
    | zero => intro v1 v2 v3 v4 I10 I11 I12 I14 a10 h; rw [k_X7_learn_79] at h; cases h
    | succ n79 ih79 =>
      intro v1 v2 v3 v4 I10 I11 I12 I14 a10 h H locs hP hS ls hl
      rw [k_X7_learn_79] at h
      refine lv_iload hx hb dX7_learn_79 (lv_at hl 4 rfl) ?_
      refine lv_if_lt (tgt := 118) hx hb dX7_learn_81 (by decide) (fun c_1 => ?_) (fun c_1 => ?_)
      · have h := if_t c_1 h
        refine lv_aload_n hx hb dX7_learn_118 rfl (lv_at hl 0 rfl) ?_
        refine lv_iload_n hx hb dX7_learn_119 rfl (lv_at hl 2 rfl) ?_
        refine va_put (D := D) (ci := 7) (v := .int v2) (ty := .int) (C := RX7) (T := TX7) (N := 38) hx hb hts in_X7_learn_X7 tyX7 tyX7_ok nmX7 hown hK hP (MUW_D hq) hS 0 rfl rfl 23 (by decide) (hts (.fieldLink RX7 83 "LearnedReasonsModel" "choiceCount" "I") (by decide +kernel)) (fun _ h9 => h9) rfl (by decide +kernel) rfl rfl (Nat.le_of_ble_eq_true rfl) dX7_learn_120 (fun H locs hP _ hS => ?_)
        have hP : va_P D vwCl (MUW cI cJ cZ q (fu (fu (fu (fu (fu I 10 I10) 11 I11) 12 I12) 13 v2) 14 I14) J (fu a 10 a10) b) H := hP
        have hx0 := Option.some.inj h
        rw [hQ]
        exact W.vret hx hb hr (fun t ht hW => ⟨⟨(I10, I11, I12, v2, I14, a10), rfl, hx0, by show va_P _ _ _ t.heap; rw [ht]; exact hP⟩, hS.F ht⟩) hS.2.2 dX7_learn_123
      · have h := if_f c_1 h
        refine lv_iload_n hx hb dX7_learn_84 rfl (lv_at hl 1 rfl) ?_
        refine lv_aload_n hx hb dX7_learn_85 rfl (lv_at hl 0 rfl) ?_
        refine va_get (D := D) (ci := 7) (v := .ref (q 10)) (C := RX7) (T := TX7) (N := 38) hx hb hts in_X7_learn_X7 hown hK hP 0 rfl rfl 22 (by decide) (hts (.fieldLink RX7 38 "LearnedReasonsModel" "choices" "[I") (by decide +kernel)) (fun _ h9 => h9) rfl dX7_learn_86 ?_
        refine lv_iload hx hb dX7_learn_89 (lv_at hl 4 rfl) ?_
        obtain ⟨g_2, h⟩ := gd_some h
        refine va_iald hx hb hK hP 10 0 rfl rfl g_2 dX7_learn_91 ?_
        refine lv_ishr hx hb dX7_learn_92 ?_
        refine lv_iconst (v := 1) hx hb dX7_learn_93 (by decide) ?_
        refine lv_iand hx hb dX7_learn_94 ?_
        refine lv_iconst (v := 1) hx hb dX7_learn_95 (by decide) ?_
        refine lv_icmp_ne (tgt := 112) hx hb dX7_learn_96 (by decide) (fun c_3 => ?_) (fun c_3 => ?_)
        · have h := if_f c_3 h
          refine lv_iinc (v := v4 + (-1)) (lv' := [(4, .int (v4 + (-1))), (0, .ref (q 0)), (1, .int v1), (2, .int v2), (3, .int v3)]) hx hb dX7_learn_112 hl (k := 4) rfl rfl (by decide) rfl (fun ls hl => ?_)
          refine lv_goto (tgt := 79) hx hb dX7_learn_115 (by decide) ?_
          exact ih79 v1 v2 v3 (v4 + (-1)) I10 I11 I12 I14 a10 h _ _ hP hS ls (lv_sub hl [1, 2, 3, 4, 0] rfl)
        · have h := if_t c_3 h
          refine lv_iinc (v := v3 + 1) (lv' := [(3, .int (v3 + 1)), (0, .ref (q 0)), (1, .int v1), (2, .int v2), (4, .int v4)]) hx hb dX7_learn_99 hl (k := 3) rfl rfl (by decide) rfl (fun ls hl => ?_)
          refine lv_iload_n hx hb dX7_learn_102 rfl (lv_at hl 0 rfl) ?_
          refine lv_iconst (v := 2) hx hb dX7_learn_103 (by decide) ?_
          refine lv_icmp_ne (tgt := 112) hx hb dX7_learn_104 (by decide) (fun c_4 => ?_) (fun c_4 => ?_)
          · have h := if_f c_4 h
            refine lv_iinc (v := v4 + (-1)) (lv' := [(4, .int (v4 + (-1))), (3, .int (v3 + 1)), (0, .ref (q 0)), (1, .int v1), (2, .int v2)]) hx hb dX7_learn_112 hl (k := 4) rfl rfl (by decide) rfl (fun ls hl => ?_)
            refine lv_goto (tgt := 79) hx hb dX7_learn_115 (by decide) ?_
            exact ih79 v1 v2 (v3 + 1) (v4 + (-1)) I10 I11 I12 I14 a10 h _ _ hP hS ls (lv_sub hl [2, 3, 4, 1, 0] rfl)
          · have h := if_t c_4 h
            refine lv_iload hx hb dX7_learn_107 (lv_at hl 4 rfl) ?_
            refine lv_iconst (v := 1) hx hb dX7_learn_109 (by decide) ?_
            refine lv_iadd hx hb dX7_learn_110 ?_
            refine lv_topi (fun v_5 ev_5 => ?_)
            have h := nmI_at ev_5 h
            refine lv_istore_n (lv' := [(2, .int v_5), (3, .int (v3 + 1)), (0, .ref (q 0)), (1, .int v1), (4, .int v4)]) hx hb dX7_learn_111 rfl hl (by decide) rfl (fun ls hl => ?_)
            refine lv_iinc (v := v4 + (-1)) (lv' := [(4, .int (v4 + (-1))), (2, .int v_5), (3, .int (v3 + 1)), (0, .ref (q 0)), (1, .int v1)]) hx hb dX7_learn_112 hl (k := 4) rfl rfl (by decide) rfl (fun ls hl => ?_)
            refine lv_goto (tgt := 79) hx hb dX7_learn_115 (by decide) ?_
            exact ih79 v1 v_5 (v3 + 1) (v4 + (-1)) I10 I11 I12 I14 a10 h _ _ hP hS ls (lv_sub hl [3, 4, 1, 2, 0] rfl)
  have C12 : ∀ (n12 : Nat) (v1 : Int32) (v2 : Int32) (I10 : Int32) (I11 : Int32) (I12 : Int32), k_X7_learn_12 F I J a b n12 v1 v2 I10 I11 I12 = some x0 → ∀ (H : Heap) (locs : List Loc), va_P D vwCl (MUW cI cJ cZ q (fu (fu (fu I 10 I10) 11 I11) 12 I12) J a b) H → va_S (MUA q) s.heap H locs → ∀ ls : Array Slot, lv_has ls 5 [(0, .ref (q 0)), (1, .int v1), (2, .int v2)] → W p l e R s m args below meth c H locs 0 0 Q (F0 m 12 ls []) := by
    intro n12
    induction n12 with
    | zero => intro v1 v2 I10 I11 I12 h; rw [k_X7_learn_12] at h; cases h
    | succ n12 ih12 =>
      intro v1 v2 I10 I11 I12 h H locs hP hS ls hl
      rw [k_X7_learn_12] at h
      refine lv_iload_n hx hb dX7_learn_12 rfl (lv_at hl 2 rfl) ?_
      refine lv_if_lt (tgt := 47) hx hb dX7_learn_13 (by decide) (fun c_6 => ?_) (fun c_6 => ?_)
      · have h := if_t c_6 h
        refine lv_aload_n hx hb dX7_learn_47 rfl (lv_at hl 0 rfl) ?_
        refine va_get (D := D) (ci := 7) (v := .ref (q 11)) (C := RX7) (T := TX7) (N := 38) hx hb hts in_X7_learn_X7 hown hK hP 0 rfl rfl 24 (by decide) (hts (.fieldLink RX7 41 "LearnedReasonsModel" "learnedYes" "[I") (by decide +kernel)) (fun _ h9 => h9) rfl dX7_learn_48 ?_
        refine lv_aload_n hx hb dX7_learn_51 rfl (lv_at hl 0 rfl) ?_
        refine va_get (D := D) (ci := 7) (v := .int (I 14)) (C := RX7) (T := TX7) (N := 38) hx hb hts in_X7_learn_X7 hown hK hP 0 rfl rfl 25 (by decide) (hts (.fieldLink RX7 77 "LearnedReasonsModel" "learnedCount" "I") (by decide +kernel)) (fun _ h9 => h9) rfl dX7_learn_52 ?_
        refine lv_iload_n hx hb dX7_learn_55 rfl (lv_at hl 1 rfl) ?_
        obtain ⟨g_7, h⟩ := gd_some h
        refine va_iast hx hb hK hP (MUW_D hq) hS 11 0 rfl rfl g_7 dX7_learn_56 (fun H locs hP _ hS => ?_)
        have hP : va_P D vwCl (MUW cI cJ cZ q (fu (fu (fu I 10 I10) 11 I11) 12 I12) J (fu a 10 (upd (a 10) (I 14).toNatClampNeg v1)) b) H := hP
        refine lv_aload_n hx hb dX7_learn_57 rfl (lv_at hl 0 rfl) ?_
        refine lv_dup hx hb dX7_learn_58 rfl ?_
        refine va_get (D := D) (ci := 7) (v := .int (I 14)) (C := RX7) (T := TX7) (N := 38) hx hb hts in_X7_learn_X7 hown hK hP 0 rfl rfl 25 (by decide) (hts (.fieldLink RX7 77 "LearnedReasonsModel" "learnedCount" "I") (by decide +kernel)) (fun _ h9 => h9) rfl dX7_learn_59 ?_
        refine lv_iconst (v := 1) hx hb dX7_learn_62 (by decide) ?_
        refine lv_iadd hx hb dX7_learn_63 ?_
        refine lv_topi (fun v_8 ev_8 => ?_)
        have h := nmI_at ev_8 h
        refine va_put (D := D) (ci := 7) (v := .int v_8) (ty := .int) (C := RX7) (T := TX7) (N := 38) hx hb hts in_X7_learn_X7 tyX7 tyX7_ok nmX7 hown hK hP (MUW_D hq) hS 0 rfl rfl 25 (by decide) (hts (.fieldLink RX7 77 "LearnedReasonsModel" "learnedCount" "I") (by decide +kernel)) (fun _ h9 => h9) rfl (by decide +kernel) rfl rfl (Nat.le_of_ble_eq_true rfl) dX7_learn_64 (fun H locs hP _ hS => ?_)
        have hP : va_P D vwCl (MUW cI cJ cZ q (fu (fu (fu (fu I 10 I10) 11 I11) 12 I12) 14 v_8) J (fu a 10 (upd (a 10) (I 14).toNatClampNeg v1)) b) H := hP
        refine lv_iconst (v := 0) hx hb dX7_learn_67 (by decide) ?_
        refine lv_istore_n (lv' := [(2, .int 0), (0, .ref (q 0)), (1, .int v1)]) hx hb dX7_learn_68 rfl hl (by decide) rfl (fun ls hl => ?_)
        refine lv_iconst (v := 0) hx hb dX7_learn_69 (by decide) ?_
        refine lv_istore_n (lv' := [(3, .int 0), (2, .int 0), (0, .ref (q 0)), (1, .int v1)]) hx hb dX7_learn_70 rfl hl (by decide) rfl (fun ls hl => ?_)
        refine lv_aload_n hx hb dX7_learn_71 rfl (lv_at hl 2 rfl) ?_
        refine va_get (D := D) (ci := 7) (v := .int (I 13)) (C := RX7) (T := TX7) (N := 38) hx hb hts in_X7_learn_X7 hown hK hP 0 rfl rfl 23 (by decide) (hts (.fieldLink RX7 83 "LearnedReasonsModel" "choiceCount" "I") (by decide +kernel)) (fun _ h9 => h9) rfl dX7_learn_72 ?_
        refine lv_iconst (v := 1) hx hb dX7_learn_75 (by decide) ?_
        refine lv_isub hx hb dX7_learn_76 ?_
        refine lv_topi (fun v_9 ev_9 => ?_)
        have h := nmI_at ev_9 h
        refine lv_istore (lv' := [(4, .int v_9), (3, .int 0), (2, .int 0), (0, .ref (q 0)), (1, .int v1)]) hx hb dX7_learn_77 hl (by decide) rfl (fun ls hl => ?_)
        exact C79 F v1 0 0 v_9 I10 I11 I12 v_8 (upd (a 10) (I 14).toNatClampNeg v1) h _ _ hP hS ls (lv_sub hl [3, 4, 2, 1, 0] rfl)
      · have h := if_f c_6 h
        refine lv_iload_n hx hb dX7_learn_16 rfl (lv_at hl 1 rfl) ?_
        refine lv_iconst (v := 1) hx hb dX7_learn_17 (by decide) ?_
        refine lv_aload_n hx hb dX7_learn_18 rfl (lv_at hl 0 rfl) ?_
        refine va_get (D := D) (ci := 7) (v := .ref (q 10)) (C := RX7) (T := TX7) (N := 38) hx hb hts in_X7_learn_X7 hown hK hP 0 rfl rfl 22 (by decide) (hts (.fieldLink RX7 38 "LearnedReasonsModel" "choices" "[I") (by decide +kernel)) (fun _ h9 => h9) rfl dX7_learn_19 ?_
        refine lv_iload_n hx hb dX7_learn_22 rfl (lv_at hl 2 rfl) ?_
        obtain ⟨g_10, h⟩ := gd_some h
        refine va_iald hx hb hK hP 10 0 rfl rfl g_10 dX7_learn_23 ?_
        refine lv_ishl hx hb dX7_learn_24 ?_
        refine lv_iconst (v := (-1)) hx hb dX7_learn_25 (by decide) ?_
        refine lv_ixor hx hb dX7_learn_26 ?_
        refine lv_iand hx hb dX7_learn_27 ?_
        refine lv_topi (fun v_11 ev_11 => ?_)
        have h := nmI_at ev_11 h
        refine lv_istore_n (lv' := [(3, .int v_11), (0, .ref (q 0)), (1, .int v1), (2, .int v2)]) hx hb dX7_learn_28 rfl hl (by decide) rfl (fun ls hl => ?_)
        refine lv_aload_n hx hb dX7_learn_29 rfl (lv_at hl 1 rfl) ?_
        refine lv_iconst (v := 0) hx hb dX7_learn_30 (by decide) ?_
        refine lv_iload_n hx hb dX7_learn_31 rfl (lv_at hl 0 rfl) ?_
        refine lv_iconst (v := 1) hx hb dX7_learn_32 (by decide) ?_
        obtain ⟨x_12, hx_12, h⟩ := ob_some h
        refine va_calli (va_runV (As := [.int 0, .int v_11, .int 1]) (rest := []) ⟨hx, hb, hml, hown, hts⟩ (c_X7_conflicts l D cI cJ cZ q hq F (fu (fu (fu I 10 I10) 11 I11) 12 I12) J a b 0 v_11 1 x_12 hx_12) (cwV 3 hts gX7_learn_X7_conflicts rfl rfl rfl (by decide +kernel) (by rw [hR]; exact ⟨Nat.le_of_ble_eq_true rfl, Nat.le_of_ble_eq_true rfl⟩)) ⟨MUPc_blind, va_recv hK hP (ci := 7) (q0 := 0) rfl rfl, fun U hU hW => ⟨rfl, by rw [hU]; exact hP, va_K.moved hW.alike hK, trivial⟩⟩ rfl rfl hl.1 rfl (lv_room (Nat.le_of_ble_eq_true rfl)) dX7_learn_33 ⟨Nat.zero_le _, Nat.zero_le _⟩) hS (fun _ _ h => h) (fun _ h => h) (fun r u t H1 locs ht hvm hw hB hz1 hk1 hS => ?_)
        obtain ⟨rfl, rfl⟩ := hw
        rw [ht] at hB
        have hP : va_P D vwCl (MUW cI cJ cZ q (fu (fu (fu I 10 x_12.2.1) 11 x_12.2.2.1) 12 x_12.2.2.2) J a b) H1 := hB
        clear hB hz1 hk1 ht hvm
        generalize H1 = H at hP hS ⊢
        refine lv_if_eq (tgt := 41) hx hb dX7_learn_36 (by decide) (fun c_13 => ?_) (fun c_13 => ?_)
        · have h := if_t c_13 h
          refine lv_iinc (v := v2 + (-1)) (lv' := [(2, .int (v2 + (-1))), (3, .int v_11), (0, .ref (q 0)), (1, .int v1)]) hx hb dX7_learn_41 hl (k := 3) rfl rfl (by decide) rfl (fun ls hl => ?_)
          refine lv_goto (tgt := 12) hx hb dX7_learn_44 (by decide) ?_
          exact ih12 v1 (v2 + (-1)) x_12.2.1 x_12.2.2.1 x_12.2.2.2 h _ _ hP hS ls (lv_sub hl [2, 3, 0] rfl)
        · have h := if_f c_13 h
          refine lv_iload_n hx hb dX7_learn_39 rfl (lv_at hl 0 rfl) ?_
          refine lv_istore_n (lv' := [(1, .int v_11), (3, .int v_11), (0, .ref (q 0)), (2, .int v2)]) hx hb dX7_learn_40 rfl hl (by decide) rfl (fun ls hl => ?_)
          refine lv_iinc (v := v2 + (-1)) (lv' := [(2, .int (v2 + (-1))), (1, .int v_11), (3, .int v_11), (0, .ref (q 0))]) hx hb dX7_learn_41 hl (k := 3) rfl rfl (by decide) rfl (fun ls hl => ?_)
          refine lv_goto (tgt := 12) hx hb dX7_learn_44 (by decide) ?_
          exact ih12 v_11 (v2 + (-1)) x_12.2.1 x_12.2.2.1 x_12.2.2.2 h _ _ hP hS ls (lv_sub hl [3, 1, 0] rfl)
  refine lv_aload_n hx hb dX7_learn_0 rfl (lv_at hl 0 rfl) ?_
  obtain ⟨x_14, hx_14, h⟩ := ob_some h
  refine va_calli (va_runV (As := []) (rest := []) ⟨hx, hb, hml, hown, hts⟩ (c_X7_choiceSet l D cI cJ cZ q hq F I J a b x_14 hx_14) (cwV 0 hts gX7_learn_X7_choiceSet rfl rfl rfl (by decide +kernel) (by rw [hR]; exact ⟨Nat.le_of_ble_eq_true rfl, Nat.le_of_ble_eq_true rfl⟩)) ⟨MUPc_blind, va_recv hK hP (ci := 7) (q0 := 0) rfl rfl, fun U hU hW => ⟨rfl, by rw [hU]; exact hP, va_K.moved hW.alike hK, trivial⟩⟩ rfl rfl hl.1 rfl (lv_room (Nat.le_of_ble_eq_true rfl)) dX7_learn_1 ⟨Nat.zero_le _, Nat.zero_le _⟩) hS (fun _ _ h => h) (fun _ h => h) (fun r u t H1 locs ht hvm hw hB hz1 hk1 hS => ?_)
  obtain rfl := hw.symm
  rw [ht] at hB
  have hP : va_P D vwCl (MUW cI cJ cZ q I J a b) H1 := hB
  clear hB hz1 hk1 ht hvm
  generalize H1 = H at hP hS ⊢
  refine lv_istore_n (lv' := [(1, .int x_14), (0, .ref (q 0))]) hx hb dX7_learn_4 rfl hl (by decide) rfl (fun ls hl => ?_)
  refine lv_aload_n hx hb dX7_learn_5 rfl (lv_at hl 1 rfl) ?_
  refine va_get (D := D) (ci := 7) (v := .int (I 13)) (C := RX7) (T := TX7) (N := 38) hx hb hts in_X7_learn_X7 hown hK hP 0 rfl rfl 23 (by decide) (hts (.fieldLink RX7 83 "LearnedReasonsModel" "choiceCount" "I") (by decide +kernel)) (fun _ h9 => h9) rfl dX7_learn_6 ?_
  refine lv_iconst (v := 1) hx hb dX7_learn_9 (by decide) ?_
  refine lv_isub hx hb dX7_learn_10 ?_
  refine lv_topi (fun v_15 ev_15 => ?_)
  have h := nmI_at ev_15 h
  refine lv_istore_n (lv' := [(2, .int v_15), (1, .int x_14), (0, .ref (q 0))]) hx hb dX7_learn_11 rfl hl (by decide) rfl (fun ls hl => ?_)
  exact C12 F x_14 v_15 (I 10) (I 11) (I 12) h _ _ hP hS ls (lv_sub hl [2, 1, 0] rfl)
theorem in_X7_runSearch_X7 : ∀ w ∈ wsX70, w ∈ wsX7_runSearch := by decide +kernel
set_option maxHeartbeats 4000000 in
set_option maxRecDepth 100000 in
theorem c_X7_runSearch (l : Launch) (D : va_G) (cI cJ cZ : ClassId) (q : Nat → Nat) (hq : MUQ q) (F : Nat) (I : Nat → Int32) (J : Nat → Int64) (a : Nat → Nat → Int32) (b : Nat → Nat → Int64) (x0 : Int32 × Int32 × Int32 × Int32 × Int32 × Int32 × Int32 × Int32 × Int32 × Int32 × (Nat → Int32) × (Nat → Int32)) (h : f_X7_runSearch F I J a b = some x0) : Met l yX7_runSearch wsX7_runSearch ({ frames := 4, cells := 0, slots := 0, locals := 97 }) (MUPc D cI cJ cZ q I J a b [.ref (q 0)]) (va_Qv (fun (u : Int32 × Int32 × Int32 × Int32 × Int32 × Int32 × Int32 × Int32 × Int32 × Int32 × (Nat → Int32) × (Nat → Int32)) => u = x0) (fun (u : Int32 × Int32 × Int32 × Int32 × Int32 × Int32 × Int32 × Int32 × Int32 × Int32 × (Nat → Int32) × (Nat → Int32)) t => va_P D vwCl (MUW cI cJ cZ q (fu (fu (fu (fu (fu (fu (fu (fu (fu (fu I 9 u.1) 10 u.2.1) 11 u.2.2.1) 12 u.2.2.2.1) 13 u.2.2.2.2.1) 14 u.2.2.2.2.2.1) 15 u.2.2.2.2.2.2.1) 16 u.2.2.2.2.2.2.2.1) 17 u.2.2.2.2.2.2.2.2.1) 18 u.2.2.2.2.2.2.2.2.2.1) J (fu (fu a 9 u.2.2.2.2.2.2.2.2.2.2.1) 10 u.2.2.2.2.2.2.2.2.2.2.2) b) t.heap) (MUA q)) 0 0 (MUA q) := by
  refine mt_of (cc := cX7_runSearch) (maxL := 3) (ret := none) (by decide) rfl ?_
  intro p e s m args below meth c s₁ B0 hml hv R Q hR hQ
  obtain ⟨hargs, hP, hK, hN⟩ := hv
  have hx := B0.exec
  have hb := B0.bytes
  have hr := B0.returns
  have hts := atoms_spec (ws := wsX7_runSearch) B0.pre
  have hown : s.vm.findClass RX7 = some m.cls := findClass_of_methodNamed B0.named
  have hlocks := B0.notSynchronized
  have hS : va_S (MUA q) s.heap s.heap [] := va_S.rf
  have hl := lv_entry ([.ref (q 0)]) (n := 3) (Nat.le_of_ble_eq_true rfl)
  rw [hargs, lg_entry_eq]
  rw [← hargs]
  generalize (lg_sl ([.ref (q 0)]) ++ List.replicate (3 - (lg_sl ([.ref (q 0)])).length) Slot.unset).toArray = ls at hl ⊢
  have hl : lv_has ls 3 [(0, .ref (q 0))] := hl
  unfold f_X7_runSearch at h
  have C47 : ∀ (n47 : Nat) (v1 : Int32) (I9 : Int32) (I10 : Int32) (I11 : Int32) (I12 : Int32) (I13 : Int32) (I14 : Int32) (I15 : Int32) (I16 : Int32) (I17 : Int32) (a9 : Nat → Int32) (a10 : Nat → Int32), k_X7_runSearch_47 F I J a b n47 v1 I9 I10 I11 I12 I13 I14 I15 I16 I17 a9 a10 = some x0 → ∀ (H : Heap) (locs : List Loc), va_P D vwCl (MUW cI cJ cZ q (fu (fu (fu (fu (fu (fu (fu (fu (fu I 9 I9) 10 I10) 11 I11) 12 I12) 13 I13) 14 I14) 15 I15) 16 I16) 17 I17) J (fu (fu a 9 a9) 10 a10) b) H → va_S (MUA q) s.heap H locs → ∀ ls : Array Slot, lv_has ls 3 [(0, .ref (q 0)), (1, .int v1)] → W p l e R s m args below meth c H locs 0 0 Q (F0 m 47 ls []) := by
    intro n47
    induction n47 with
    | zero => intro v1 I9 I10 I11 I12 I13 I14 I15 I16 I17 a9 a10 h; rw [k_X7_runSearch_47] at h; cases h
    | succ n47 ih47 =>
      intro v1 I9 I10 I11 I12 I13 I14 I15 I16 I17 a9 a10 h H locs hP hS ls hl
      rw [k_X7_runSearch_47] at h
      have C114 : ∀ (n114 : Nat) (v1 : Int32) (v2 : Int32) (I9 : Int32) (I10 : Int32) (I11 : Int32) (I12 : Int32) (I13 : Int32) (I14 : Int32) (I15 : Int32) (I16 : Int32) (I17 : Int32) (a9 : Nat → Int32) (a10 : Nat → Int32), k_X7_runSearch_114 F I J a b (k_X7_runSearch_47 F I J a b n47) n114 v1 v2 I9 I10 I11 I12 I13 I14 I15 I16 I17 a9 a10 = some x0 → ∀ (H : Heap) (locs : List Loc), va_P D vwCl (MUW cI cJ cZ q (fu (fu (fu (fu (fu (fu (fu (fu (fu I 9 I9) 10 I10) 11 I11) 12 I12) 13 I13) 14 I14) 15 I15) 16 I16) 17 I17) J (fu (fu a 9 a9) 10 a10) b) H → va_S (MUA q) s.heap H locs → ∀ ls : Array Slot, lv_has ls 3 [(0, .ref (q 0)), (1, .int v1), (2, .int v2)] → W p l e R s m args below meth c H locs 0 0 Q (F0 m 114 ls []) := by
        intro n114
        induction n114 with
        | zero => intro v1 v2 I9 I10 I11 I12 I13 I14 I15 I16 I17 a9 a10 h; rw [k_X7_runSearch_114] at h; cases h
        | succ n114 ih114 =>
          intro v1 v2 I9 I10 I11 I12 I13 I14 I15 I16 I17 a9 a10 h H locs hP hS ls hl
          rw [k_X7_runSearch_114] at h
          refine lv_aload_n hx hb dX7_runSearch_114 rfl (lv_at hl 0 rfl) ?_
          refine va_get (D := D) (ci := 7) (v := .int I10) (C := RX7) (T := TX7) (N := 38) hx hb hts in_X7_runSearch_X7 hown hK hP 0 rfl rfl 19 (by decide) (hts (.fieldLink RX7 48 "LearnedReasonsModel" "yes" "I") (by decide +kernel)) (fun _ h9 => h9) rfl dX7_runSearch_115 ?_
          refine lv_aload_n hx hb dX7_runSearch_118 rfl (lv_at hl 0 rfl) ?_
          refine va_get (D := D) (ci := 7) (v := .int I11) (C := RX7) (T := TX7) (N := 38) hx hb hts in_X7_runSearch_X7 hown hK hP 0 rfl rfl 20 (by decide) (hts (.fieldLink RX7 52 "LearnedReasonsModel" "no" "I") (by decide +kernel)) (fun _ h9 => h9) rfl dX7_runSearch_119 ?_
          refine lv_ior hx hb dX7_runSearch_122 ?_
          refine lv_iload_n hx hb dX7_runSearch_123 rfl (lv_at hl 2 rfl) ?_
          refine lv_ishr hx hb dX7_runSearch_124 ?_
          refine lv_iconst (v := 1) hx hb dX7_runSearch_125 (by decide) ?_
          refine lv_iand hx hb dX7_runSearch_126 ?_
          refine lv_iconst (v := 1) hx hb dX7_runSearch_127 (by decide) ?_
          refine lv_icmp_ne (tgt := 137) hx hb dX7_runSearch_128 (by decide) (fun c_1 => ?_) (fun c_1 => ?_)
          · have h := if_f c_1 h
            refine lv_aload_n hx hb dX7_runSearch_137 rfl (lv_at hl 0 rfl) ?_
            refine va_get (D := D) (ci := 7) (v := .ref (q 10)) (C := RX7) (T := TX7) (N := 38) hx hb hts in_X7_runSearch_X7 hown hK hP 0 rfl rfl 22 (by decide) (hts (.fieldLink RX7 38 "LearnedReasonsModel" "choices" "[I") (by decide +kernel)) (fun _ h9 => h9) rfl dX7_runSearch_138 ?_
            refine lv_aload_n hx hb dX7_runSearch_141 rfl (lv_at hl 0 rfl) ?_
            refine va_get (D := D) (ci := 7) (v := .int I13) (C := RX7) (T := TX7) (N := 38) hx hb hts in_X7_runSearch_X7 hown hK hP 0 rfl rfl 23 (by decide) (hts (.fieldLink RX7 83 "LearnedReasonsModel" "choiceCount" "I") (by decide +kernel)) (fun _ h9 => h9) rfl dX7_runSearch_142 ?_
            refine lv_iload_n hx hb dX7_runSearch_145 rfl (lv_at hl 2 rfl) ?_
            obtain ⟨g_2, h⟩ := gd_some h
            refine va_iast hx hb hK hP (MUW_D hq) hS 10 0 rfl rfl g_2 dX7_runSearch_146 (fun H locs hP _ hS => ?_)
            have hP : va_P D vwCl (MUW cI cJ cZ q (fu (fu (fu (fu (fu (fu (fu (fu (fu I 9 I9) 10 I10) 11 I11) 12 I12) 13 I13) 14 I14) 15 I15) 16 I16) 17 I17) J (fu (fu a 9 (upd a9 I13.toNatClampNeg v2)) 10 a10) b) H := hP
            refine lv_aload_n hx hb dX7_runSearch_147 rfl (lv_at hl 0 rfl) ?_
            refine lv_dup hx hb dX7_runSearch_148 rfl ?_
            refine va_get (D := D) (ci := 7) (v := .int I13) (C := RX7) (T := TX7) (N := 38) hx hb hts in_X7_runSearch_X7 hown hK hP 0 rfl rfl 23 (by decide) (hts (.fieldLink RX7 83 "LearnedReasonsModel" "choiceCount" "I") (by decide +kernel)) (fun _ h9 => h9) rfl dX7_runSearch_149 ?_
            refine lv_iconst (v := 1) hx hb dX7_runSearch_152 (by decide) ?_
            refine lv_iadd hx hb dX7_runSearch_153 ?_
            refine lv_topi (fun v_3 ev_3 => ?_)
            have h := nmI_at ev_3 h
            refine va_put (D := D) (ci := 7) (v := .int v_3) (ty := .int) (C := RX7) (T := TX7) (N := 38) hx hb hts in_X7_runSearch_X7 tyX7 tyX7_ok nmX7 hown hK hP (MUW_D hq) hS 0 rfl rfl 23 (by decide) (hts (.fieldLink RX7 83 "LearnedReasonsModel" "choiceCount" "I") (by decide +kernel)) (fun _ h9 => h9) rfl (by decide +kernel) rfl rfl (Nat.le_of_ble_eq_true rfl) dX7_runSearch_154 (fun H locs hP _ hS => ?_)
            have hP : va_P D vwCl (MUW cI cJ cZ q (fu (fu (fu (fu (fu (fu (fu (fu (fu I 9 I9) 10 I10) 11 I11) 12 I12) 13 v_3) 14 I14) 15 I15) 16 I16) 17 I17) J (fu (fu a 9 (upd a9 I13.toNatClampNeg v2)) 10 a10) b) H := hP
            refine lv_aload_n hx hb dX7_runSearch_157 rfl (lv_at hl 0 rfl) ?_
            refine lv_dup hx hb dX7_runSearch_158 rfl ?_
            refine va_get (D := D) (ci := 7) (v := .int I16) (C := RX7) (T := TX7) (N := 38) hx hb hts in_X7_runSearch_X7 hown hK hP 0 rfl rfl 27 (by decide) (hts (.fieldLink RX7 100 "LearnedReasonsModel" "chosen" "I") (by decide +kernel)) (fun _ h9 => h9) rfl dX7_runSearch_159 ?_
            refine lv_iconst (v := 1) hx hb dX7_runSearch_162 (by decide) ?_
            refine lv_iadd hx hb dX7_runSearch_163 ?_
            refine lv_topi (fun v_4 ev_4 => ?_)
            have h := nmI_at ev_4 h
            refine va_put (D := D) (ci := 7) (v := .int v_4) (ty := .int) (C := RX7) (T := TX7) (N := 38) hx hb hts in_X7_runSearch_X7 tyX7 tyX7_ok nmX7 hown hK hP (MUW_D hq) hS 0 rfl rfl 27 (by decide) (hts (.fieldLink RX7 100 "LearnedReasonsModel" "chosen" "I") (by decide +kernel)) (fun _ h9 => h9) rfl (by decide +kernel) rfl rfl (Nat.le_of_ble_eq_true rfl) dX7_runSearch_164 (fun H locs hP _ hS => ?_)
            have hP : va_P D vwCl (MUW cI cJ cZ q (fu (fu (fu (fu (fu (fu (fu (fu (fu I 9 I9) 10 I10) 11 I11) 12 I12) 13 v_3) 14 I14) 15 I15) 16 v_4) 17 I17) J (fu (fu a 9 (upd a9 I13.toNatClampNeg v2)) 10 a10) b) H := hP
            refine lv_goto (tgt := 47) hx hb dX7_runSearch_167 (by decide) ?_
            exact ih47 v1 I9 I10 I11 I12 v_3 I14 I15 v_4 I17 (upd a9 I13.toNatClampNeg v2) a10 h _ _ hP hS ls (lv_sub hl [0, 1] rfl)
          · have h := if_t c_1 h
            refine lv_iinc (v := v2 + 1) (lv' := [(2, .int (v2 + 1)), (0, .ref (q 0)), (1, .int v1)]) hx hb dX7_runSearch_131 hl (k := 2) rfl rfl (by decide) rfl (fun ls hl => ?_)
            refine lv_goto (tgt := 114) hx hb dX7_runSearch_134 (by decide) ?_
            exact ih114 v1 (v2 + 1) I9 I10 I11 I12 I13 I14 I15 I16 I17 a9 a10 h _ _ hP hS ls (lv_sub hl [1, 2, 0] rfl)
      refine lv_aload_n hx hb dX7_runSearch_47 rfl (lv_at hl 0 rfl) ?_
      refine lv_iconst (v := 0) hx hb dX7_runSearch_48 (by decide) ?_
      refine lv_aload_n hx hb dX7_runSearch_49 rfl (lv_at hl 0 rfl) ?_
      obtain ⟨x_5, hx_5, h⟩ := ob_some h
      refine va_calli (va_runV (As := []) (rest := [.int 0, .ref (q 0)]) ⟨hx, hb, hml, hown, hts⟩ (c_X7_choiceSet l D cI cJ cZ q hq F (fu (fu (fu (fu (fu (fu (fu (fu (fu I 9 I9) 10 I10) 11 I11) 12 I12) 13 I13) 14 I14) 15 I15) 16 I16) 17 I17) J (fu (fu a 9 a9) 10 a10) b x_5 hx_5) (cwV 0 hts gX7_runSearch_X7_choiceSet rfl rfl rfl (by decide +kernel) (by rw [hR]; exact ⟨Nat.le_of_ble_eq_true rfl, Nat.le_of_ble_eq_true rfl⟩)) ⟨MUPc_blind, va_recv hK hP (ci := 7) (q0 := 0) rfl rfl, fun U hU hW => ⟨rfl, by rw [hU]; exact hP, va_K.moved hW.alike hK, trivial⟩⟩ rfl rfl hl.1 rfl (lv_room (Nat.le_of_ble_eq_true rfl)) dX7_runSearch_50 ⟨Nat.zero_le _, Nat.zero_le _⟩) hS (fun _ _ h => h) (fun _ h => h) (fun r u t H1 locs ht hvm hw hB hz1 hk1 hS => ?_)
      obtain rfl := hw.symm
      rw [ht] at hB
      have hP : va_P D vwCl (MUW cI cJ cZ q (fu (fu (fu (fu (fu (fu (fu (fu (fu I 9 I9) 10 I10) 11 I11) 12 I12) 13 I13) 14 I14) 15 I15) 16 I16) 17 I17) J (fu (fu a 9 a9) 10 a10) b) H1 := hB
      clear hB hz1 hk1 ht hvm
      generalize H1 = H at hP hS ⊢
      refine lv_iconst (v := 1) hx hb dX7_runSearch_53 (by decide) ?_
      obtain ⟨x_6, hx_6, h⟩ := ob_some h
      refine va_calli (va_runV (As := [.int 0, .int x_5, .int 1]) (rest := []) ⟨hx, hb, hml, hown, hts⟩ (c_X7_conflicts l D cI cJ cZ q hq F (fu (fu (fu (fu (fu (fu (fu (fu (fu I 9 I9) 10 I10) 11 I11) 12 I12) 13 I13) 14 I14) 15 I15) 16 I16) 17 I17) J (fu (fu a 9 a9) 10 a10) b 0 x_5 1 x_6 hx_6) (cwV 3 hts gX7_runSearch_X7_conflicts rfl rfl rfl (by decide +kernel) (by rw [hR]; exact ⟨Nat.le_of_ble_eq_true rfl, Nat.le_of_ble_eq_true rfl⟩)) ⟨MUPc_blind, va_recv hK hP (ci := 7) (q0 := 0) rfl rfl, fun U hU hW => ⟨rfl, by rw [hU]; exact hP, va_K.moved hW.alike hK, trivial⟩⟩ rfl rfl hl.1 rfl (lv_room (Nat.le_of_ble_eq_true rfl)) dX7_runSearch_54 ⟨Nat.zero_le _, Nat.zero_le _⟩) hS (fun _ _ h => h) (fun _ h => h) (fun r u t H1 locs ht hvm hw hB hz1 hk1 hS => ?_)
      obtain ⟨rfl, rfl⟩ := hw
      rw [ht] at hB
      have hP : va_P D vwCl (MUW cI cJ cZ q (fu (fu (fu (fu (fu (fu (fu (fu (fu I 9 I9) 10 x_6.2.1) 11 x_6.2.2.1) 12 x_6.2.2.2) 13 I13) 14 I14) 15 I15) 16 I16) 17 I17) J (fu (fu a 9 a9) 10 a10) b) H1 := hB
      clear hB hz1 hk1 ht hvm
      generalize H1 = H at hP hS ⊢
      refine lv_if_eq (tgt := 85) hx hb dX7_runSearch_57 (by decide) (fun c_7 => ?_) (fun c_7 => ?_)
      · have h := if_t c_7 h
        refine lv_aload_n hx hb dX7_runSearch_85 rfl (lv_at hl 0 rfl) ?_
        refine va_get (D := D) (ci := 7) (v := .int x_6.2.1) (C := RX7) (T := TX7) (N := 38) hx hb hts in_X7_runSearch_X7 hown hK hP 0 rfl rfl 19 (by decide) (hts (.fieldLink RX7 48 "LearnedReasonsModel" "yes" "I") (by decide +kernel)) (fun _ h9 => h9) rfl dX7_runSearch_86 ?_
        refine lv_aload_n hx hb dX7_runSearch_89 rfl (lv_at hl 0 rfl) ?_
        refine va_get (D := D) (ci := 7) (v := .int x_6.2.2.1) (C := RX7) (T := TX7) (N := 38) hx hb hts in_X7_runSearch_X7 hown hK hP 0 rfl rfl 20 (by decide) (hts (.fieldLink RX7 52 "LearnedReasonsModel" "no" "I") (by decide +kernel)) (fun _ h9 => h9) rfl dX7_runSearch_90 ?_
        refine lv_ior hx hb dX7_runSearch_93 ?_
        refine lv_iload_n hx hb dX7_runSearch_94 rfl (lv_at hl 1 rfl) ?_
        refine lv_icmp_ne (tgt := 112) hx hb dX7_runSearch_95 (by decide) (fun c_8 => ?_) (fun c_8 => ?_)
        · have h := if_f c_8 h
          refine lv_iconst (v := 0) hx hb dX7_runSearch_112 (by decide) ?_
          refine lv_istore_n (lv' := [(2, .int 0), (0, .ref (q 0)), (1, .int v1)]) hx hb dX7_runSearch_113 rfl hl (by decide) rfl (fun ls hl => ?_)
          exact C114 F v1 0 I9 x_6.2.1 x_6.2.2.1 x_6.2.2.2 I13 I14 I15 I16 I17 a9 a10 h _ _ hP hS ls (lv_sub hl [1, 2, 0] rfl)
        · have h := if_t c_8 h
          refine lv_aload_n hx hb dX7_runSearch_98 rfl (lv_at hl 0 rfl) ?_
          refine lv_iconst (v := 1) hx hb dX7_runSearch_99 (by decide) ?_
          refine va_put (D := D) (ci := 7) (v := .int 1) (ty := .boolean) (C := RX7) (T := TX7) (N := 38) hx hb hts in_X7_runSearch_X7 tyX7 tyX7_ok nmX7 hown hK hP (MUW_D hq) hS 0 rfl rfl 28 (by decide) (hts (.fieldLink RX7 103 "LearnedReasonsModel" "hasModel" "Z") (by decide +kernel)) (fun _ h9 => h9) rfl (by decide +kernel) rfl rfl (Nat.le_of_ble_eq_true rfl) dX7_runSearch_100 (fun H locs hP _ hS => ?_)
          have hP : va_P D vwCl (MUW cI cJ cZ q (fu (fu (fu (fu (fu (fu (fu (fu (fu I 9 I9) 10 x_6.2.1) 11 x_6.2.2.1) 12 x_6.2.2.2) 13 I13) 14 I14) 15 I15) 16 I16) 17 1) J (fu (fu a 9 a9) 10 a10) b) H := hP
          refine lv_aload_n hx hb dX7_runSearch_103 rfl (lv_at hl 0 rfl) ?_
          refine lv_aload_n hx hb dX7_runSearch_104 rfl (lv_at hl 0 rfl) ?_
          refine va_get (D := D) (ci := 7) (v := .int x_6.2.1) (C := RX7) (T := TX7) (N := 38) hx hb hts in_X7_runSearch_X7 hown hK hP 0 rfl rfl 19 (by decide) (hts (.fieldLink RX7 48 "LearnedReasonsModel" "yes" "I") (by decide +kernel)) (fun _ h9 => h9) rfl dX7_runSearch_105 ?_
          refine va_put (D := D) (ci := 7) (v := .int x_6.2.1) (ty := .int) (C := RX7) (T := TX7) (N := 38) hx hb hts in_X7_runSearch_X7 tyX7 tyX7_ok nmX7 hown hK hP (MUW_D hq) hS 0 rfl rfl 29 (by decide) (hts (.fieldLink RX7 109 "LearnedReasonsModel" "modelYes" "I") (by decide +kernel)) (fun _ h9 => h9) rfl (by decide +kernel) rfl rfl (Nat.le_of_ble_eq_true rfl) dX7_runSearch_108 (fun H locs hP _ hS => ?_)
          have hP : va_P D vwCl (MUW cI cJ cZ q (fu (fu (fu (fu (fu (fu (fu (fu (fu (fu I 9 I9) 10 x_6.2.1) 11 x_6.2.2.1) 12 x_6.2.2.2) 13 I13) 14 I14) 15 I15) 16 I16) 17 1) 18 x_6.2.1) J (fu (fu a 9 a9) 10 a10) b) H := hP
          have hx0 := Option.some.inj h
          rw [hQ]
          exact W.vret hx hb hr (fun t ht hW => ⟨⟨(I9, x_6.2.1, x_6.2.2.1, x_6.2.2.2, I13, I14, I15, I16, 1, x_6.2.1, a9, a10), rfl, hx0, by show va_P _ _ _ t.heap; rw [ht]; exact hP⟩, hS.F ht⟩) hS.2.2 dX7_runSearch_111
      · have h := if_f c_7 h
        refine lv_aload_n hx hb dX7_runSearch_60 rfl (lv_at hl 0 rfl) ?_
        refine lv_dup hx hb dX7_runSearch_61 rfl ?_
        refine va_get (D := D) (ci := 7) (v := .int I15) (C := RX7) (T := TX7) (N := 38) hx hb hts in_X7_runSearch_X7 hown hK hP 0 rfl rfl 26 (by decide) (hts (.fieldLink RX7 97 "LearnedReasonsModel" "conflictCount" "I") (by decide +kernel)) (fun _ h9 => h9) rfl dX7_runSearch_62 ?_
        refine lv_iconst (v := 1) hx hb dX7_runSearch_65 (by decide) ?_
        refine lv_iadd hx hb dX7_runSearch_66 ?_
        refine lv_topi (fun v_9 ev_9 => ?_)
        have h := nmI_at ev_9 h
        refine va_put (D := D) (ci := 7) (v := .int v_9) (ty := .int) (C := RX7) (T := TX7) (N := 38) hx hb hts in_X7_runSearch_X7 tyX7 tyX7_ok nmX7 hown hK hP (MUW_D hq) hS 0 rfl rfl 26 (by decide) (hts (.fieldLink RX7 97 "LearnedReasonsModel" "conflictCount" "I") (by decide +kernel)) (fun _ h9 => h9) rfl (by decide +kernel) rfl rfl (Nat.le_of_ble_eq_true rfl) dX7_runSearch_67 (fun H locs hP _ hS => ?_)
        have hP : va_P D vwCl (MUW cI cJ cZ q (fu (fu (fu (fu (fu (fu (fu (fu (fu I 9 I9) 10 x_6.2.1) 11 x_6.2.2.1) 12 x_6.2.2.2) 13 I13) 14 I14) 15 v_9) 16 I16) 17 I17) J (fu (fu a 9 a9) 10 a10) b) H := hP
        refine lv_aload_n hx hb dX7_runSearch_70 rfl (lv_at hl 0 rfl) ?_
        refine va_get (D := D) (ci := 7) (v := .int I13) (C := RX7) (T := TX7) (N := 38) hx hb hts in_X7_runSearch_X7 hown hK hP 0 rfl rfl 23 (by decide) (hts (.fieldLink RX7 83 "LearnedReasonsModel" "choiceCount" "I") (by decide +kernel)) (fun _ h9 => h9) rfl dX7_runSearch_71 ?_
        refine lv_if_ne (tgt := 78) hx hb dX7_runSearch_74 (by decide) (fun c_10 => ?_) (fun c_10 => ?_)
        · have h := if_f c_10 h
          refine lv_aload_n hx hb dX7_runSearch_78 rfl (lv_at hl 0 rfl) ?_
          obtain ⟨x_11, hx_11, h⟩ := ob_some h
          refine va_callv (va_runV (As := []) (rest := []) ⟨hx, hb, hml, hown, hts⟩ (c_X7_learn l D cI cJ cZ q hq F (fu (fu (fu (fu (fu (fu (fu (fu (fu I 9 I9) 10 x_6.2.1) 11 x_6.2.2.1) 12 x_6.2.2.2) 13 I13) 14 I14) 15 v_9) 16 I16) 17 I17) J (fu (fu a 9 a9) 10 a10) b x_11 hx_11) (cwV 0 hts gX7_runSearch_X7_learn rfl rfl rfl (by decide +kernel) (by rw [hR]; exact ⟨Nat.le_of_ble_eq_true rfl, Nat.le_of_ble_eq_true rfl⟩)) ⟨MUPc_blind, va_recv hK hP (ci := 7) (q0 := 0) rfl rfl, fun U hU hW => ⟨rfl, by rw [hU]; exact hP, va_K.moved hW.alike hK, trivial⟩⟩ rfl rfl hl.1 rfl (lv_room (Nat.le_of_ble_eq_true rfl)) dX7_runSearch_79 ⟨Nat.zero_le _, Nat.zero_le _⟩) hS (fun _ _ h => h) (fun _ h => h) (fun u t H1 locs ht hvm hw hB hz1 hk1 hS => ?_)
          obtain rfl := hw.symm
          rw [ht] at hB
          have hP : va_P D vwCl (MUW cI cJ cZ q (fu (fu (fu (fu (fu (fu (fu (fu (fu I 9 I9) 10 x_11.1) 11 x_11.2.1) 12 x_11.2.2.1) 13 x_11.2.2.2.1) 14 x_11.2.2.2.2.1) 15 v_9) 16 I16) 17 I17) J (fu (fu a 9 a9) 10 x_11.2.2.2.2.2) b) H1 := hB
          clear hB hz1 hk1 ht hvm
          generalize H1 = H at hP hS ⊢
          refine lv_goto (tgt := 47) hx hb dX7_runSearch_82 (by decide) ?_
          exact ih47 v1 I9 x_11.1 x_11.2.1 x_11.2.2.1 x_11.2.2.2.1 x_11.2.2.2.2.1 v_9 I16 I17 a9 x_11.2.2.2.2.2 h _ _ hP hS ls (lv_sub hl [0, 1] rfl)
        · have h := if_t c_10 h
          have hx0 := Option.some.inj h
          rw [hQ]
          exact W.vret hx hb hr (fun t ht hW => ⟨⟨(I9, x_6.2.1, x_6.2.2.1, x_6.2.2.2, I13, I14, v_9, I16, I17, (I 18), a9, a10), rfl, hx0, by show va_P _ _ _ t.heap; rw [ht]; exact hP⟩, hS.F ht⟩) hS.2.2 dX7_runSearch_77
  refine lv_aload_n hx hb dX7_runSearch_0 rfl (lv_at hl 0 rfl) ?_
  refine va_get (D := D) (ci := 7) (v := .int (I 9)) (C := RX7) (T := TX7) (N := 38) hx hb hts in_X7_runSearch_X7 hown hK hP 0 rfl rfl 18 (by decide) (hts (.fieldLink RX7 94 "LearnedReasonsModel" "searched" "Z") (by decide +kernel)) (fun _ h9 => h9) rfl dX7_runSearch_1 ?_
  refine lv_if_eq (tgt := 8) hx hb dX7_runSearch_4 (by decide) (fun c_12 => ?_) (fun c_12 => ?_)
  · have h := if_t c_12 h
    refine lv_aload_n hx hb dX7_runSearch_8 rfl (lv_at hl 0 rfl) ?_
    refine lv_iconst (v := 1) hx hb dX7_runSearch_9 (by decide) ?_
    refine va_put (D := D) (ci := 7) (v := .int 1) (ty := .boolean) (C := RX7) (T := TX7) (N := 38) hx hb hts in_X7_runSearch_X7 tyX7 tyX7_ok nmX7 hown hK hP (MUW_D hq) hS 0 rfl rfl 18 (by decide) (hts (.fieldLink RX7 94 "LearnedReasonsModel" "searched" "Z") (by decide +kernel)) (fun _ h9 => h9) rfl (by decide +kernel) rfl rfl (Nat.le_of_ble_eq_true rfl) dX7_runSearch_10 (fun H locs hP _ hS => ?_)
    have hP : va_P D vwCl (MUW cI cJ cZ q (fu I 9 1) J a b) H := hP
    refine lv_aload_n hx hb dX7_runSearch_13 rfl (lv_at hl 0 rfl) ?_
    refine lv_iconst (v := 0) hx hb dX7_runSearch_14 (by decide) ?_
    refine va_put (D := D) (ci := 7) (v := .int 0) (ty := .int) (C := RX7) (T := TX7) (N := 38) hx hb hts in_X7_runSearch_X7 tyX7 tyX7_ok nmX7 hown hK hP (MUW_D hq) hS 0 rfl rfl 23 (by decide) (hts (.fieldLink RX7 83 "LearnedReasonsModel" "choiceCount" "I") (by decide +kernel)) (fun _ h9 => h9) rfl (by decide +kernel) rfl rfl (Nat.le_of_ble_eq_true rfl) dX7_runSearch_15 (fun H locs hP _ hS => ?_)
    have hP : va_P D vwCl (MUW cI cJ cZ q (fu (fu I 9 1) 13 0) J a b) H := hP
    refine lv_aload_n hx hb dX7_runSearch_18 rfl (lv_at hl 0 rfl) ?_
    refine lv_iconst (v := 0) hx hb dX7_runSearch_19 (by decide) ?_
    refine va_put (D := D) (ci := 7) (v := .int 0) (ty := .int) (C := RX7) (T := TX7) (N := 38) hx hb hts in_X7_runSearch_X7 tyX7 tyX7_ok nmX7 hown hK hP (MUW_D hq) hS 0 rfl rfl 25 (by decide) (hts (.fieldLink RX7 77 "LearnedReasonsModel" "learnedCount" "I") (by decide +kernel)) (fun _ h9 => h9) rfl (by decide +kernel) rfl rfl (Nat.le_of_ble_eq_true rfl) dX7_runSearch_20 (fun H locs hP _ hS => ?_)
    have hP : va_P D vwCl (MUW cI cJ cZ q (fu (fu (fu I 9 1) 13 0) 14 0) J a b) H := hP
    refine lv_aload_n hx hb dX7_runSearch_23 rfl (lv_at hl 0 rfl) ?_
    refine lv_iconst (v := 0) hx hb dX7_runSearch_24 (by decide) ?_
    refine va_put (D := D) (ci := 7) (v := .int 0) (ty := .int) (C := RX7) (T := TX7) (N := 38) hx hb hts in_X7_runSearch_X7 tyX7 tyX7_ok nmX7 hown hK hP (MUW_D hq) hS 0 rfl rfl 26 (by decide) (hts (.fieldLink RX7 97 "LearnedReasonsModel" "conflictCount" "I") (by decide +kernel)) (fun _ h9 => h9) rfl (by decide +kernel) rfl rfl (Nat.le_of_ble_eq_true rfl) dX7_runSearch_25 (fun H locs hP _ hS => ?_)
    have hP : va_P D vwCl (MUW cI cJ cZ q (fu (fu (fu (fu I 9 1) 13 0) 14 0) 15 0) J a b) H := hP
    refine lv_aload_n hx hb dX7_runSearch_28 rfl (lv_at hl 0 rfl) ?_
    refine lv_iconst (v := 0) hx hb dX7_runSearch_29 (by decide) ?_
    refine va_put (D := D) (ci := 7) (v := .int 0) (ty := .int) (C := RX7) (T := TX7) (N := 38) hx hb hts in_X7_runSearch_X7 tyX7 tyX7_ok nmX7 hown hK hP (MUW_D hq) hS 0 rfl rfl 27 (by decide) (hts (.fieldLink RX7 100 "LearnedReasonsModel" "chosen" "I") (by decide +kernel)) (fun _ h9 => h9) rfl (by decide +kernel) rfl rfl (Nat.le_of_ble_eq_true rfl) dX7_runSearch_30 (fun H locs hP _ hS => ?_)
    have hP : va_P D vwCl (MUW cI cJ cZ q (fu (fu (fu (fu (fu I 9 1) 13 0) 14 0) 15 0) 16 0) J a b) H := hP
    refine lv_aload_n hx hb dX7_runSearch_33 rfl (lv_at hl 0 rfl) ?_
    refine lv_iconst (v := 0) hx hb dX7_runSearch_34 (by decide) ?_
    refine va_put (D := D) (ci := 7) (v := .int 0) (ty := .boolean) (C := RX7) (T := TX7) (N := 38) hx hb hts in_X7_runSearch_X7 tyX7 tyX7_ok nmX7 hown hK hP (MUW_D hq) hS 0 rfl rfl 28 (by decide) (hts (.fieldLink RX7 103 "LearnedReasonsModel" "hasModel" "Z") (by decide +kernel)) (fun _ h9 => h9) rfl (by decide +kernel) rfl rfl (Nat.le_of_ble_eq_true rfl) dX7_runSearch_35 (fun H locs hP _ hS => ?_)
    have hP : va_P D vwCl (MUW cI cJ cZ q (fu (fu (fu (fu (fu (fu I 9 1) 13 0) 14 0) 15 0) 16 0) 17 0) J a b) H := hP
    refine lv_iconst (v := 1) hx hb dX7_runSearch_38 (by decide) ?_
    refine lv_aload_n hx hb dX7_runSearch_39 rfl (lv_at hl 0 rfl) ?_
    refine va_get (D := D) (ci := 7) (v := .int (I 0)) (C := RX7) (T := TX7) (N := 38) hx hb hts in_X7_runSearch_X7 hown hK hP 0 rfl rfl 0 (by decide) (hts (.fieldLink RX7 63 "LearnedReasonsModel" "names" "I") (by decide +kernel)) (fun _ h9 => h9) rfl dX7_runSearch_40 ?_
    refine lv_ishl hx hb dX7_runSearch_43 ?_
    refine lv_iconst (v := 1) hx hb dX7_runSearch_44 (by decide) ?_
    refine lv_isub hx hb dX7_runSearch_45 ?_
    refine lv_topi (fun v_13 ev_13 => ?_)
    have h := nmI_at ev_13 h
    refine lv_istore_n (lv' := [(1, .int v_13), (0, .ref (q 0))]) hx hb dX7_runSearch_46 rfl hl (by decide) rfl (fun ls hl => ?_)
    exact C47 F v_13 1 (I 10) (I 11) (I 12) 0 0 0 0 0 (a 9) (a 10) h _ _ hP hS ls (lv_sub hl [1, 0] rfl)
  · have h := if_f c_12 h
    have hx0 := Option.some.inj h
    rw [hQ]
    exact W.vret hx hb hr (fun t ht hW => ⟨⟨((I 9), (I 10), (I 11), (I 12), (I 13), (I 14), (I 15), (I 16), (I 17), (I 18), (a 9), (a 10)), rfl, hx0, by show va_P _ _ _ t.heap; rw [ht]; exact hP⟩, hS.F ht⟩) hS.2.2 dX7_runSearch_7
