theorem in_X7_search_X7 : ∀ w ∈ wsX70, w ∈ wsX7_search := by decide +kernel
set_option maxHeartbeats 4000000 in
set_option maxRecDepth 100000 in
theorem c_X7_search (l : Launch) (D : va_G) (cI cJ cZ : ClassId) (q : Nat → Nat) (hq : MUQ q) (F : Nat) (I : Nat → Int32) (J : Nat → Int64) (a : Nat → Nat → Int32) (b : Nat → Nat → Int64) (x0 : Int32 × Int32 × Int32 × Int32 × Int32 × Int32 × Int32 × Int32 × Int32 × Int32 × Int32 × (Nat → Int32) × (Nat → Int32)) (h : f_X7_search F I J a b = some x0) : Met l yX7_search wsX7_search ({ frames := 5, cells := 0, slots := 0, locals := 119 }) (MUPc D cI cJ cZ q I J a b [.ref (q 0)]) (va_Qi (fun (r : Int32) (u : Int32 × Int32 × Int32 × Int32 × Int32 × Int32 × Int32 × Int32 × Int32 × Int32 × (Nat → Int32) × (Nat → Int32)) => r = x0.1 ∧ u = x0.2) (fun (u : Int32 × Int32 × Int32 × Int32 × Int32 × Int32 × Int32 × Int32 × Int32 × Int32 × (Nat → Int32) × (Nat → Int32)) t => va_P D vwCl (MUW cI cJ cZ q (fu (fu (fu (fu (fu (fu (fu (fu (fu (fu I 9 u.1) 10 u.2.1) 11 u.2.2.1) 12 u.2.2.2.1) 13 u.2.2.2.2.1) 14 u.2.2.2.2.2.1) 15 u.2.2.2.2.2.2.1) 16 u.2.2.2.2.2.2.2.1) 17 u.2.2.2.2.2.2.2.2.1) 18 u.2.2.2.2.2.2.2.2.2.1) J (fu (fu a 9 u.2.2.2.2.2.2.2.2.2.2.1) 10 u.2.2.2.2.2.2.2.2.2.2.2) b) t.heap) (MUA q)) 0 0 (MUA q) := by
  refine mt_of (cc := cX7_search) (maxL := 1) (ret := (some .int)) (by decide) rfl ?_
  intro p e s m args below meth c s₁ B0 hml hv R Q hR hQ
  obtain ⟨hargs, hP, hK, hN⟩ := hv
  have hx := B0.exec
  have hb := B0.bytes
  have hr := B0.returns
  have hts := atoms_spec (ws := wsX7_search) B0.pre
  have hown : s.vm.findClass RX7 = some m.cls := findClass_of_methodNamed B0.named
  have hlocks := B0.notSynchronized
  have hS : va_S (MUA q) s.heap s.heap [] := va_S.rf
  have hl := lv_entry ([.ref (q 0)]) (n := 1) (Nat.le_of_ble_eq_true rfl)
  rw [hargs, lg_entry_eq]
  rw [← hargs]
  generalize (lg_sl ([.ref (q 0)]) ++ List.replicate (1 - (lg_sl ([.ref (q 0)])).length) Slot.unset).toArray = ls at hl ⊢
  have hl : lv_has ls 1 [(0, .ref (q 0))] := hl
  unfold f_X7_search at h
  refine lv_aload_n hx hb dX7_search_0 rfl (lv_at hl 0 rfl) ?_
  obtain ⟨x_1, hx_1, h⟩ := ob_some h
  refine va_callv (va_runV (As := []) (rest := []) ⟨hx, hb, hml, hown, hts⟩ (c_X7_runSearch l D cI cJ cZ q hq F I J a b x_1 hx_1) (cwV 0 hts gX7_search_X7_runSearch rfl rfl rfl (by decide +kernel) (by rw [hR]; exact ⟨Nat.le_of_ble_eq_true rfl, Nat.le_of_ble_eq_true rfl⟩)) ⟨MUPc_blind, va_recv hK hP (ci := 7) (q0 := 0) rfl rfl, fun U hU hW => ⟨rfl, by rw [hU]; exact hP, va_K.moved hW.alike hK, trivial⟩⟩ rfl rfl hl.1 rfl (lv_room (Nat.le_of_ble_eq_true rfl)) dX7_search_1 ⟨Nat.zero_le _, Nat.zero_le _⟩) hS (fun _ _ h => h) (fun _ h => h) (fun u t H1 locs ht hvm hw hB hz1 hk1 hS => ?_)
  obtain rfl := hw.symm
  rw [ht] at hB
  have hP : va_P D vwCl (MUW cI cJ cZ q (fu (fu (fu (fu (fu (fu (fu (fu (fu (fu I 9 x_1.1) 10 x_1.2.1) 11 x_1.2.2.1) 12 x_1.2.2.2.1) 13 x_1.2.2.2.2.1) 14 x_1.2.2.2.2.2.1) 15 x_1.2.2.2.2.2.2.1) 16 x_1.2.2.2.2.2.2.2.1) 17 x_1.2.2.2.2.2.2.2.2.1) 18 x_1.2.2.2.2.2.2.2.2.2.1) J (fu (fu a 9 x_1.2.2.2.2.2.2.2.2.2.2.1) 10 x_1.2.2.2.2.2.2.2.2.2.2.2) b) H1 := hB
  clear hB hz1 hk1 ht hvm
  generalize H1 = H at hP hS ⊢
  refine lv_aload_n hx hb dX7_search_4 rfl (lv_at hl 0 rfl) ?_
  refine va_get (D := D) (ci := 7) (v := .int x_1.2.2.2.2.2.2.2.2.1) (C := RX7) (T := TX7) (N := 38) hx hb hts in_X7_search_X7 hown hK hP 0 rfl rfl 28 (by decide) (hts (.fieldLink RX7 103 "LearnedReasonsModel" "hasModel" "Z") (by decide +kernel)) (fun _ h9 => h9) rfl dX7_search_5 ?_
  refine lv_if_eq (tgt := 15) hx hb dX7_search_8 (by decide) (fun c_2 => ?_) (fun c_2 => ?_)
  · have h := if_t c_2 h
    refine lv_iconst (v := 0) hx hb dX7_search_15 (by decide) ?_
    have hx0 := Option.some.inj h
    rw [hQ]
    exact W.iret (v := 0) hx hb hr (fun t ht hW => ⟨⟨0, (x_1.1, x_1.2.1, x_1.2.2.1, x_1.2.2.2.1, x_1.2.2.2.2.1, x_1.2.2.2.2.2.1, x_1.2.2.2.2.2.2.1, x_1.2.2.2.2.2.2.2.1, x_1.2.2.2.2.2.2.2.2.1, x_1.2.2.2.2.2.2.2.2.2.1, x_1.2.2.2.2.2.2.2.2.2.2.1, x_1.2.2.2.2.2.2.2.2.2.2.2), rfl, ⟨congrArg (fun z => z.1) hx0, congrArg (fun z => z.2) hx0⟩, by show va_P _ _ _ t.heap; rw [ht]; exact hP⟩, hS.F ht⟩) hS.2.2 dX7_search_16
  · have h := if_f c_2 h
    refine lv_iconst (v := 1) hx hb dX7_search_11 (by decide) ?_
    refine lv_goto (tgt := 16) hx hb dX7_search_12 (by decide) ?_
    have hx0 := Option.some.inj h
    rw [hQ]
    exact W.iret (v := 1) hx hb hr (fun t ht hW => ⟨⟨1, (x_1.1, x_1.2.1, x_1.2.2.1, x_1.2.2.2.1, x_1.2.2.2.2.1, x_1.2.2.2.2.2.1, x_1.2.2.2.2.2.2.1, x_1.2.2.2.2.2.2.2.1, x_1.2.2.2.2.2.2.2.2.1, x_1.2.2.2.2.2.2.2.2.2.1, x_1.2.2.2.2.2.2.2.2.2.2.1, x_1.2.2.2.2.2.2.2.2.2.2.2), rfl, ⟨congrArg (fun z => z.1) hx0, congrArg (fun z => z.2) hx0⟩, by show va_P _ _ _ t.heap; rw [ht]; exact hP⟩, hS.F ht⟩) hS.2.2 dX7_search_16
theorem in_X7_isTrue_X7 : ∀ w ∈ wsX70, w ∈ wsX7_isTrue := by decide +kernel
set_option maxHeartbeats 4000000 in
set_option maxRecDepth 100000 in
theorem c_X7_isTrue (l : Launch) (D : va_G) (cI cJ cZ : ClassId) (q : Nat → Nat) (hq : MUQ q) (F : Nat) (I : Nat → Int32) (J : Nat → Int64) (a : Nat → Nat → Int32) (b : Nat → Nat → Int64) (v1 : Int32) (v2 : Int32) (x0 : Int32) (h : f_X7_isTrue F I J a b v1 v2 = some x0) : Met l yX7_isTrue wsX7_isTrue ({ frames := 0, cells := 0, slots := 0, locals := 0 }) (MUPc D cI cJ cZ q I J a b [.ref (q 0), .int v1, .int v2]) (va_Qi (fun (r : Int32) (u : Unit) => r = x0) (fun (u : Unit) t => va_P D vwCl (MUW cI cJ cZ q I J a b) t.heap) (MUA q)) 0 0 (MUA q) := by
  refine mt_of (cc := cX7_isTrue) (maxL := 3) (ret := (some .boolean)) (by decide) rfl ?_
  intro p e s m args below meth c s₁ B0 hml hv R Q hR hQ
  obtain ⟨hargs, hP, hK, hN⟩ := hv
  have hx := B0.exec
  have hb := B0.bytes
  have hr := B0.returns
  have hts := atoms_spec (ws := wsX7_isTrue) B0.pre
  have hown : s.vm.findClass RX7 = some m.cls := findClass_of_methodNamed B0.named
  have hlocks := B0.notSynchronized
  have hS : va_S (MUA q) s.heap s.heap [] := va_S.rf
  have hl := lv_entry ([.ref (q 0), .int v1, .int v2]) (n := 3) (Nat.le_of_ble_eq_true rfl)
  rw [hargs, lg_entry_eq]
  rw [← hargs]
  generalize (lg_sl ([.ref (q 0), .int v1, .int v2]) ++ List.replicate (3 - (lg_sl ([.ref (q 0), .int v1, .int v2])).length) Slot.unset).toArray = ls at hl ⊢
  have hl : lv_has ls 3 [(0, .ref (q 0)), (1, .int v1), (2, .int v2)] := hl
  unfold f_X7_isTrue at h
  refine lv_iload_n hx hb dX7_isTrue_0 rfl (lv_at hl 1 rfl) ?_
  refine lv_aload_n hx hb dX7_isTrue_1 rfl (lv_at hl 0 rfl) ?_
  refine va_get (D := D) (ci := 7) (v := .int (I 0)) (C := RX7) (T := TX7) (N := 38) hx hb hts in_X7_isTrue_X7 hown hK hP 0 rfl rfl 0 (by decide) (hts (.fieldLink RX7 63 "LearnedReasonsModel" "names" "I") (by decide +kernel)) (fun _ h9 => h9) rfl dX7_isTrue_2 ?_
  refine lv_iconst (v := 1) hx hb dX7_isTrue_5 (by decide) ?_
  refine lv_isub hx hb dX7_isTrue_6 ?_
  refine lv_iload_n hx hb dX7_isTrue_7 rfl (lv_at hl 2 rfl) ?_
  refine lv_isub hx hb dX7_isTrue_8 ?_
  refine lv_ishr hx hb dX7_isTrue_9 ?_
  refine lv_iconst (v := 1) hx hb dX7_isTrue_10 (by decide) ?_
  refine lv_iand hx hb dX7_isTrue_11 ?_
  refine lv_iconst (v := 1) hx hb dX7_isTrue_12 (by decide) ?_
  refine lv_icmp_ne (tgt := 20) hx hb dX7_isTrue_13 (by decide) (fun c_1 => ?_) (fun c_1 => ?_)
  · have h := if_f c_1 h
    refine lv_iconst (v := 0) hx hb dX7_isTrue_20 (by decide) ?_
    have hx0 := Option.some.inj h
    rw [hQ]
    exact W.zret (v := 0) hx hb hr (rfl) (fun t ht hW => ⟨⟨0, (), rfl, hx0, by show va_P _ _ _ t.heap; rw [ht]; exact hP⟩, hS.F ht⟩) hS.2.2 dX7_isTrue_21
  · have h := if_t c_1 h
    refine lv_iconst (v := 1) hx hb dX7_isTrue_16 (by decide) ?_
    refine lv_goto (tgt := 21) hx hb dX7_isTrue_17 (by decide) ?_
    have hx0 := Option.some.inj h
    rw [hQ]
    exact W.zret (v := 1) hx hb hr (rfl) (fun t ht hW => ⟨⟨1, (), rfl, hx0, by show va_P _ _ _ t.heap; rw [ht]; exact hP⟩, hS.F ht⟩) hS.2.2 dX7_isTrue_21
theorem in_X7_keeps_X7 : ∀ w ∈ wsX70, w ∈ wsX7_keeps := by decide +kernel
set_option maxHeartbeats 4000000 in
set_option maxRecDepth 100000 in
theorem c_X7_keeps (l : Launch) (D : va_G) (cI cJ cZ : ClassId) (q : Nat → Nat) (hq : MUQ q) (F : Nat) (I : Nat → Int32) (J : Nat → Int64) (a : Nat → Nat → Int32) (b : Nat → Nat → Int64) (v1 : Int32) (v2 : Int32) (x0 : Int32) (h : f_X7_keeps F I J a b v1 v2 = some x0) : Met l yX7_keeps wsX7_keeps ({ frames := 1, cells := 0, slots := 0, locals := 22 }) (MUPc D cI cJ cZ q I J a b [.ref (q 0), .int v1, .int v2]) (va_Qi (fun (r : Int32) (u : Unit) => r = x0) (fun (u : Unit) t => va_P D vwCl (MUW cI cJ cZ q I J a b) t.heap) (MUA q)) 0 0 (MUA q) := by
  refine mt_of (cc := cX7_keeps) (maxL := 6) (ret := (some .boolean)) (by decide) rfl ?_
  intro p e s m args below meth c s₁ B0 hml hv R Q hR hQ
  obtain ⟨hargs, hP, hK, hN⟩ := hv
  have hx := B0.exec
  have hb := B0.bytes
  have hr := B0.returns
  have hts := atoms_spec (ws := wsX7_keeps) B0.pre
  have hown : s.vm.findClass RX7 = some m.cls := findClass_of_methodNamed B0.named
  have hlocks := B0.notSynchronized
  have hS : va_S (MUA q) s.heap s.heap [] := va_S.rf
  have hl := lv_entry ([.ref (q 0), .int v1, .int v2]) (n := 6) (Nat.le_of_ble_eq_true rfl)
  rw [hargs, lg_entry_eq]
  rw [← hargs]
  generalize (lg_sl ([.ref (q 0), .int v1, .int v2]) ++ List.replicate (6 - (lg_sl ([.ref (q 0), .int v1, .int v2])).length) Slot.unset).toArray = ls at hl ⊢
  have hl : lv_has ls 6 [(0, .ref (q 0)), (1, .int v1), (2, .int v2)] := hl
  unfold f_X7_keeps at h
  have C8 : ∀ (n8 : Nat) (v1 : Int32) (v2 : Int32) (v3 : Int32) (v4 : Int32) (v5 : Int32), k_X7_keeps_8 F I J a b n8 v1 v2 v3 v4 v5 = some x0 → ∀ (H : Heap) (locs : List Loc), va_P D vwCl (MUW cI cJ cZ q I J a b) H → va_S (MUA q) s.heap H locs → ∀ ls : Array Slot, lv_has ls 6 [(0, .ref (q 0)), (1, .int v1), (2, .int v2), (3, .int v3), (4, .int v4), (5, .int v5)] → W p l e R s m args below meth c H locs 0 0 Q (F0 m 8 ls []) := by
    intro n8
    induction n8 with
    | zero => intro v1 v2 v3 v4 v5 h; rw [k_X7_keeps_8] at h; cases h
    | succ n8 ih8 =>
      intro v1 v2 v3 v4 v5 h H locs hP hS ls hl
      rw [k_X7_keeps_8] at h
      refine lv_iload hx hb dX7_keeps_8 (lv_at hl 5 rfl) ?_
      refine lv_aload_n hx hb dX7_keeps_10 rfl (lv_at hl 0 rfl) ?_
      refine va_get (D := D) (ci := 7) (v := .int (I 0)) (C := RX7) (T := TX7) (N := 38) hx hb hts in_X7_keeps_X7 hown hK hP 0 rfl rfl 0 (by decide) (hts (.fieldLink RX7 63 "LearnedReasonsModel" "names" "I") (by decide +kernel)) (fun _ h9 => h9) rfl dX7_keeps_11 ?_
      refine lv_icmp_ge (tgt := 105) hx hb dX7_keeps_14 (by decide) (fun c_1 => ?_) (fun c_1 => ?_)
      · have h := if_t c_1 h
        refine lv_aload_n hx hb dX7_keeps_105 rfl (lv_at hl 0 rfl) ?_
        refine va_get (D := D) (ci := 7) (v := .ref (q 2)) (C := RX7) (T := TX7) (N := 38) hx hb hts in_X7_keeps_X7 hown hK hP 0 rfl rfl 3 (by decide) (hts (.fieldLink RX7 13 "LearnedReasonsModel" "isRow" "[Z") (by decide +kernel)) (fun _ h9 => h9) rfl dX7_keeps_106 ?_
        refine lv_iload_n hx hb dX7_keeps_109 rfl (lv_at hl 2 rfl) ?_
        obtain ⟨g_2, h⟩ := gd_some h
        refine va_zald hx hb hK hP 2 2 rfl rfl g_2 dX7_keeps_110 ?_
        refine lv_if_eq (tgt := 132) hx hb dX7_keeps_111 (by decide) (fun c_3 => ?_) (fun c_3 => ?_)
        · have h := if_t c_3 h
          refine lv_iload hx hb dX7_keeps_132 (lv_at hl 4 rfl) ?_
          obtain ⟨z_4, h⟩ := gz_some h
          have hx0 := Option.some.inj h
          rw [hQ]
          exact W.zret (v := v4) hx hb hr (z_4.1) (fun t ht hW => ⟨⟨v4, (), rfl, hx0, by show va_P _ _ _ t.heap; rw [ht]; exact hP⟩, hS.F ht⟩) hS.2.2 dX7_keeps_134
        · have h := if_f c_3 h
          refine lv_iload_n hx hb dX7_keeps_114 rfl (lv_at hl 3 rfl) ?_
          refine lv_aload_n hx hb dX7_keeps_115 rfl (lv_at hl 0 rfl) ?_
          refine va_get (D := D) (ci := 7) (v := .ref (q 5)) (C := RX7) (T := TX7) (N := 38) hx hb hts in_X7_keeps_X7 hown hK hP 0 rfl rfl 6 (by decide) (hts (.fieldLink RX7 23 "LearnedReasonsModel" "bounds" "[I") (by decide +kernel)) (fun _ h9 => h9) rfl dX7_keeps_116 ?_
          refine lv_iload_n hx hb dX7_keeps_119 rfl (lv_at hl 2 rfl) ?_
          obtain ⟨g_5, h⟩ := gd_some h
          refine va_iald hx hb hK hP 5 0 rfl rfl g_5 dX7_keeps_120 ?_
          refine lv_icmp_gt (tgt := 128) hx hb dX7_keeps_121 (by decide) (fun c_6 => ?_) (fun c_6 => ?_)
          · have h := if_t c_6 h
            refine lv_iconst (v := 0) hx hb dX7_keeps_128 (by decide) ?_
            refine lv_goto (tgt := 134) hx hb dX7_keeps_129 (by decide) ?_
            have hx0 := Option.some.inj h
            rw [hQ]
            exact W.zret (v := 0) hx hb hr (rfl) (fun t ht hW => ⟨⟨0, (), rfl, hx0, by show va_P _ _ _ t.heap; rw [ht]; exact hP⟩, hS.F ht⟩) hS.2.2 dX7_keeps_134
          · have h := if_f c_6 h
            refine lv_iconst (v := 1) hx hb dX7_keeps_124 (by decide) ?_
            refine lv_goto (tgt := 134) hx hb dX7_keeps_125 (by decide) ?_
            have hx0 := Option.some.inj h
            rw [hQ]
            exact W.zret (v := 1) hx hb hr (rfl) (fun t ht hW => ⟨⟨1, (), rfl, hx0, by show va_P _ _ _ t.heap; rw [ht]; exact hP⟩, hS.F ht⟩) hS.2.2 dX7_keeps_134
      · have h := if_f c_1 h
        refine lv_aload_n hx hb dX7_keeps_17 rfl (lv_at hl 0 rfl) ?_
        refine lv_iload_n hx hb dX7_keeps_18 rfl (lv_at hl 1 rfl) ?_
        refine lv_iload hx hb dX7_keeps_19 (lv_at hl 5 rfl) ?_
        obtain ⟨x_7, hx_7, h⟩ := ob_some h
        refine va_calli (va_runV (As := [.int v1, .int v5]) (rest := []) ⟨hx, hb, hml, hown, hts⟩ (c_X7_isTrue l D cI cJ cZ q hq F I J a b v1 v5 x_7 hx_7) (cwV 2 hts gX7_keeps_X7_isTrue rfl rfl rfl (by decide +kernel) (by rw [hR]; exact ⟨Nat.le_of_ble_eq_true rfl, Nat.le_of_ble_eq_true rfl⟩)) ⟨MUPc_blind, va_recv hK hP (ci := 7) (q0 := 0) rfl rfl, fun U hU hW => ⟨rfl, by rw [hU]; exact hP, va_K.moved hW.alike hK, trivial⟩⟩ rfl rfl hl.1 rfl (lv_room (Nat.le_of_ble_eq_true rfl)) dX7_keeps_21 ⟨Nat.zero_le _, Nat.zero_le _⟩) hS (fun _ _ h => h) (fun _ h => h) (fun r u t H1 locs ht hvm hw hB hz1 hk1 hS => ?_)
        obtain rfl := hw.symm
        rw [ht] at hB
        have hP : va_P D vwCl (MUW cI cJ cZ q I J a b) H1 := hB
        clear hB hz1 hk1 ht hvm
        generalize H1 = H at hP hS ⊢
        refine lv_if_eq (tgt := 72) hx hb dX7_keeps_24 (by decide) (fun c_8 => ?_) (fun c_8 => ?_)
        · have h := if_t c_8 h
          refine lv_iload hx hb dX7_keeps_72 (lv_at hl 4 rfl) ?_
          refine lv_if_ne (tgt := 92) hx hb dX7_keeps_74 (by decide) (fun c_9 => ?_) (fun c_9 => ?_)
          · have h := if_f c_9 h
            refine lv_iconst (v := 1) hx hb dX7_keeps_92 (by decide) ?_
            refine lv_goto (tgt := 97) hx hb dX7_keeps_93 (by decide) ?_
            refine lv_istore (lv' := [(4, .int 1), (0, .ref (q 0)), (1, .int v1), (2, .int v2), (3, .int v3), (5, .int v5)]) hx hb dX7_keeps_97 hl (by decide) rfl (fun ls hl => ?_)
            refine lv_iinc (v := v5 + 1) (lv' := [(5, .int (v5 + 1)), (4, .int 1), (0, .ref (q 0)), (1, .int v1), (2, .int v2), (3, .int v3)]) hx hb dX7_keeps_99 hl (k := 5) rfl rfl (by decide) rfl (fun ls hl => ?_)
            refine lv_goto (tgt := 8) hx hb dX7_keeps_102 (by decide) ?_
            exact ih8 v1 v2 v3 1 (v5 + 1) h _ _ hP hS ls (lv_sub hl [2, 3, 4, 5, 1, 0] rfl)
          · have h := if_t c_9 h
            refine lv_aload_n hx hb dX7_keeps_77 rfl (lv_at hl 0 rfl) ?_
            refine va_get (D := D) (ci := 7) (v := .ref (q 4)) (C := RX7) (T := TX7) (N := 38) hx hb hts in_X7_keeps_X7 hown hK hP 0 rfl rfl 5 (by decide) (hts (.fieldLink RX7 20 "LearnedReasonsModel" "wantsNot" "[I") (by decide +kernel)) (fun _ h9 => h9) rfl dX7_keeps_78 ?_
            refine lv_iload_n hx hb dX7_keeps_81 rfl (lv_at hl 2 rfl) ?_
            obtain ⟨g_10, h⟩ := gd_some h
            refine va_iald hx hb hK hP 4 0 rfl rfl g_10 dX7_keeps_82 ?_
            refine lv_iload hx hb dX7_keeps_83 (lv_at hl 5 rfl) ?_
            refine lv_ishr hx hb dX7_keeps_85 ?_
            refine lv_iconst (v := 1) hx hb dX7_keeps_86 (by decide) ?_
            refine lv_iand hx hb dX7_keeps_87 ?_
            refine lv_iconst (v := 1) hx hb dX7_keeps_88 (by decide) ?_
            refine lv_icmp_ne (tgt := 96) hx hb dX7_keeps_89 (by decide) (fun c_11 => ?_) (fun c_11 => ?_)
            · have h := if_f c_11 h
              refine lv_iconst (v := 0) hx hb dX7_keeps_96 (by decide) ?_
              refine lv_istore (lv' := [(4, .int 0), (0, .ref (q 0)), (1, .int v1), (2, .int v2), (3, .int v3), (5, .int v5)]) hx hb dX7_keeps_97 hl (by decide) rfl (fun ls hl => ?_)
              refine lv_iinc (v := v5 + 1) (lv' := [(5, .int (v5 + 1)), (4, .int 0), (0, .ref (q 0)), (1, .int v1), (2, .int v2), (3, .int v3)]) hx hb dX7_keeps_99 hl (k := 5) rfl rfl (by decide) rfl (fun ls hl => ?_)
              refine lv_goto (tgt := 8) hx hb dX7_keeps_102 (by decide) ?_
              exact ih8 v1 v2 v3 0 (v5 + 1) h _ _ hP hS ls (lv_sub hl [2, 3, 4, 5, 1, 0] rfl)
            · have h := if_t c_11 h
              refine lv_iconst (v := 1) hx hb dX7_keeps_92 (by decide) ?_
              refine lv_goto (tgt := 97) hx hb dX7_keeps_93 (by decide) ?_
              refine lv_istore (lv' := [(4, .int 1), (0, .ref (q 0)), (1, .int v1), (2, .int v2), (3, .int v3), (5, .int v5)]) hx hb dX7_keeps_97 hl (by decide) rfl (fun ls hl => ?_)
              refine lv_iinc (v := v5 + 1) (lv' := [(5, .int (v5 + 1)), (4, .int 1), (0, .ref (q 0)), (1, .int v1), (2, .int v2), (3, .int v3)]) hx hb dX7_keeps_99 hl (k := 5) rfl rfl (by decide) rfl (fun ls hl => ?_)
              refine lv_goto (tgt := 8) hx hb dX7_keeps_102 (by decide) ?_
              exact ih8 v1 v2 v3 1 (v5 + 1) h _ _ hP hS ls (lv_sub hl [2, 3, 4, 5, 1, 0] rfl)
        · have h := if_f c_8 h
          refine lv_iload_n hx hb dX7_keeps_27 rfl (lv_at hl 3 rfl) ?_
          refine lv_aload_n hx hb dX7_keeps_28 rfl (lv_at hl 0 rfl) ?_
          refine va_get (D := D) (ci := 7) (v := .ref (q 6)) (C := RX7) (T := TX7) (N := 38) hx hb hts in_X7_keeps_X7 hown hK hP 0 rfl rfl 7 (by decide) (hts (.fieldLink RX7 26 "LearnedReasonsModel" "weights" "[I") (by decide +kernel)) (fun _ h9 => h9) rfl dX7_keeps_29 ?_
          refine lv_bipush (v := 14) hx hb dX7_keeps_32 (by decide) ?_
          refine lv_iload_n hx hb dX7_keeps_34 rfl (lv_at hl 2 rfl) ?_
          refine lv_imul hx hb dX7_keeps_35 ?_
          refine lv_iload hx hb dX7_keeps_36 (lv_at hl 5 rfl) ?_
          refine lv_iadd hx hb dX7_keeps_38 ?_
          obtain ⟨g_12, h⟩ := gd_some h
          refine va_iald hx hb hK hP 6 0 rfl rfl g_12 dX7_keeps_39 ?_
          refine lv_iadd hx hb dX7_keeps_40 ?_
          refine lv_topi (fun v_13 ev_13 => ?_)
          have h := nmI_at ev_13 h
          refine lv_istore_n (lv' := [(3, .int v_13), (0, .ref (q 0)), (1, .int v1), (2, .int v2), (4, .int v4), (5, .int v5)]) hx hb dX7_keeps_41 rfl hl (by decide) rfl (fun ls hl => ?_)
          refine lv_iload hx hb dX7_keeps_42 (lv_at hl 4 rfl) ?_
          refine lv_if_ne (tgt := 62) hx hb dX7_keeps_44 (by decide) (fun c_14 => ?_) (fun c_14 => ?_)
          · have h := if_f c_14 h
            refine lv_iconst (v := 1) hx hb dX7_keeps_62 (by decide) ?_
            refine lv_goto (tgt := 67) hx hb dX7_keeps_63 (by decide) ?_
            refine lv_istore (lv' := [(4, .int 1), (3, .int v_13), (0, .ref (q 0)), (1, .int v1), (2, .int v2), (5, .int v5)]) hx hb dX7_keeps_67 hl (by decide) rfl (fun ls hl => ?_)
            refine lv_goto (tgt := 99) hx hb dX7_keeps_69 (by decide) ?_
            refine lv_iinc (v := v5 + 1) (lv' := [(5, .int (v5 + 1)), (4, .int 1), (3, .int v_13), (0, .ref (q 0)), (1, .int v1), (2, .int v2)]) hx hb dX7_keeps_99 hl (k := 5) rfl rfl (by decide) rfl (fun ls hl => ?_)
            refine lv_goto (tgt := 8) hx hb dX7_keeps_102 (by decide) ?_
            exact ih8 v1 v2 v_13 1 (v5 + 1) h _ _ hP hS ls (lv_sub hl [3, 4, 5, 2, 1, 0] rfl)
          · have h := if_t c_14 h
            refine lv_aload_n hx hb dX7_keeps_47 rfl (lv_at hl 1 rfl) ?_
            refine va_get (D := D) (ci := 7) (v := .ref (q 3)) (C := RX7) (T := TX7) (N := 38) hx hb hts in_X7_keeps_X7 hown hK hP 0 rfl rfl 4 (by decide) (hts (.fieldLink RX7 16 "LearnedReasonsModel" "wants" "[I") (by decide +kernel)) (fun _ h9 => h9) rfl dX7_keeps_48 ?_
            refine lv_iload_n hx hb dX7_keeps_51 rfl (lv_at hl 3 rfl) ?_
            obtain ⟨g_15, h⟩ := gd_some h
            refine va_iald hx hb hK hP 3 0 rfl rfl g_15 dX7_keeps_52 ?_
            refine lv_iload hx hb dX7_keeps_53 (lv_at hl 5 rfl) ?_
            refine lv_ishr hx hb dX7_keeps_55 ?_
            refine lv_iconst (v := 1) hx hb dX7_keeps_56 (by decide) ?_
            refine lv_iand hx hb dX7_keeps_57 ?_
            refine lv_iconst (v := 1) hx hb dX7_keeps_58 (by decide) ?_
            refine lv_icmp_ne (tgt := 66) hx hb dX7_keeps_59 (by decide) (fun c_16 => ?_) (fun c_16 => ?_)
            · have h := if_f c_16 h
              refine lv_iconst (v := 0) hx hb dX7_keeps_66 (by decide) ?_
              refine lv_istore (lv' := [(4, .int 0), (3, .int v_13), (0, .ref (q 0)), (1, .int v1), (2, .int v2), (5, .int v5)]) hx hb dX7_keeps_67 hl (by decide) rfl (fun ls hl => ?_)
              refine lv_goto (tgt := 99) hx hb dX7_keeps_69 (by decide) ?_
              refine lv_iinc (v := v5 + 1) (lv' := [(5, .int (v5 + 1)), (4, .int 0), (3, .int v_13), (0, .ref (q 0)), (1, .int v1), (2, .int v2)]) hx hb dX7_keeps_99 hl (k := 5) rfl rfl (by decide) rfl (fun ls hl => ?_)
              refine lv_goto (tgt := 8) hx hb dX7_keeps_102 (by decide) ?_
              exact ih8 v1 v2 v_13 0 (v5 + 1) h _ _ hP hS ls (lv_sub hl [3, 4, 5, 2, 1, 0] rfl)
            · have h := if_t c_16 h
              refine lv_iconst (v := 1) hx hb dX7_keeps_62 (by decide) ?_
              refine lv_goto (tgt := 67) hx hb dX7_keeps_63 (by decide) ?_
              refine lv_istore (lv' := [(4, .int 1), (3, .int v_13), (0, .ref (q 0)), (1, .int v1), (2, .int v2), (5, .int v5)]) hx hb dX7_keeps_67 hl (by decide) rfl (fun ls hl => ?_)
              refine lv_goto (tgt := 99) hx hb dX7_keeps_69 (by decide) ?_
              refine lv_iinc (v := v5 + 1) (lv' := [(5, .int (v5 + 1)), (4, .int 1), (3, .int v_13), (0, .ref (q 0)), (1, .int v1), (2, .int v2)]) hx hb dX7_keeps_99 hl (k := 5) rfl rfl (by decide) rfl (fun ls hl => ?_)
              refine lv_goto (tgt := 8) hx hb dX7_keeps_102 (by decide) ?_
              exact ih8 v1 v2 v_13 1 (v5 + 1) h _ _ hP hS ls (lv_sub hl [3, 4, 5, 2, 1, 0] rfl)
  refine lv_iconst (v := 0) hx hb dX7_keeps_0 (by decide) ?_
  refine lv_istore_n (lv' := [(3, .int 0), (0, .ref (q 0)), (1, .int v1), (2, .int v2)]) hx hb dX7_keeps_1 rfl hl (by decide) rfl (fun ls hl => ?_)
  refine lv_iconst (v := 0) hx hb dX7_keeps_2 (by decide) ?_
  refine lv_istore (lv' := [(4, .int 0), (3, .int 0), (0, .ref (q 0)), (1, .int v1), (2, .int v2)]) hx hb dX7_keeps_3 hl (by decide) rfl (fun ls hl => ?_)
  refine lv_iconst (v := 0) hx hb dX7_keeps_5 (by decide) ?_
  refine lv_istore (lv' := [(5, .int 0), (4, .int 0), (3, .int 0), (0, .ref (q 0)), (1, .int v1), (2, .int v2)]) hx hb dX7_keeps_6 hl (by decide) rfl (fun ls hl => ?_)
  exact C8 F v1 v2 0 0 0 h _ _ hP hS ls (lv_sub hl [3, 4, 5, 2, 1, 0] rfl)
theorem in_X7_costOf_X7 : ∀ w ∈ wsX70, w ∈ wsX7_costOf := by decide +kernel
set_option maxHeartbeats 4000000 in
set_option maxRecDepth 100000 in
theorem c_X7_costOf (l : Launch) (D : va_G) (cI cJ cZ : ClassId) (q : Nat → Nat) (hq : MUQ q) (F : Nat) (I : Nat → Int32) (J : Nat → Int64) (a : Nat → Nat → Int32) (b : Nat → Nat → Int64) (v1 : Int32) (x0 : Int32) (h : f_X7_costOf F I J a b v1 = some x0) : Met l yX7_costOf wsX7_costOf ({ frames := 1, cells := 0, slots := 0, locals := 22 }) (MUPc D cI cJ cZ q I J a b [.ref (q 0), .int v1]) (va_Qi (fun (r : Int32) (u : Unit) => r = x0) (fun (u : Unit) t => va_P D vwCl (MUW cI cJ cZ q I J a b) t.heap) (MUA q)) 0 0 (MUA q) := by
  refine mt_of (cc := cX7_costOf) (maxL := 4) (ret := (some .int)) (by decide) rfl ?_
  intro p e s m args below meth c s₁ B0 hml hv R Q hR hQ
  obtain ⟨hargs, hP, hK, hN⟩ := hv
  have hx := B0.exec
  have hb := B0.bytes
  have hr := B0.returns
  have hts := atoms_spec (ws := wsX7_costOf) B0.pre
  have hown : s.vm.findClass RX7 = some m.cls := findClass_of_methodNamed B0.named
  have hlocks := B0.notSynchronized
  have hS : va_S (MUA q) s.heap s.heap [] := va_S.rf
  have hl := lv_entry ([.ref (q 0), .int v1]) (n := 4) (Nat.le_of_ble_eq_true rfl)
  rw [hargs, lg_entry_eq]
  rw [← hargs]
  generalize (lg_sl ([.ref (q 0), .int v1]) ++ List.replicate (4 - (lg_sl ([.ref (q 0), .int v1])).length) Slot.unset).toArray = ls at hl ⊢
  have hl : lv_has ls 4 [(0, .ref (q 0)), (1, .int v1)] := hl
  unfold f_X7_costOf at h
  have C4 : ∀ (n4 : Nat) (v1 : Int32) (v2 : Int32) (v3 : Int32), k_X7_costOf_4 F I J a b n4 v1 v2 v3 = some x0 → ∀ (H : Heap) (locs : List Loc), va_P D vwCl (MUW cI cJ cZ q I J a b) H → va_S (MUA q) s.heap H locs → ∀ ls : Array Slot, lv_has ls 4 [(0, .ref (q 0)), (1, .int v1), (2, .int v2), (3, .int v3)] → W p l e R s m args below meth c H locs 0 0 Q (F0 m 4 ls []) := by
    intro n4
    induction n4 with
    | zero => intro v1 v2 v3 h; rw [k_X7_costOf_4] at h; cases h
    | succ n4 ih4 =>
      intro v1 v2 v3 h H locs hP hS ls hl
      rw [k_X7_costOf_4] at h
      refine lv_iload_n hx hb dX7_costOf_4 rfl (lv_at hl 3 rfl) ?_
      refine lv_aload_n hx hb dX7_costOf_5 rfl (lv_at hl 0 rfl) ?_
      refine va_get (D := D) (ci := 7) (v := .int (I 0)) (C := RX7) (T := TX7) (N := 38) hx hb hts in_X7_costOf_X7 hown hK hP 0 rfl rfl 0 (by decide) (hts (.fieldLink RX7 63 "LearnedReasonsModel" "names" "I") (by decide +kernel)) (fun _ h9 => h9) rfl dX7_costOf_6 ?_
      refine lv_icmp_ge (tgt := 40) hx hb dX7_costOf_9 (by decide) (fun c_1 => ?_) (fun c_1 => ?_)
      · have h := if_t c_1 h
        refine lv_iload_n hx hb dX7_costOf_40 rfl (lv_at hl 2 rfl) ?_
        have hx0 := Option.some.inj h
        rw [hQ]
        exact W.iret (v := v2) hx hb hr (fun t ht hW => ⟨⟨v2, (), rfl, hx0, by show va_P _ _ _ t.heap; rw [ht]; exact hP⟩, hS.F ht⟩) hS.2.2 dX7_costOf_41
      · have h := if_f c_1 h
        refine lv_iload_n hx hb dX7_costOf_12 rfl (lv_at hl 2 rfl) ?_
        refine lv_aload_n hx hb dX7_costOf_13 rfl (lv_at hl 0 rfl) ?_
        refine lv_iload_n hx hb dX7_costOf_14 rfl (lv_at hl 1 rfl) ?_
        refine lv_iload_n hx hb dX7_costOf_15 rfl (lv_at hl 3 rfl) ?_
        obtain ⟨x_2, hx_2, h⟩ := ob_some h
        refine va_calli (va_runV (As := [.int v1, .int v3]) (rest := [.int v2]) ⟨hx, hb, hml, hown, hts⟩ (c_X7_isTrue l D cI cJ cZ q hq F I J a b v1 v3 x_2 hx_2) (cwV 2 hts gX7_costOf_X7_isTrue rfl rfl rfl (by decide +kernel) (by rw [hR]; exact ⟨Nat.le_of_ble_eq_true rfl, Nat.le_of_ble_eq_true rfl⟩)) ⟨MUPc_blind, va_recv hK hP (ci := 7) (q0 := 0) rfl rfl, fun U hU hW => ⟨rfl, by rw [hU]; exact hP, va_K.moved hW.alike hK, trivial⟩⟩ rfl rfl hl.1 rfl (lv_room (Nat.le_of_ble_eq_true rfl)) dX7_costOf_16 ⟨Nat.zero_le _, Nat.zero_le _⟩) hS (fun _ _ h => h) (fun _ h => h) (fun r u t H1 locs ht hvm hw hB hz1 hk1 hS => ?_)
        obtain rfl := hw.symm
        rw [ht] at hB
        have hP : va_P D vwCl (MUW cI cJ cZ q I J a b) H1 := hB
        clear hB hz1 hk1 ht hvm
        generalize H1 = H at hP hS ⊢
        refine lv_if_eq (tgt := 31) hx hb dX7_costOf_19 (by decide) (fun c_3 => ?_) (fun c_3 => ?_)
        · have h := if_t c_3 h
          refine lv_iconst (v := 0) hx hb dX7_costOf_31 (by decide) ?_
          refine lv_iadd hx hb dX7_costOf_32 ?_
          refine lv_topi (fun v_4 ev_4 => ?_)
          have h := nmI_at ev_4 h
          refine lv_istore_n (lv' := [(2, .int v_4), (0, .ref (q 0)), (1, .int v1), (3, .int v3)]) hx hb dX7_costOf_33 rfl hl (by decide) rfl (fun ls hl => ?_)
          refine lv_iinc (v := v3 + 1) (lv' := [(3, .int (v3 + 1)), (2, .int v_4), (0, .ref (q 0)), (1, .int v1)]) hx hb dX7_costOf_34 hl (k := 3) rfl rfl (by decide) rfl (fun ls hl => ?_)
          refine lv_goto (tgt := 4) hx hb dX7_costOf_37 (by decide) ?_
          exact ih4 v1 v_4 (v3 + 1) h _ _ hP hS ls (lv_sub hl [2, 3, 1, 0] rfl)
        · have h := if_f c_3 h
          refine lv_aload_n hx hb dX7_costOf_22 rfl (lv_at hl 0 rfl) ?_
          refine va_get (D := D) (ci := 7) (v := .ref (q 7)) (C := RX7) (T := TX7) (N := 38) hx hb hts in_X7_costOf_X7 hown hK hP 0 rfl rfl 8 (by decide) (hts (.fieldLink RX7 29 "LearnedReasonsModel" "costs" "[I") (by decide +kernel)) (fun _ h9 => h9) rfl dX7_costOf_23 ?_
          refine lv_iload_n hx hb dX7_costOf_26 rfl (lv_at hl 3 rfl) ?_
          obtain ⟨g_5, h⟩ := gd_some h
          refine va_iald hx hb hK hP 7 0 rfl rfl g_5 dX7_costOf_27 ?_
          refine lv_goto (tgt := 32) hx hb dX7_costOf_28 (by decide) ?_
          refine lv_iadd hx hb dX7_costOf_32 ?_
          refine lv_topi (fun v_6 ev_6 => ?_)
          have h := nmI_at ev_6 h
          refine lv_istore_n (lv' := [(2, .int v_6), (0, .ref (q 0)), (1, .int v1), (3, .int v3)]) hx hb dX7_costOf_33 rfl hl (by decide) rfl (fun ls hl => ?_)
          refine lv_iinc (v := v3 + 1) (lv' := [(3, .int (v3 + 1)), (2, .int v_6), (0, .ref (q 0)), (1, .int v1)]) hx hb dX7_costOf_34 hl (k := 3) rfl rfl (by decide) rfl (fun ls hl => ?_)
          refine lv_goto (tgt := 4) hx hb dX7_costOf_37 (by decide) ?_
          exact ih4 v1 v_6 (v3 + 1) h _ _ hP hS ls (lv_sub hl [2, 3, 1, 0] rfl)
  refine lv_iconst (v := 0) hx hb dX7_costOf_0 (by decide) ?_
  refine lv_istore_n (lv' := [(2, .int 0), (0, .ref (q 0)), (1, .int v1)]) hx hb dX7_costOf_1 rfl hl (by decide) rfl (fun ls hl => ?_)
  refine lv_iconst (v := 0) hx hb dX7_costOf_2 (by decide) ?_
  refine lv_istore_n (lv' := [(3, .int 0), (2, .int 0), (0, .ref (q 0)), (1, .int v1)]) hx hb dX7_costOf_3 rfl hl (by decide) rfl (fun ls hl => ?_)
  exact C4 F v1 0 0 h _ _ hP hS ls (lv_sub hl [2, 3, 1, 0] rfl)
theorem in_X7_know_X7 : ∀ w ∈ wsX70, w ∈ wsX7_know := by decide +kernel
set_option maxHeartbeats 4000000 in
set_option maxRecDepth 100000 in
theorem c_X7_know (l : Launch) (D : va_G) (cI cJ cZ : ClassId) (q : Nat → Nat) (hq : MUQ q) (F : Nat) (I : Nat → Int32) (J : Nat → Int64) (a : Nat → Nat → Int32) (b : Nat → Nat → Int64) (x0 : Int32 × Int32 × Int32 × Int32 × Int32 × Int32 × Int32 × Int64 × (Nat → Int64)) (h : f_X7_know F I J a b = some x0) : Met l yX7_know wsX7_know ({ frames := 2, cells := 0, slots := 0, locals := 47 }) (MUPc D cI cJ cZ q I J a b [.ref (q 0)]) (va_Qv (fun (u : Int32 × Int32 × Int32 × Int32 × Int32 × Int32 × Int32 × Int64 × (Nat → Int64)) => u = x0) (fun (u : Int32 × Int32 × Int32 × Int32 × Int32 × Int32 × Int32 × Int64 × (Nat → Int64)) t => va_P D vwCl (MUW cI cJ cZ q (fu (fu (fu (fu (fu (fu (fu I 8 u.1) 19 u.2.1) 20 u.2.2.1) 21 u.2.2.2.1) 22 u.2.2.2.2.1) 23 u.2.2.2.2.2.1) 24 u.2.2.2.2.2.2.1) (fu J 0 u.2.2.2.2.2.2.2.1) a (fu b 0 u.2.2.2.2.2.2.2.2)) t.heap) (MUA q)) 0 0 (MUA q) := by
  refine mt_of (cc := cX7_know) (maxL := 7) (ret := none) (by decide) rfl ?_
  intro p e s m args below meth c s₁ B0 hml hv R Q hR hQ
  obtain ⟨hargs, hP, hK, hN⟩ := hv
  have hx := B0.exec
  have hb := B0.bytes
  have hr := B0.returns
  have hts := atoms_spec (ws := wsX7_know) B0.pre
  have hown : s.vm.findClass RX7 = some m.cls := findClass_of_methodNamed B0.named
  have hlocks := B0.notSynchronized
  have hS : va_S (MUA q) s.heap s.heap [] := va_S.rf
  have hl := lv_entry ([.ref (q 0)]) (n := 7) (Nat.le_of_ble_eq_true rfl)
  rw [hargs, lg_entry_eq]
  rw [← hargs]
  generalize (lg_sl ([.ref (q 0)]) ++ List.replicate (7 - (lg_sl ([.ref (q 0)])).length) Slot.unset).toArray = ls at hl ⊢
  have hl : lv_has ls 7 [(0, .ref (q 0))] := hl
  unfold f_X7_know at h
  have C297 : ∀ (n297 : Nat) (v1 : Int32) (v2 : Int32) (I8 : Int32) (I19 : Int32) (I20 : Int32) (I21 : Int32) (I22 : Int32) (I23 : Int32) (I24 : Int32) (J0 : Int64) (b0 : Nat → Int64), k_X7_know_297 F I J a b n297 v1 v2 I8 I19 I20 I21 I22 I23 I24 J0 b0 = some x0 → ∀ (H : Heap) (locs : List Loc), va_P D vwCl (MUW cI cJ cZ q (fu (fu (fu (fu (fu (fu (fu I 8 I8) 19 I19) 20 I20) 21 I21) 22 I22) 23 I23) 24 I24) (fu J 0 J0) a (fu b 0 b0)) H → va_S (MUA q) s.heap H locs → ∀ ls : Array Slot, lv_has ls 7 [(0, .ref (q 0)), (1, .int v1), (2, .int v2)] → W p l e R s m args below meth c H locs 0 0 Q (F0 m 297 ls []) := by
    intro n297
    induction n297 with
    | zero => intro v1 v2 I8 I19 I20 I21 I22 I23 I24 J0 b0 h; rw [k_X7_know_297] at h; cases h
    | succ n297 ih297 =>
      intro v1 v2 I8 I19 I20 I21 I22 I23 I24 J0 b0 h H locs hP hS ls hl
      rw [k_X7_know_297] at h
      have C365 : ∀ (v1 : Int32) (v2 : Int32) (v3 : Int64) (v5 : Int32) (I8 : Int32) (I19 : Int32) (I20 : Int32) (I21 : Int32) (I22 : Int32) (I23 : Int32) (I24 : Int32) (J0 : Int64) (b0 : Nat → Int64), k_X7_know_365 F I J a b (k_X7_know_297 F I J a b n297) v1 v2 v3 v5 I8 I19 I20 I21 I22 I23 I24 J0 b0 = some x0 → ∀ (H : Heap) (locs : List Loc), va_P D vwCl (MUW cI cJ cZ q (fu (fu (fu (fu (fu (fu (fu I 8 I8) 19 I19) 20 I20) 21 I21) 22 I22) 23 I23) 24 I24) (fu J 0 J0) a (fu b 0 b0)) H → va_S (MUA q) s.heap H locs → ∀ ls : Array Slot, lv_has ls 7 [(0, .ref (q 0)), (1, .int v1), (2, .int v2), (3, .long v3), (5, .int v5)] → W p l e R s m args below meth c H locs 0 0 Q (F0 m 365 ls []) := by
        intro v1 v2 v3 v5 I8 I19 I20 I21 I22 I23 I24 J0 b0 h H locs hP hS ls hl
        rw [k_X7_know_365] at h
        refine lv_aload_n hx hb dX7_know_365 rfl (lv_at hl 0 rfl) ?_
        refine lv_iload hx hb dX7_know_366 (lv_at hl 4 rfl) ?_
        refine lv_if_eq (tgt := 375) hx hb dX7_know_368 (by decide) (fun c_1 => ?_) (fun c_1 => ?_)
        · have h := if_t c_1 h
          refine lv_aload_n hx hb dX7_know_375 rfl (lv_at hl 0 rfl) ?_
          refine va_get (D := D) (ci := 7) (v := .long J0) (C := RX7) (T := TX7) (N := 38) hx hb hts in_X7_know_X7 hown hK hP 0 rfl rfl 37 (by decide) (hts (.fieldLink RX7 142 "LearnedReasonsModel" "core" "J") (by decide +kernel)) (fun _ h9 => h9) rfl dX7_know_376 ?_
          refine va_put (D := D) (ci := 7) (v := .long J0) (ty := .long) (C := RX7) (T := TX7) (N := 38) hx hb hts in_X7_know_X7 tyX7 tyX7_ok nmX7 hown hK hP (MUW_D hq) hS 0 rfl rfl 37 (by decide) (hts (.fieldLink RX7 142 "LearnedReasonsModel" "core" "J") (by decide +kernel)) (fun _ h9 => h9) rfl (by decide +kernel) rfl rfl (Nat.le_of_ble_eq_true rfl) dX7_know_379 (fun H locs hP _ hS => ?_)
          have hP : va_P D vwCl (MUW cI cJ cZ q (fu (fu (fu (fu (fu (fu (fu I 8 I8) 19 I19) 20 I20) 21 I21) 22 I22) 23 I23) 24 I24) (fu J 0 J0) a (fu b 0 b0)) H := hP
          refine lv_iinc (v := v2 + (-1)) (lv' := [(2, .int (v2 + (-1))), (0, .ref (q 0)), (1, .int v1), (3, .long v3), (5, .int v5)]) hx hb dX7_know_382 hl (k := 2) rfl rfl (by decide) rfl (fun ls hl => ?_)
          refine lv_goto (tgt := 297) hx hb dX7_know_385 (by decide) ?_
          exact ih297 v1 (v2 + (-1)) I8 I19 I20 I21 I22 I23 I24 J0 b0 h _ _ hP hS ls (lv_sub hl [1, 2, 0] rfl)
        · have h := if_f c_1 h
          refine lv_lload_n hx hb dX7_know_371 rfl (lv_at hl 3 rfl) ?_
          refine lv_goto (tgt := 379) hx hb dX7_know_372 (by decide) ?_
          refine va_put (D := D) (ci := 7) (v := .long v3) (ty := .long) (C := RX7) (T := TX7) (N := 38) hx hb hts in_X7_know_X7 tyX7 tyX7_ok nmX7 hown hK hP (MUW_D hq) hS 0 rfl rfl 37 (by decide) (hts (.fieldLink RX7 142 "LearnedReasonsModel" "core" "J") (by decide +kernel)) (fun _ h9 => h9) rfl (by decide +kernel) rfl rfl (Nat.le_of_ble_eq_true rfl) dX7_know_379 (fun H locs hP _ hS => ?_)
          have hP : va_P D vwCl (MUW cI cJ cZ q (fu (fu (fu (fu (fu (fu (fu I 8 I8) 19 I19) 20 I20) 21 I21) 22 I22) 23 I23) 24 I24) (fu J 0 v3) a (fu b 0 b0)) H := hP
          refine lv_iinc (v := v2 + (-1)) (lv' := [(2, .int (v2 + (-1))), (0, .ref (q 0)), (1, .int v1), (3, .long v3), (5, .int v5)]) hx hb dX7_know_382 hl (k := 2) rfl rfl (by decide) rfl (fun ls hl => ?_)
          refine lv_goto (tgt := 297) hx hb dX7_know_385 (by decide) ?_
          exact ih297 v1 (v2 + (-1)) I8 I19 I20 I21 I22 I23 I24 v3 b0 h _ _ hP hS ls (lv_sub hl [1, 2, 0] rfl)
      have C327 : ∀ (n327 : Nat) (v1 : Int32) (v2 : Int32) (v3 : Int64) (v5 : Int32) (v6 : Int32) (I8 : Int32) (I19 : Int32) (I20 : Int32) (I21 : Int32) (I22 : Int32) (I23 : Int32) (I24 : Int32) (J0 : Int64) (b0 : Nat → Int64), k_X7_know_327 F I J a b (k_X7_know_297 F I J a b n297) n327 v1 v2 v3 v5 v6 I8 I19 I20 I21 I22 I23 I24 J0 b0 = some x0 → ∀ (H : Heap) (locs : List Loc), va_P D vwCl (MUW cI cJ cZ q (fu (fu (fu (fu (fu (fu (fu I 8 I8) 19 I19) 20 I20) 21 I21) 22 I22) 23 I23) 24 I24) (fu J 0 J0) a (fu b 0 b0)) H → va_S (MUA q) s.heap H locs → ∀ ls : Array Slot, lv_has ls 7 [(0, .ref (q 0)), (1, .int v1), (2, .int v2), (3, .long v3), (5, .int v5), (6, .int v6)] → W p l e R s m args below meth c H locs 0 0 Q (F0 m 327 ls []) := by
        intro n327
        induction n327 with
        | zero => intro v1 v2 v3 v5 v6 I8 I19 I20 I21 I22 I23 I24 J0 b0 h; rw [k_X7_know_327] at h; cases h
        | succ n327 ih327 =>
          intro v1 v2 v3 v5 v6 I8 I19 I20 I21 I22 I23 I24 J0 b0 h H locs hP hS ls hl
          rw [k_X7_know_327] at h
          refine lv_iload hx hb dX7_know_327 (lv_at hl 5 rfl) ?_
          refine lv_iload_n hx hb dX7_know_329 rfl (lv_at hl 1 rfl) ?_
          refine lv_icmp_ge (tgt := 365) hx hb dX7_know_330 (by decide) (fun c_2 => ?_) (fun c_2 => ?_)
          · have h := if_t c_2 h
            exact C365 v1 v2 v3 v5 I8 I19 I20 I21 I22 I23 I24 J0 b0 h _ _ hP hS ls (lv_sub hl [0, 1, 2, 3, 4] rfl)
          · have h := if_f c_2 h
            refine lv_iload hx hb dX7_know_333 (lv_at hl 4 rfl) ?_
            refine lv_if_eq (tgt := 365) hx hb dX7_know_335 (by decide) (fun c_3 => ?_) (fun c_3 => ?_)
            · have h := if_t c_3 h
              exact C365 v1 v2 v3 v5 I8 I19 I20 I21 I22 I23 I24 J0 b0 h _ _ hP hS ls (lv_sub hl [0, 1, 2, 3, 4] rfl)
            · have h := if_f c_3 h
              refine lv_aload_n hx hb dX7_know_338 rfl (lv_at hl 0 rfl) ?_
              refine va_get (D := D) (ci := 7) (v := .ref (q 12)) (C := RX7) (T := TX7) (N := 38) hx hb hts in_X7_know_X7 hown hK hP 0 rfl rfl 30 (by decide) (hts (.fieldLink RX7 44 "LearnedReasonsModel" "broken" "[J") (by decide +kernel)) (fun _ h9 => h9) rfl dX7_know_339 ?_
              refine lv_iload hx hb dX7_know_342 (lv_at hl 5 rfl) ?_
              obtain ⟨g_4, h⟩ := gd_some h
              refine va_lald hx hb hK hP 12 1 rfl rfl g_4 dX7_know_344 ?_
              refine lv_lload_n hx hb dX7_know_345 rfl (lv_at hl 3 rfl) ?_
              refine lv_land hx hb dX7_know_346 ?_
              refine lv_lconst (v := 0) hx hb dX7_know_347 (by decide) ?_
              refine W.lcmp hx hb dX7_know_348 ?_
              refine lv_if_eq (tgt := 356) hx hb dX7_know_349 (by decide) (fun c_5 => ?_) (fun c_5 => ?_)
              · have h := if_t c_5 h
                refine lv_iconst (v := 0) hx hb dX7_know_356 (by decide) ?_
                refine lv_istore (lv' := [(5, .int 0), (0, .ref (q 0)), (1, .int v1), (2, .int v2), (3, .long v3), (6, .int v6)]) hx hb dX7_know_357 hl (by decide) rfl (fun ls hl => ?_)
                refine lv_iinc (v := v6 + 1) (lv' := [(6, .int (v6 + 1)), (5, .int 0), (0, .ref (q 0)), (1, .int v1), (2, .int v2), (3, .long v3)]) hx hb dX7_know_359 hl (k := 5) rfl rfl (by decide) rfl (fun ls hl => ?_)
                refine lv_goto (tgt := 327) hx hb dX7_know_362 (by decide) ?_
                exact ih327 v1 v2 v3 0 (v6 + 1) I8 I19 I20 I21 I22 I23 I24 J0 b0 h _ _ hP hS ls (lv_sub hl [2, 3, 4, 5, 1, 0] rfl)
              · have h := if_f c_5 h
                refine lv_iconst (v := 1) hx hb dX7_know_352 (by decide) ?_
                refine lv_goto (tgt := 357) hx hb dX7_know_353 (by decide) ?_
                refine lv_istore (lv' := [(5, .int 1), (0, .ref (q 0)), (1, .int v1), (2, .int v2), (3, .long v3), (6, .int v6)]) hx hb dX7_know_357 hl (by decide) rfl (fun ls hl => ?_)
                refine lv_iinc (v := v6 + 1) (lv' := [(6, .int (v6 + 1)), (5, .int 1), (0, .ref (q 0)), (1, .int v1), (2, .int v2), (3, .long v3)]) hx hb dX7_know_359 hl (k := 5) rfl rfl (by decide) rfl (fun ls hl => ?_)
                refine lv_goto (tgt := 327) hx hb dX7_know_362 (by decide) ?_
                exact ih327 v1 v2 v3 1 (v6 + 1) I8 I19 I20 I21 I22 I23 I24 J0 b0 h _ _ hP hS ls (lv_sub hl [2, 3, 4, 5, 1, 0] rfl)
      refine lv_iload_n hx hb dX7_know_297 rfl (lv_at hl 2 rfl) ?_
      refine lv_if_lt (tgt := 388) hx hb dX7_know_298 (by decide) (fun c_6 => ?_) (fun c_6 => ?_)
      · have h := if_t c_6 h
        have hx0 := Option.some.inj h
        rw [hQ]
        exact W.vret hx hb hr (fun t ht hW => ⟨⟨(I8, I19, I20, I21, I22, I23, I24, J0, b0), rfl, hx0, by show va_P _ _ _ t.heap; rw [ht]; exact hP⟩, hS.F ht⟩) hS.2.2 dX7_know_388
      · have h := if_f c_6 h
        refine lv_aload_n hx hb dX7_know_301 rfl (lv_at hl 0 rfl) ?_
        refine va_get (D := D) (ci := 7) (v := .int I19) (C := RX7) (T := TX7) (N := 38) hx hb hts in_X7_know_X7 hown hK hP 0 rfl rfl 31 (by decide) (hts (.fieldLink RX7 118 "LearnedReasonsModel" "models" "I") (by decide +kernel)) (fun _ h9 => h9) rfl dX7_know_302 ?_
        refine lv_if_ne (tgt := 388) hx hb dX7_know_305 (by decide) (fun c_7 => ?_) (fun c_7 => ?_)
        · have h := if_f c_7 h
          have hx0 := Option.some.inj h
          rw [hQ]
          exact W.vret hx hb hr (fun t ht hW => ⟨⟨(I8, I19, I20, I21, I22, I23, I24, J0, b0), rfl, hx0, by show va_P _ _ _ t.heap; rw [ht]; exact hP⟩, hS.F ht⟩) hS.2.2 dX7_know_388
        · have h := if_t c_7 h
          refine lv_aload_n hx hb dX7_know_308 rfl (lv_at hl 0 rfl) ?_
          refine va_get (D := D) (ci := 7) (v := .long J0) (C := RX7) (T := TX7) (N := 38) hx hb hts in_X7_know_X7 hown hK hP 0 rfl rfl 37 (by decide) (hts (.fieldLink RX7 142 "LearnedReasonsModel" "core" "J") (by decide +kernel)) (fun _ h9 => h9) rfl dX7_know_309 ?_
          refine lv_lconst (v := 1) hx hb dX7_know_312 (by decide) ?_
          refine lv_iload_n hx hb dX7_know_313 rfl (lv_at hl 2 rfl) ?_
          refine lv_lshl hx hb dX7_know_314 rfl ?_
          refine lv_ldc2 (v := (-1)) hx hb hown (hts (.constantLong RX7 146 (-1)) (by decide +kernel)) dX7_know_315 ?_
          refine lv_lxor hx hb dX7_know_318 ?_
          refine lv_land hx hb dX7_know_319 ?_
          refine lv_topl (fun w_8 ew_8 => ?_)
          have h := nmJ_at ew_8 h
          refine lv_lstore_n (lv' := [(3, .long w_8), (0, .ref (q 0)), (1, .int v1), (2, .int v2)]) hx hb dX7_know_320 rfl hl (by decide) rfl (fun ls hl => ?_)
          refine lv_iconst (v := 1) hx hb dX7_know_321 (by decide) ?_
          refine lv_istore (lv' := [(5, .int 1), (3, .long w_8), (0, .ref (q 0)), (1, .int v1), (2, .int v2)]) hx hb dX7_know_322 hl (by decide) rfl (fun ls hl => ?_)
          refine lv_iconst (v := 0) hx hb dX7_know_324 (by decide) ?_
          refine lv_istore (lv' := [(6, .int 0), (5, .int 1), (3, .long w_8), (0, .ref (q 0)), (1, .int v1), (2, .int v2)]) hx hb dX7_know_325 hl (by decide) rfl (fun ls hl => ?_)
          exact C327 F v1 v2 w_8 1 0 I8 I19 I20 I21 I22 I23 I24 J0 b0 h _ _ hP hS ls (lv_sub hl [3, 4, 5, 2, 1, 0] rfl)
  have C251 : ∀ (n251 : Nat) (v1 : Int32) (v2 : Int32) (I8 : Int32) (I19 : Int32) (I20 : Int32) (I21 : Int32) (I22 : Int32) (I23 : Int32) (I24 : Int32) (J0 : Int64) (b0 : Nat → Int64), k_X7_know_251 F I J a b n251 v1 v2 I8 I19 I20 I21 I22 I23 I24 J0 b0 = some x0 → ∀ (H : Heap) (locs : List Loc), va_P D vwCl (MUW cI cJ cZ q (fu (fu (fu (fu (fu (fu (fu I 8 I8) 19 I19) 20 I20) 21 I21) 22 I22) 23 I23) 24 I24) (fu J 0 J0) a (fu b 0 b0)) H → va_S (MUA q) s.heap H locs → ∀ ls : Array Slot, lv_has ls 7 [(0, .ref (q 0)), (1, .int v1), (2, .int v2)] → W p l e R s m args below meth c H locs 0 0 Q (F0 m 251 ls []) := by
    intro n251
    induction n251 with
    | zero => intro v1 v2 I8 I19 I20 I21 I22 I23 I24 J0 b0 h; rw [k_X7_know_251] at h; cases h
    | succ n251 ih251 =>
      intro v1 v2 I8 I19 I20 I21 I22 I23 I24 J0 b0 h H locs hP hS ls hl
      rw [k_X7_know_251] at h
      refine lv_iload_n hx hb dX7_know_251 rfl (lv_at hl 2 rfl) ?_
      refine lv_aload_n hx hb dX7_know_252 rfl (lv_at hl 0 rfl) ?_
      refine va_get (D := D) (ci := 7) (v := .int (I 1)) (C := RX7) (T := TX7) (N := 38) hx hb hts in_X7_know_X7 hown hK hP 0 rfl rfl 1 (by decide) (hts (.fieldLink RX7 66 "LearnedReasonsModel" "things" "I") (by decide +kernel)) (fun _ h9 => h9) rfl dX7_know_253 ?_
      refine lv_icmp_ge (tgt := 290) hx hb dX7_know_256 (by decide) (fun c_9 => ?_) (fun c_9 => ?_)
      · have h := if_t c_9 h
        refine lv_aload_n hx hb dX7_know_290 rfl (lv_at hl 0 rfl) ?_
        refine va_get (D := D) (ci := 7) (v := .int (I 1)) (C := RX7) (T := TX7) (N := 38) hx hb hts in_X7_know_X7 hown hK hP 0 rfl rfl 1 (by decide) (hts (.fieldLink RX7 66 "LearnedReasonsModel" "things" "I") (by decide +kernel)) (fun _ h9 => h9) rfl dX7_know_291 ?_
        refine lv_iconst (v := 1) hx hb dX7_know_294 (by decide) ?_
        refine lv_isub hx hb dX7_know_295 ?_
        refine lv_topi (fun v_10 ev_10 => ?_)
        have h := nmI_at ev_10 h
        refine lv_istore_n (lv' := [(2, .int v_10), (0, .ref (q 0)), (1, .int v1)]) hx hb dX7_know_296 rfl hl (by decide) rfl (fun ls hl => ?_)
        exact C297 F v1 v_10 I8 I19 I20 I21 I22 I23 I24 J0 b0 h _ _ hP hS ls (lv_sub hl [1, 2, 0] rfl)
      · have h := if_f c_9 h
        refine lv_aload_n hx hb dX7_know_259 rfl (lv_at hl 0 rfl) ?_
        refine lv_dup hx hb dX7_know_260 rfl ?_
        refine va_get (D := D) (ci := 7) (v := .long J0) (C := RX7) (T := TX7) (N := 38) hx hb hts in_X7_know_X7 hown hK hP 0 rfl rfl 37 (by decide) (hts (.fieldLink RX7 142 "LearnedReasonsModel" "core" "J") (by decide +kernel)) (fun _ h9 => h9) rfl dX7_know_261 ?_
        refine lv_aload_n hx hb dX7_know_264 rfl (lv_at hl 0 rfl) ?_
        refine va_get (D := D) (ci := 7) (v := .ref (q 1)) (C := RX7) (T := TX7) (N := 38) hx hb hts in_X7_know_X7 hown hK hP 0 rfl rfl 2 (by decide) (hts (.fieldLink RX7 7 "LearnedReasonsModel" "alive" "[Z") (by decide +kernel)) (fun _ h9 => h9) rfl dX7_know_265 ?_
        refine lv_iload_n hx hb dX7_know_268 rfl (lv_at hl 2 rfl) ?_
        obtain ⟨g_11, h⟩ := gd_some h
        refine va_zald hx hb hK hP 1 2 rfl rfl g_11 dX7_know_269 ?_
        refine lv_if_eq (tgt := 279) hx hb dX7_know_270 (by decide) (fun c_12 => ?_) (fun c_12 => ?_)
        · have h := if_t c_12 h
          refine lv_lconst (v := 0) hx hb dX7_know_279 (by decide) ?_
          refine lv_lor hx hb dX7_know_280 ?_
          refine lv_topl (fun w_13 ew_13 => ?_)
          have h := nmJ_at ew_13 h
          refine va_put (D := D) (ci := 7) (v := .long w_13) (ty := .long) (C := RX7) (T := TX7) (N := 38) hx hb hts in_X7_know_X7 tyX7 tyX7_ok nmX7 hown hK hP (MUW_D hq) hS 0 rfl rfl 37 (by decide) (hts (.fieldLink RX7 142 "LearnedReasonsModel" "core" "J") (by decide +kernel)) (fun _ h9 => h9) rfl (by decide +kernel) rfl rfl (Nat.le_of_ble_eq_true rfl) dX7_know_281 (fun H locs hP _ hS => ?_)
          have hP : va_P D vwCl (MUW cI cJ cZ q (fu (fu (fu (fu (fu (fu (fu I 8 I8) 19 I19) 20 I20) 21 I21) 22 I22) 23 I23) 24 I24) (fu J 0 w_13) a (fu b 0 b0)) H := hP
          refine lv_iinc (v := v2 + 1) (lv' := [(2, .int (v2 + 1)), (0, .ref (q 0)), (1, .int v1)]) hx hb dX7_know_284 hl (k := 2) rfl rfl (by decide) rfl (fun ls hl => ?_)
          refine lv_goto (tgt := 251) hx hb dX7_know_287 (by decide) ?_
          exact ih251 v1 (v2 + 1) I8 I19 I20 I21 I22 I23 I24 w_13 b0 h _ _ hP hS ls (lv_sub hl [1, 2, 0] rfl)
        · have h := if_f c_12 h
          refine lv_lconst (v := 1) hx hb dX7_know_273 (by decide) ?_
          refine lv_iload_n hx hb dX7_know_274 rfl (lv_at hl 2 rfl) ?_
          refine lv_lshl hx hb dX7_know_275 rfl ?_
          refine lv_goto (tgt := 280) hx hb dX7_know_276 (by decide) ?_
          refine lv_lor hx hb dX7_know_280 ?_
          refine lv_topl (fun w_14 ew_14 => ?_)
          have h := nmJ_at ew_14 h
          refine va_put (D := D) (ci := 7) (v := .long w_14) (ty := .long) (C := RX7) (T := TX7) (N := 38) hx hb hts in_X7_know_X7 tyX7 tyX7_ok nmX7 hown hK hP (MUW_D hq) hS 0 rfl rfl 37 (by decide) (hts (.fieldLink RX7 142 "LearnedReasonsModel" "core" "J") (by decide +kernel)) (fun _ h9 => h9) rfl (by decide +kernel) rfl rfl (Nat.le_of_ble_eq_true rfl) dX7_know_281 (fun H locs hP _ hS => ?_)
          have hP : va_P D vwCl (MUW cI cJ cZ q (fu (fu (fu (fu (fu (fu (fu I 8 I8) 19 I19) 20 I20) 21 I21) 22 I22) 23 I23) 24 I24) (fu J 0 w_14) a (fu b 0 b0)) H := hP
          refine lv_iinc (v := v2 + 1) (lv' := [(2, .int (v2 + 1)), (0, .ref (q 0)), (1, .int v1)]) hx hb dX7_know_284 hl (k := 2) rfl rfl (by decide) rfl (fun ls hl => ?_)
          refine lv_goto (tgt := 251) hx hb dX7_know_287 (by decide) ?_
          exact ih251 v1 (v2 + 1) I8 I19 I20 I21 I22 I23 I24 w_14 b0 h _ _ hP hS ls (lv_sub hl [1, 2, 0] rfl)
  have C37 : ∀ (n37 : Nat) (v1 : Int32) (v2 : Int32) (I8 : Int32) (I19 : Int32) (I20 : Int32) (I21 : Int32) (I22 : Int32) (I23 : Int32) (I24 : Int32) (b0 : Nat → Int64), k_X7_know_37 F I J a b n37 v1 v2 I8 I19 I20 I21 I22 I23 I24 b0 = some x0 → ∀ (H : Heap) (locs : List Loc), va_P D vwCl (MUW cI cJ cZ q (fu (fu (fu (fu (fu (fu (fu I 8 I8) 19 I19) 20 I20) 21 I21) 22 I22) 23 I23) 24 I24) J a (fu b 0 b0)) H → va_S (MUA q) s.heap H locs → ∀ ls : Array Slot, lv_has ls 7 [(0, .ref (q 0)), (1, .int v1), (2, .int v2)] → W p l e R s m args below meth c H locs 0 0 Q (F0 m 37 ls []) := by
    intro n37
    induction n37 with
    | zero => intro v1 v2 I8 I19 I20 I21 I22 I23 I24 b0 h; rw [k_X7_know_37] at h; cases h
    | succ n37 ih37 =>
      intro v1 v2 I8 I19 I20 I21 I22 I23 I24 b0 h H locs hP hS ls hl
      rw [k_X7_know_37] at h
      have C170 : ∀ (n170 : Nat) (v1 : Int32) (v2 : Int32) (v3 : Int32) (I8 : Int32) (I19 : Int32) (I20 : Int32) (I21 : Int32) (I22 : Int32) (I23 : Int32) (I24 : Int32) (b0 : Nat → Int64), k_X7_know_170 F I J a b (k_X7_know_37 F I J a b n37) n170 v1 v2 v3 I8 I19 I20 I21 I22 I23 I24 b0 = some x0 → ∀ (H : Heap) (locs : List Loc), va_P D vwCl (MUW cI cJ cZ q (fu (fu (fu (fu (fu (fu (fu I 8 I8) 19 I19) 20 I20) 21 I21) 22 I22) 23 I23) 24 I24) J a (fu b 0 b0)) H → va_S (MUA q) s.heap H locs → ∀ ls : Array Slot, lv_has ls 7 [(0, .ref (q 0)), (1, .int v1), (2, .int v2), (3, .int v3)] → W p l e R s m args below meth c H locs 0 0 Q (F0 m 170 ls []) := by
        intro n170
        induction n170 with
        | zero => intro v1 v2 v3 I8 I19 I20 I21 I22 I23 I24 b0 h; rw [k_X7_know_170] at h; cases h
        | succ n170 ih170 =>
          intro v1 v2 v3 I8 I19 I20 I21 I22 I23 I24 b0 h H locs hP hS ls hl
          rw [k_X7_know_170] at h
          have C201 : ∀ (v1 : Int32) (v2 : Int32) (v3 : Int32) (s0 : Int32) (s1 : Int32) (I8 : Int32) (I19 : Int32) (I20 : Int32) (I21 : Int32) (I22 : Int32) (I23 : Int32) (I24 : Int32) (b0 : Nat → Int64), k_X7_know_201 F I J a b (k_X7_know_37 F I J a b n37) (k_X7_know_170 F I J a b (k_X7_know_37 F I J a b n37) n170) v1 v2 v3 s0 s1 I8 I19 I20 I21 I22 I23 I24 b0 = some x0 → ∀ (H : Heap) (locs : List Loc), va_P D vwCl (MUW cI cJ cZ q (fu (fu (fu (fu (fu (fu (fu I 8 I8) 19 I19) 20 I20) 21 I21) 22 I22) 23 I23) 24 I24) J a (fu b 0 b0)) H → va_S (MUA q) s.heap H locs → ∀ ls : Array Slot, lv_has ls 7 [(0, .ref (q 0)), (1, .int v1), (2, .int v2), (3, .int v3)] → W p l e R s m args below meth c H locs 0 0 Q (F0 m 201 ls [.int s0, .int s1, .ref (q 0)]) := by
            intro v1 v2 v3 s0 s1 I8 I19 I20 I21 I22 I23 I24 b0 h H locs hP hS ls hl
            rw [k_X7_know_201] at h
            refine lv_iand hx hb dX7_know_201 ?_
            refine lv_topi (fun v_15 ev_15 => ?_)
            have h := nmI_at ev_15 h
            refine va_put (D := D) (ci := 7) (v := .int v_15) (ty := .int) (C := RX7) (T := TX7) (N := 38) hx hb hts in_X7_know_X7 tyX7 tyX7_ok nmX7 hown hK hP (MUW_D hq) hS 0 rfl rfl 32 (by decide) (hts (.fieldLink RX7 121 "LearnedReasonsModel" "inAll" "I") (by decide +kernel)) (fun _ h9 => h9) rfl (by decide +kernel) rfl rfl (Nat.le_of_ble_eq_true rfl) dX7_know_202 (fun H locs hP _ hS => ?_)
            have hP : va_P D vwCl (MUW cI cJ cZ q (fu (fu (fu (fu (fu (fu (fu I 8 I8) 19 I19) 20 v_15) 21 I21) 22 I22) 23 I23) 24 I24) J a (fu b 0 b0)) H := hP
            refine lv_aload_n hx hb dX7_know_205 rfl (lv_at hl 0 rfl) ?_
            refine lv_dup hx hb dX7_know_206 rfl ?_
            refine va_get (D := D) (ci := 7) (v := .int I21) (C := RX7) (T := TX7) (N := 38) hx hb hts in_X7_know_X7 hown hK hP 0 rfl rfl 33 (by decide) (hts (.fieldLink RX7 124 "LearnedReasonsModel" "inNone" "I") (by decide +kernel)) (fun _ h9 => h9) rfl dX7_know_207 ?_
            refine lv_aload_n hx hb dX7_know_210 rfl (lv_at hl 0 rfl) ?_
            refine lv_iload_n hx hb dX7_know_211 rfl (lv_at hl 2 rfl) ?_
            refine lv_iload_n hx hb dX7_know_212 rfl (lv_at hl 3 rfl) ?_
            obtain ⟨x_16, hx_16, h⟩ := ob_some h
            refine va_calli (va_runV (As := [.int v2, .int v3]) (rest := [.int I21, .ref (q 0)]) ⟨hx, hb, hml, hown, hts⟩ (c_X7_isTrue l D cI cJ cZ q hq F (fu (fu (fu (fu (fu (fu (fu I 8 I8) 19 I19) 20 v_15) 21 I21) 22 I22) 23 I23) 24 I24) J a (fu b 0 b0) v2 v3 x_16 hx_16) (cwV 2 hts gX7_know_X7_isTrue rfl rfl rfl (by decide +kernel) (by rw [hR]; exact ⟨Nat.le_of_ble_eq_true rfl, Nat.le_of_ble_eq_true rfl⟩)) ⟨MUPc_blind, va_recv hK hP (ci := 7) (q0 := 0) rfl rfl, fun U hU hW => ⟨rfl, by rw [hU]; exact hP, va_K.moved hW.alike hK, trivial⟩⟩ rfl rfl hl.1 rfl (lv_room (Nat.le_of_ble_eq_true rfl)) dX7_know_213 ⟨Nat.zero_le _, Nat.zero_le _⟩) hS (fun _ _ h => h) (fun _ h => h) (fun r u t H1 locs ht hvm hw hB hz1 hk1 hS => ?_)
            obtain rfl := hw.symm
            rw [ht] at hB
            have hP : va_P D vwCl (MUW cI cJ cZ q (fu (fu (fu (fu (fu (fu (fu I 8 I8) 19 I19) 20 v_15) 21 I21) 22 I22) 23 I23) 24 I24) J a (fu b 0 b0)) H1 := hB
            clear hB hz1 hk1 ht hvm
            generalize H1 = H at hP hS ⊢
            refine lv_if_eq (tgt := 227) hx hb dX7_know_216 (by decide) (fun c_17 => ?_) (fun c_17 => ?_)
            · have h := if_t c_17 h
              refine lv_iconst (v := (-1)) hx hb dX7_know_227 (by decide) ?_
              refine lv_iand hx hb dX7_know_228 ?_
              refine lv_topi (fun v_18 ev_18 => ?_)
              have h := nmI_at ev_18 h
              refine va_put (D := D) (ci := 7) (v := .int v_18) (ty := .int) (C := RX7) (T := TX7) (N := 38) hx hb hts in_X7_know_X7 tyX7 tyX7_ok nmX7 hown hK hP (MUW_D hq) hS 0 rfl rfl 33 (by decide) (hts (.fieldLink RX7 124 "LearnedReasonsModel" "inNone" "I") (by decide +kernel)) (fun _ h9 => h9) rfl (by decide +kernel) rfl rfl (Nat.le_of_ble_eq_true rfl) dX7_know_229 (fun H locs hP _ hS => ?_)
              have hP : va_P D vwCl (MUW cI cJ cZ q (fu (fu (fu (fu (fu (fu (fu I 8 I8) 19 I19) 20 v_15) 21 v_18) 22 I22) 23 I23) 24 I24) J a (fu b 0 b0)) H := hP
              refine lv_iinc (v := v3 + 1) (lv' := [(3, .int (v3 + 1)), (0, .ref (q 0)), (1, .int v1), (2, .int v2)]) hx hb dX7_know_232 hl (k := 3) rfl rfl (by decide) rfl (fun ls hl => ?_)
              refine lv_goto (tgt := 170) hx hb dX7_know_235 (by decide) ?_
              exact ih170 v1 v2 (v3 + 1) I8 I19 v_15 v_18 I22 I23 I24 b0 h _ _ hP hS ls (lv_sub hl [1, 2, 3, 0] rfl)
            · have h := if_f c_17 h
              refine lv_iconst (v := 1) hx hb dX7_know_219 (by decide) ?_
              refine lv_iload_n hx hb dX7_know_220 rfl (lv_at hl 3 rfl) ?_
              refine lv_ishl hx hb dX7_know_221 ?_
              refine lv_iconst (v := (-1)) hx hb dX7_know_222 (by decide) ?_
              refine lv_ixor hx hb dX7_know_223 ?_
              refine lv_goto (tgt := 228) hx hb dX7_know_224 (by decide) ?_
              refine lv_iand hx hb dX7_know_228 ?_
              refine lv_topi (fun v_19 ev_19 => ?_)
              have h := nmI_at ev_19 h
              refine va_put (D := D) (ci := 7) (v := .int v_19) (ty := .int) (C := RX7) (T := TX7) (N := 38) hx hb hts in_X7_know_X7 tyX7 tyX7_ok nmX7 hown hK hP (MUW_D hq) hS 0 rfl rfl 33 (by decide) (hts (.fieldLink RX7 124 "LearnedReasonsModel" "inNone" "I") (by decide +kernel)) (fun _ h9 => h9) rfl (by decide +kernel) rfl rfl (Nat.le_of_ble_eq_true rfl) dX7_know_229 (fun H locs hP _ hS => ?_)
              have hP : va_P D vwCl (MUW cI cJ cZ q (fu (fu (fu (fu (fu (fu (fu I 8 I8) 19 I19) 20 v_15) 21 v_19) 22 I22) 23 I23) 24 I24) J a (fu b 0 b0)) H := hP
              refine lv_iinc (v := v3 + 1) (lv' := [(3, .int (v3 + 1)), (0, .ref (q 0)), (1, .int v1), (2, .int v2)]) hx hb dX7_know_232 hl (k := 3) rfl rfl (by decide) rfl (fun ls hl => ?_)
              refine lv_goto (tgt := 170) hx hb dX7_know_235 (by decide) ?_
              exact ih170 v1 v2 (v3 + 1) I8 I19 v_15 v_19 I22 I23 I24 b0 h _ _ hP hS ls (lv_sub hl [1, 2, 3, 0] rfl)
          refine lv_iload_n hx hb dX7_know_170 rfl (lv_at hl 3 rfl) ?_
          refine lv_aload_n hx hb dX7_know_171 rfl (lv_at hl 0 rfl) ?_
          refine va_get (D := D) (ci := 7) (v := .int (I 0)) (C := RX7) (T := TX7) (N := 38) hx hb hts in_X7_know_X7 hown hK hP 0 rfl rfl 0 (by decide) (hts (.fieldLink RX7 63 "LearnedReasonsModel" "names" "I") (by decide +kernel)) (fun _ h9 => h9) rfl dX7_know_172 ?_
          refine lv_icmp_ge (tgt := 238) hx hb dX7_know_175 (by decide) (fun c_20 => ?_) (fun c_20 => ?_)
          · have h := if_t c_20 h
            refine lv_iinc (v := v2 + 1) (lv' := [(2, .int (v2 + 1)), (0, .ref (q 0)), (1, .int v1), (3, .int v3)]) hx hb dX7_know_238 hl (k := 2) rfl rfl (by decide) rfl (fun ls hl => ?_)
            refine lv_goto (tgt := 37) hx hb dX7_know_241 (by decide) ?_
            exact ih37 v1 (v2 + 1) I8 I19 I20 I21 I22 I23 I24 b0 h _ _ hP hS ls (lv_sub hl [1, 2, 0] rfl)
          · have h := if_f c_20 h
            refine lv_aload_n hx hb dX7_know_178 rfl (lv_at hl 0 rfl) ?_
            refine lv_dup hx hb dX7_know_179 rfl ?_
            refine va_get (D := D) (ci := 7) (v := .int I20) (C := RX7) (T := TX7) (N := 38) hx hb hts in_X7_know_X7 hown hK hP 0 rfl rfl 32 (by decide) (hts (.fieldLink RX7 121 "LearnedReasonsModel" "inAll" "I") (by decide +kernel)) (fun _ h9 => h9) rfl dX7_know_180 ?_
            refine lv_aload_n hx hb dX7_know_183 rfl (lv_at hl 0 rfl) ?_
            refine lv_iload_n hx hb dX7_know_184 rfl (lv_at hl 2 rfl) ?_
            refine lv_iload_n hx hb dX7_know_185 rfl (lv_at hl 3 rfl) ?_
            obtain ⟨x_21, hx_21, h⟩ := ob_some h
            refine va_calli (va_runV (As := [.int v2, .int v3]) (rest := [.int I20, .ref (q 0)]) ⟨hx, hb, hml, hown, hts⟩ (c_X7_isTrue l D cI cJ cZ q hq F (fu (fu (fu (fu (fu (fu (fu I 8 I8) 19 I19) 20 I20) 21 I21) 22 I22) 23 I23) 24 I24) J a (fu b 0 b0) v2 v3 x_21 hx_21) (cwV 2 hts gX7_know_X7_isTrue rfl rfl rfl (by decide +kernel) (by rw [hR]; exact ⟨Nat.le_of_ble_eq_true rfl, Nat.le_of_ble_eq_true rfl⟩)) ⟨MUPc_blind, va_recv hK hP (ci := 7) (q0 := 0) rfl rfl, fun U hU hW => ⟨rfl, by rw [hU]; exact hP, va_K.moved hW.alike hK, trivial⟩⟩ rfl rfl hl.1 rfl (lv_room (Nat.le_of_ble_eq_true rfl)) dX7_know_186 ⟨Nat.zero_le _, Nat.zero_le _⟩) hS (fun _ _ h => h) (fun _ h => h) (fun r u t H1 locs ht hvm hw hB hz1 hk1 hS => ?_)
            obtain rfl := hw.symm
            rw [ht] at hB
            have hP : va_P D vwCl (MUW cI cJ cZ q (fu (fu (fu (fu (fu (fu (fu I 8 I8) 19 I19) 20 I20) 21 I21) 22 I22) 23 I23) 24 I24) J a (fu b 0 b0)) H1 := hB
            clear hB hz1 hk1 ht hvm
            generalize H1 = H at hP hS ⊢
            refine lv_if_eq (tgt := 196) hx hb dX7_know_189 (by decide) (fun c_22 => ?_) (fun c_22 => ?_)
            · have h := if_t c_22 h
              refine lv_iconst (v := 1) hx hb dX7_know_196 (by decide) ?_
              refine lv_iload_n hx hb dX7_know_197 rfl (lv_at hl 3 rfl) ?_
              refine lv_ishl hx hb dX7_know_198 ?_
              refine lv_iconst (v := (-1)) hx hb dX7_know_199 (by decide) ?_
              refine lv_ixor hx hb dX7_know_200 ?_
              exact C201 v1 v2 v3 (((1 : Int32) <<< (v3 &&& 31)) ^^^ (-1)) I20 I8 I19 I20 I21 I22 I23 I24 b0 h _ _ hP hS ls (lv_sub hl [0, 1, 2, 3] rfl)
            · have h := if_f c_22 h
              refine lv_iconst (v := (-1)) hx hb dX7_know_192 (by decide) ?_
              refine lv_goto (tgt := 201) hx hb dX7_know_193 (by decide) ?_
              exact C201 v1 v2 v3 (-1) I20 I8 I19 I20 I21 I22 I23 I24 b0 h _ _ hP hS ls (lv_sub hl [0, 1, 2, 3] rfl)
      have C144 : ∀ (v1 : Int32) (v2 : Int32) (I8 : Int32) (I19 : Int32) (I20 : Int32) (I21 : Int32) (I22 : Int32) (I23 : Int32) (I24 : Int32) (b0 : Nat → Int64), k_X7_know_144 F I J a b (k_X7_know_37 F I J a b n37) v1 v2 I8 I19 I20 I21 I22 I23 I24 b0 = some x0 → ∀ (H : Heap) (locs : List Loc), va_P D vwCl (MUW cI cJ cZ q (fu (fu (fu (fu (fu (fu (fu I 8 I8) 19 I19) 20 I20) 21 I21) 22 I22) 23 I23) 24 I24) J a (fu b 0 b0)) H → va_S (MUA q) s.heap H locs → ∀ ls : Array Slot, lv_has ls 7 [(0, .ref (q 0)), (1, .int v1), (2, .int v2)] → W p l e R s m args below meth c H locs 0 0 Q (F0 m 144 ls []) := by
        intro v1 v2 I8 I19 I20 I21 I22 I23 I24 b0 h H locs hP hS ls hl
        rw [k_X7_know_144] at h
        refine lv_aload_n hx hb dX7_know_144 rfl (lv_at hl 0 rfl) ?_
        refine lv_iload_n hx hb dX7_know_145 rfl (lv_at hl 2 rfl) ?_
        refine va_put (D := D) (ci := 7) (v := .int v2) (ty := .int) (C := RX7) (T := TX7) (N := 38) hx hb hts in_X7_know_X7 tyX7 tyX7_ok nmX7 hown hK hP (MUW_D hq) hS 0 rfl rfl 35 (by decide) (hts (.fieldLink RX7 139 "LearnedReasonsModel" "bestRow" "I") (by decide +kernel)) (fun _ h9 => h9) rfl (by decide +kernel) rfl rfl (Nat.le_of_ble_eq_true rfl) dX7_know_146 (fun H locs hP _ hS => ?_)
        have hP : va_P D vwCl (MUW cI cJ cZ q (fu (fu (fu (fu (fu (fu (fu I 8 I8) 19 I19) 20 I20) 21 I21) 22 I22) 23 v2) 24 I24) J a (fu b 0 b0)) H := hP
        refine lv_aload_n hx hb dX7_know_149 rfl (lv_at hl 0 rfl) ?_
        refine lv_aload_n hx hb dX7_know_150 rfl (lv_at hl 0 rfl) ?_
        refine lv_iload_n hx hb dX7_know_151 rfl (lv_at hl 2 rfl) ?_
        obtain ⟨x_23, hx_23, h⟩ := ob_some h
        refine va_calli (va_runV (As := [.int v2]) (rest := [.ref (q 0)]) ⟨hx, hb, hml, hown, hts⟩ (c_X7_costOf l D cI cJ cZ q hq F (fu (fu (fu (fu (fu (fu (fu I 8 I8) 19 I19) 20 I20) 21 I21) 22 I22) 23 v2) 24 I24) J a (fu b 0 b0) v2 x_23 hx_23) (cwV 1 hts gX7_know_X7_costOf rfl rfl rfl (by decide +kernel) (by rw [hR]; exact ⟨Nat.le_of_ble_eq_true rfl, Nat.le_of_ble_eq_true rfl⟩)) ⟨MUPc_blind, va_recv hK hP (ci := 7) (q0 := 0) rfl rfl, fun U hU hW => ⟨rfl, by rw [hU]; exact hP, va_K.moved hW.alike hK, trivial⟩⟩ rfl rfl hl.1 rfl (lv_room (Nat.le_of_ble_eq_true rfl)) dX7_know_152 ⟨Nat.zero_le _, Nat.zero_le _⟩) hS (fun _ _ h => h) (fun _ h => h) (fun r u t H1 locs ht hvm hw hB hz1 hk1 hS => ?_)
        obtain rfl := hw.symm
        rw [ht] at hB
        have hP : va_P D vwCl (MUW cI cJ cZ q (fu (fu (fu (fu (fu (fu (fu I 8 I8) 19 I19) 20 I20) 21 I21) 22 I22) 23 v2) 24 I24) J a (fu b 0 b0)) H1 := hB
        clear hB hz1 hk1 ht hvm
        generalize H1 = H at hP hS ⊢
        refine va_put (D := D) (ci := 7) (v := .int x_23) (ty := .int) (C := RX7) (T := TX7) (N := 38) hx hb hts in_X7_know_X7 tyX7 tyX7_ok nmX7 hown hK hP (MUW_D hq) hS 0 rfl rfl 36 (by decide) (hts (.fieldLink RX7 136 "LearnedReasonsModel" "bestCost" "I") (by decide +kernel)) (fun _ h9 => h9) rfl (by decide +kernel) rfl rfl (Nat.le_of_ble_eq_true rfl) dX7_know_155 (fun H locs hP _ hS => ?_)
        have hP : va_P D vwCl (MUW cI cJ cZ q (fu (fu (fu (fu (fu (fu (fu I 8 I8) 19 I19) 20 I20) 21 I21) 22 I22) 23 v2) 24 x_23) J a (fu b 0 b0)) H := hP
        refine lv_aload_n hx hb dX7_know_158 rfl (lv_at hl 0 rfl) ?_
        refine lv_dup hx hb dX7_know_159 rfl ?_
        refine va_get (D := D) (ci := 7) (v := .int I19) (C := RX7) (T := TX7) (N := 38) hx hb hts in_X7_know_X7 hown hK hP 0 rfl rfl 31 (by decide) (hts (.fieldLink RX7 118 "LearnedReasonsModel" "models" "I") (by decide +kernel)) (fun _ h9 => h9) rfl dX7_know_160 ?_
        refine lv_iconst (v := 1) hx hb dX7_know_163 (by decide) ?_
        refine lv_iadd hx hb dX7_know_164 ?_
        refine lv_topi (fun v_24 ev_24 => ?_)
        have h := nmI_at ev_24 h
        refine va_put (D := D) (ci := 7) (v := .int v_24) (ty := .int) (C := RX7) (T := TX7) (N := 38) hx hb hts in_X7_know_X7 tyX7 tyX7_ok nmX7 hown hK hP (MUW_D hq) hS 0 rfl rfl 31 (by decide) (hts (.fieldLink RX7 118 "LearnedReasonsModel" "models" "I") (by decide +kernel)) (fun _ h9 => h9) rfl (by decide +kernel) rfl rfl (Nat.le_of_ble_eq_true rfl) dX7_know_165 (fun H locs hP _ hS => ?_)
        have hP : va_P D vwCl (MUW cI cJ cZ q (fu (fu (fu (fu (fu (fu (fu I 8 I8) 19 v_24) 20 I20) 21 I21) 22 I22) 23 v2) 24 x_23) J a (fu b 0 b0)) H := hP
        refine lv_iconst (v := 0) hx hb dX7_know_168 (by decide) ?_
        refine lv_istore_n (lv' := [(3, .int 0), (0, .ref (q 0)), (1, .int v1), (2, .int v2)]) hx hb dX7_know_169 rfl hl (by decide) rfl (fun ls hl => ?_)
        exact C170 F v1 v2 0 I8 v_24 I20 I21 I22 v2 x_23 b0 h _ _ hP hS ls (lv_sub hl [1, 2, 3, 0] rfl)
      have C125 : ∀ (v1 : Int32) (v2 : Int32) (I8 : Int32) (I19 : Int32) (I20 : Int32) (I21 : Int32) (I22 : Int32) (I23 : Int32) (I24 : Int32) (b0 : Nat → Int64), k_X7_know_125 F I J a b (k_X7_know_37 F I J a b n37) v1 v2 I8 I19 I20 I21 I22 I23 I24 b0 = some x0 → ∀ (H : Heap) (locs : List Loc), va_P D vwCl (MUW cI cJ cZ q (fu (fu (fu (fu (fu (fu (fu I 8 I8) 19 I19) 20 I20) 21 I21) 22 I22) 23 I23) 24 I24) J a (fu b 0 b0)) H → va_S (MUA q) s.heap H locs → ∀ ls : Array Slot, lv_has ls 7 [(0, .ref (q 0)), (1, .int v1), (2, .int v2)] → W p l e R s m args below meth c H locs 0 0 Q (F0 m 125 ls []) := by
        intro v1 v2 I8 I19 I20 I21 I22 I23 I24 b0 h H locs hP hS ls hl
        rw [k_X7_know_125] at h
        refine lv_aload_n hx hb dX7_know_125 rfl (lv_at hl 0 rfl) ?_
        refine va_get (D := D) (ci := 7) (v := .int I19) (C := RX7) (T := TX7) (N := 38) hx hb hts in_X7_know_X7 hown hK hP 0 rfl rfl 31 (by decide) (hts (.fieldLink RX7 118 "LearnedReasonsModel" "models" "I") (by decide +kernel)) (fun _ h9 => h9) rfl dX7_know_126 ?_
        refine lv_if_eq (tgt := 144) hx hb dX7_know_129 (by decide) (fun c_25 => ?_) (fun c_25 => ?_)
        · have h := if_t c_25 h
          exact C144 v1 v2 I8 I19 I20 I21 I22 I23 I24 b0 h _ _ hP hS ls (lv_sub hl [0, 1, 2] rfl)
        · have h := if_f c_25 h
          refine lv_aload_n hx hb dX7_know_132 rfl (lv_at hl 0 rfl) ?_
          refine lv_iload_n hx hb dX7_know_133 rfl (lv_at hl 2 rfl) ?_
          obtain ⟨x_26, hx_26, h⟩ := ob_some h
          refine va_calli (va_runV (As := [.int v2]) (rest := []) ⟨hx, hb, hml, hown, hts⟩ (c_X7_costOf l D cI cJ cZ q hq F (fu (fu (fu (fu (fu (fu (fu I 8 I8) 19 I19) 20 I20) 21 I21) 22 I22) 23 I23) 24 I24) J a (fu b 0 b0) v2 x_26 hx_26) (cwV 1 hts gX7_know_X7_costOf rfl rfl rfl (by decide +kernel) (by rw [hR]; exact ⟨Nat.le_of_ble_eq_true rfl, Nat.le_of_ble_eq_true rfl⟩)) ⟨MUPc_blind, va_recv hK hP (ci := 7) (q0 := 0) rfl rfl, fun U hU hW => ⟨rfl, by rw [hU]; exact hP, va_K.moved hW.alike hK, trivial⟩⟩ rfl rfl hl.1 rfl (lv_room (Nat.le_of_ble_eq_true rfl)) dX7_know_134 ⟨Nat.zero_le _, Nat.zero_le _⟩) hS (fun _ _ h => h) (fun _ h => h) (fun r u t H1 locs ht hvm hw hB hz1 hk1 hS => ?_)
          obtain rfl := hw.symm
          rw [ht] at hB
          have hP : va_P D vwCl (MUW cI cJ cZ q (fu (fu (fu (fu (fu (fu (fu I 8 I8) 19 I19) 20 I20) 21 I21) 22 I22) 23 I23) 24 I24) J a (fu b 0 b0)) H1 := hB
          clear hB hz1 hk1 ht hvm
          generalize H1 = H at hP hS ⊢
          refine lv_aload_n hx hb dX7_know_137 rfl (lv_at hl 0 rfl) ?_
          refine va_get (D := D) (ci := 7) (v := .int I24) (C := RX7) (T := TX7) (N := 38) hx hb hts in_X7_know_X7 hown hK hP 0 rfl rfl 36 (by decide) (hts (.fieldLink RX7 136 "LearnedReasonsModel" "bestCost" "I") (by decide +kernel)) (fun _ h9 => h9) rfl dX7_know_138 ?_
          refine lv_icmp_ge (tgt := 158) hx hb dX7_know_141 (by decide) (fun c_27 => ?_) (fun c_27 => ?_)
          · have h := if_t c_27 h
            refine lv_aload_n hx hb dX7_know_158 rfl (lv_at hl 0 rfl) ?_
            refine lv_dup hx hb dX7_know_159 rfl ?_
            refine va_get (D := D) (ci := 7) (v := .int I19) (C := RX7) (T := TX7) (N := 38) hx hb hts in_X7_know_X7 hown hK hP 0 rfl rfl 31 (by decide) (hts (.fieldLink RX7 118 "LearnedReasonsModel" "models" "I") (by decide +kernel)) (fun _ h9 => h9) rfl dX7_know_160 ?_
            refine lv_iconst (v := 1) hx hb dX7_know_163 (by decide) ?_
            refine lv_iadd hx hb dX7_know_164 ?_
            refine lv_topi (fun v_28 ev_28 => ?_)
            have h := nmI_at ev_28 h
            refine va_put (D := D) (ci := 7) (v := .int v_28) (ty := .int) (C := RX7) (T := TX7) (N := 38) hx hb hts in_X7_know_X7 tyX7 tyX7_ok nmX7 hown hK hP (MUW_D hq) hS 0 rfl rfl 31 (by decide) (hts (.fieldLink RX7 118 "LearnedReasonsModel" "models" "I") (by decide +kernel)) (fun _ h9 => h9) rfl (by decide +kernel) rfl rfl (Nat.le_of_ble_eq_true rfl) dX7_know_165 (fun H locs hP _ hS => ?_)
            have hP : va_P D vwCl (MUW cI cJ cZ q (fu (fu (fu (fu (fu (fu (fu I 8 I8) 19 v_28) 20 I20) 21 I21) 22 I22) 23 I23) 24 I24) J a (fu b 0 b0)) H := hP
            refine lv_iconst (v := 0) hx hb dX7_know_168 (by decide) ?_
            refine lv_istore_n (lv' := [(3, .int 0), (0, .ref (q 0)), (1, .int v1), (2, .int v2)]) hx hb dX7_know_169 rfl hl (by decide) rfl (fun ls hl => ?_)
            exact C170 F v1 v2 0 I8 v_28 I20 I21 I22 I23 I24 b0 h _ _ hP hS ls (lv_sub hl [1, 2, 3, 0] rfl)
          · have h := if_f c_27 h
            exact C144 v1 v2 I8 I19 I20 I21 I22 I23 I24 b0 h _ _ hP hS ls (lv_sub hl [0, 1, 2] rfl)
      have C51 : ∀ (n51 : Nat) (v1 : Int32) (v2 : Int32) (v3 : Int32) (I8 : Int32) (I19 : Int32) (I20 : Int32) (I21 : Int32) (I22 : Int32) (I23 : Int32) (I24 : Int32) (b0 : Nat → Int64), k_X7_know_51 F I J a b (k_X7_know_37 F I J a b n37) n51 v1 v2 v3 I8 I19 I20 I21 I22 I23 I24 b0 = some x0 → ∀ (H : Heap) (locs : List Loc), va_P D vwCl (MUW cI cJ cZ q (fu (fu (fu (fu (fu (fu (fu I 8 I8) 19 I19) 20 I20) 21 I21) 22 I22) 23 I23) 24 I24) J a (fu b 0 b0)) H → va_S (MUA q) s.heap H locs → ∀ ls : Array Slot, lv_has ls 7 [(0, .ref (q 0)), (1, .int v1), (2, .int v2), (3, .int v3)] → W p l e R s m args below meth c H locs 0 0 Q (F0 m 51 ls []) := by
        intro n51
        induction n51 with
        | zero => intro v1 v2 v3 I8 I19 I20 I21 I22 I23 I24 b0 h; rw [k_X7_know_51] at h; cases h
        | succ n51 ih51 =>
          intro v1 v2 v3 I8 I19 I20 I21 I22 I23 I24 b0 h H locs hP hS ls hl
          rw [k_X7_know_51] at h
          refine lv_iload_n hx hb dX7_know_51 rfl (lv_at hl 3 rfl) ?_
          refine lv_aload_n hx hb dX7_know_52 rfl (lv_at hl 0 rfl) ?_
          refine va_get (D := D) (ci := 7) (v := .int (I 1)) (C := RX7) (T := TX7) (N := 38) hx hb hts in_X7_know_X7 hown hK hP 0 rfl rfl 1 (by decide) (hts (.fieldLink RX7 66 "LearnedReasonsModel" "things" "I") (by decide +kernel)) (fun _ h9 => h9) rfl dX7_know_53 ?_
          refine lv_icmp_ge (tgt := 99) hx hb dX7_know_56 (by decide) (fun c_29 => ?_) (fun c_29 => ?_)
          · have h := if_t c_29 h
            refine lv_aload_n hx hb dX7_know_99 rfl (lv_at hl 0 rfl) ?_
            refine va_get (D := D) (ci := 7) (v := .ref (q 12)) (C := RX7) (T := TX7) (N := 38) hx hb hts in_X7_know_X7 hown hK hP 0 rfl rfl 30 (by decide) (hts (.fieldLink RX7 44 "LearnedReasonsModel" "broken" "[J") (by decide +kernel)) (fun _ h9 => h9) rfl dX7_know_100 ?_
            refine lv_iload_n hx hb dX7_know_103 rfl (lv_at hl 2 rfl) ?_
            obtain ⟨g_30, h⟩ := gd_some h
            refine va_lald hx hb hK hP 12 1 rfl rfl g_30 dX7_know_104 ?_
            refine lv_lconst (v := 0) hx hb dX7_know_105 (by decide) ?_
            refine W.lcmp hx hb dX7_know_106 ?_
            refine lv_if_eq (tgt := 113) hx hb dX7_know_107 (by decide) (fun c_31 => ?_) (fun c_31 => ?_)
            · have h := if_t c_31 h
              refine lv_aload_n hx hb dX7_know_113 rfl (lv_at hl 0 rfl) ?_
              refine va_get (D := D) (ci := 7) (v := .int I19) (C := RX7) (T := TX7) (N := 38) hx hb hts in_X7_know_X7 hown hK hP 0 rfl rfl 31 (by decide) (hts (.fieldLink RX7 118 "LearnedReasonsModel" "models" "I") (by decide +kernel)) (fun _ h9 => h9) rfl dX7_know_114 ?_
              refine lv_if_ne (tgt := 125) hx hb dX7_know_117 (by decide) (fun c_32 => ?_) (fun c_32 => ?_)
              · have h := if_f c_32 h
                exact C125 v1 v2 I8 I19 I20 I21 I22 I23 I24 b0 h _ _ hP hS ls (lv_sub hl [0, 1, 2] rfl)
              · have h := if_t c_32 h
                refine lv_aload_n hx hb dX7_know_120 rfl (lv_at hl 0 rfl) ?_
                refine lv_iload_n hx hb dX7_know_121 rfl (lv_at hl 2 rfl) ?_
                refine va_put (D := D) (ci := 7) (v := .int v2) (ty := .int) (C := RX7) (T := TX7) (N := 38) hx hb hts in_X7_know_X7 tyX7 tyX7_ok nmX7 hown hK hP (MUW_D hq) hS 0 rfl rfl 34 (by decide) (hts (.fieldLink RX7 130 "LearnedReasonsModel" "firstRow" "I") (by decide +kernel)) (fun _ h9 => h9) rfl (by decide +kernel) rfl rfl (Nat.le_of_ble_eq_true rfl) dX7_know_122 (fun H locs hP _ hS => ?_)
                have hP : va_P D vwCl (MUW cI cJ cZ q (fu (fu (fu (fu (fu (fu (fu I 8 I8) 19 I19) 20 I20) 21 I21) 22 v2) 23 I23) 24 I24) J a (fu b 0 b0)) H := hP
                exact C125 v1 v2 I8 I19 I20 I21 v2 I23 I24 b0 h _ _ hP hS ls (lv_sub hl [0, 1, 2] rfl)
            · have h := if_f c_31 h
              refine lv_goto (tgt := 238) hx hb dX7_know_110 (by decide) ?_
              refine lv_iinc (v := v2 + 1) (lv' := [(2, .int (v2 + 1)), (0, .ref (q 0)), (1, .int v1), (3, .int v3)]) hx hb dX7_know_238 hl (k := 2) rfl rfl (by decide) rfl (fun ls hl => ?_)
              refine lv_goto (tgt := 37) hx hb dX7_know_241 (by decide) ?_
              exact ih37 v1 (v2 + 1) I8 I19 I20 I21 I22 I23 I24 b0 h _ _ hP hS ls (lv_sub hl [1, 2, 0] rfl)
          · have h := if_f c_29 h
            refine lv_aload_n hx hb dX7_know_59 rfl (lv_at hl 0 rfl) ?_
            refine va_get (D := D) (ci := 7) (v := .ref (q 12)) (C := RX7) (T := TX7) (N := 38) hx hb hts in_X7_know_X7 hown hK hP 0 rfl rfl 30 (by decide) (hts (.fieldLink RX7 44 "LearnedReasonsModel" "broken" "[J") (by decide +kernel)) (fun _ h9 => h9) rfl dX7_know_60 ?_
            refine lv_iload_n hx hb dX7_know_63 rfl (lv_at hl 2 rfl) ?_
            refine lv_dup2_11 hx hb dX7_know_64 rfl rfl ?_
            obtain ⟨g_33, h⟩ := gd_some h
            refine va_lald hx hb hK hP 12 1 rfl rfl g_33 dX7_know_65 ?_
            refine lv_aload_n hx hb dX7_know_66 rfl (lv_at hl 0 rfl) ?_
            refine va_get (D := D) (ci := 7) (v := .ref (q 1)) (C := RX7) (T := TX7) (N := 38) hx hb hts in_X7_know_X7 hown hK hP 0 rfl rfl 2 (by decide) (hts (.fieldLink RX7 7 "LearnedReasonsModel" "alive" "[Z") (by decide +kernel)) (fun _ h9 => h9) rfl dX7_know_67 ?_
            refine lv_iload_n hx hb dX7_know_70 rfl (lv_at hl 3 rfl) ?_
            obtain ⟨g_34, h⟩ := gd_some h
            refine va_zald hx hb hK hP 1 2 rfl rfl g_34 dX7_know_71 ?_
            refine lv_if_eq (tgt := 90) hx hb dX7_know_72 (by decide) (fun c_35 => ?_) (fun c_35 => ?_)
            · have h := if_t c_35 h
              refine lv_lconst (v := 0) hx hb dX7_know_90 (by decide) ?_
              refine lv_lor hx hb dX7_know_91 ?_
              obtain ⟨g_36, h⟩ := gd_some h
              refine va_last hx hb hK hP (MUW_D hq) hS 12 1 rfl rfl g_36 dX7_know_92 (fun H locs hP _ hS => ?_)
              have hP : va_P D vwCl (MUW cI cJ cZ q (fu (fu (fu (fu (fu (fu (fu I 8 I8) 19 I19) 20 I20) 21 I21) 22 I22) 23 I23) 24 I24) J a (fu b 0 (vp_updL b0 v2.toNatClampNeg ((b0 v2.toNatClampNeg) ||| 0)))) H := hP
              refine lv_iinc (v := v3 + 1) (lv' := [(3, .int (v3 + 1)), (0, .ref (q 0)), (1, .int v1), (2, .int v2)]) hx hb dX7_know_93 hl (k := 3) rfl rfl (by decide) rfl (fun ls hl => ?_)
              refine lv_goto (tgt := 51) hx hb dX7_know_96 (by decide) ?_
              exact ih51 v1 v2 (v3 + 1) I8 I19 I20 I21 I22 I23 I24 (vp_updL b0 v2.toNatClampNeg ((b0 v2.toNatClampNeg) ||| 0)) h _ _ hP hS ls (lv_sub hl [1, 2, 3, 0] rfl)
            · have h := if_f c_35 h
              refine lv_aload_n hx hb dX7_know_75 rfl (lv_at hl 0 rfl) ?_
              refine lv_iload_n hx hb dX7_know_76 rfl (lv_at hl 2 rfl) ?_
              refine lv_iload_n hx hb dX7_know_77 rfl (lv_at hl 3 rfl) ?_
              obtain ⟨x_37, hx_37, h⟩ := ob_some h
              refine va_calli (va_runV (As := [.int v2, .int v3]) (rest := [.long (b0 v2.toNatClampNeg), .int v2, .ref (q 12)]) ⟨hx, hb, hml, hown, hts⟩ (c_X7_keeps l D cI cJ cZ q hq F (fu (fu (fu (fu (fu (fu (fu I 8 I8) 19 I19) 20 I20) 21 I21) 22 I22) 23 I23) 24 I24) J a (fu b 0 b0) v2 v3 x_37 hx_37) (cwV 2 hts gX7_know_X7_keeps rfl rfl rfl (by decide +kernel) (by rw [hR]; exact ⟨Nat.le_of_ble_eq_true rfl, Nat.le_of_ble_eq_true rfl⟩)) ⟨MUPc_blind, va_recv hK hP (ci := 7) (q0 := 0) rfl rfl, fun U hU hW => ⟨rfl, by rw [hU]; exact hP, va_K.moved hW.alike hK, trivial⟩⟩ rfl rfl hl.1 rfl (lv_room (Nat.le_of_ble_eq_true rfl)) dX7_know_78 ⟨Nat.zero_le _, Nat.zero_le _⟩) hS (fun _ _ h => h) (fun _ h => h) (fun r u t H1 locs ht hvm hw hB hz1 hk1 hS => ?_)
              obtain rfl := hw.symm
              rw [ht] at hB
              have hP : va_P D vwCl (MUW cI cJ cZ q (fu (fu (fu (fu (fu (fu (fu I 8 I8) 19 I19) 20 I20) 21 I21) 22 I22) 23 I23) 24 I24) J a (fu b 0 b0)) H1 := hB
              clear hB hz1 hk1 ht hvm
              generalize H1 = H at hP hS ⊢
              refine lv_if_ne (tgt := 90) hx hb dX7_know_81 (by decide) (fun c_38 => ?_) (fun c_38 => ?_)
              · have h := if_f c_38 h
                refine lv_lconst (v := 0) hx hb dX7_know_90 (by decide) ?_
                refine lv_lor hx hb dX7_know_91 ?_
                obtain ⟨g_39, h⟩ := gd_some h
                refine va_last hx hb hK hP (MUW_D hq) hS 12 1 rfl rfl g_39 dX7_know_92 (fun H locs hP _ hS => ?_)
                have hP : va_P D vwCl (MUW cI cJ cZ q (fu (fu (fu (fu (fu (fu (fu I 8 I8) 19 I19) 20 I20) 21 I21) 22 I22) 23 I23) 24 I24) J a (fu b 0 (vp_updL b0 v2.toNatClampNeg ((b0 v2.toNatClampNeg) ||| 0)))) H := hP
                refine lv_iinc (v := v3 + 1) (lv' := [(3, .int (v3 + 1)), (0, .ref (q 0)), (1, .int v1), (2, .int v2)]) hx hb dX7_know_93 hl (k := 3) rfl rfl (by decide) rfl (fun ls hl => ?_)
                refine lv_goto (tgt := 51) hx hb dX7_know_96 (by decide) ?_
                exact ih51 v1 v2 (v3 + 1) I8 I19 I20 I21 I22 I23 I24 (vp_updL b0 v2.toNatClampNeg ((b0 v2.toNatClampNeg) ||| 0)) h _ _ hP hS ls (lv_sub hl [1, 2, 3, 0] rfl)
              · have h := if_t c_38 h
                refine lv_lconst (v := 1) hx hb dX7_know_84 (by decide) ?_
                refine lv_iload_n hx hb dX7_know_85 rfl (lv_at hl 3 rfl) ?_
                refine lv_lshl hx hb dX7_know_86 rfl ?_
                refine lv_goto (tgt := 91) hx hb dX7_know_87 (by decide) ?_
                refine lv_lor hx hb dX7_know_91 ?_
                obtain ⟨g_40, h⟩ := gd_some h
                refine va_last hx hb hK hP (MUW_D hq) hS 12 1 rfl rfl g_40 dX7_know_92 (fun H locs hP _ hS => ?_)
                have hP : va_P D vwCl (MUW cI cJ cZ q (fu (fu (fu (fu (fu (fu (fu I 8 I8) 19 I19) 20 I20) 21 I21) 22 I22) 23 I23) 24 I24) J a (fu b 0 (vp_updL b0 v2.toNatClampNeg ((b0 v2.toNatClampNeg) ||| ((1 : Int64) <<< (v3.toInt64 &&& 63)))))) H := hP
                refine lv_iinc (v := v3 + 1) (lv' := [(3, .int (v3 + 1)), (0, .ref (q 0)), (1, .int v1), (2, .int v2)]) hx hb dX7_know_93 hl (k := 3) rfl rfl (by decide) rfl (fun ls hl => ?_)
                refine lv_goto (tgt := 51) hx hb dX7_know_96 (by decide) ?_
                exact ih51 v1 v2 (v3 + 1) I8 I19 I20 I21 I22 I23 I24 (vp_updL b0 v2.toNatClampNeg ((b0 v2.toNatClampNeg) ||| ((1 : Int64) <<< (v3.toInt64 &&& 63)))) h _ _ hP hS ls (lv_sub hl [1, 2, 3, 0] rfl)
      refine lv_iload_n hx hb dX7_know_37 rfl (lv_at hl 2 rfl) ?_
      refine lv_iload_n hx hb dX7_know_38 rfl (lv_at hl 1 rfl) ?_
      refine lv_icmp_ge (tgt := 244) hx hb dX7_know_39 (by decide) (fun c_41 => ?_) (fun c_41 => ?_)
      · have h := if_t c_41 h
        refine lv_aload_n hx hb dX7_know_244 rfl (lv_at hl 0 rfl) ?_
        refine lv_lconst (v := 0) hx hb dX7_know_245 (by decide) ?_
        refine va_put (D := D) (ci := 7) (v := .long 0) (ty := .long) (C := RX7) (T := TX7) (N := 38) hx hb hts in_X7_know_X7 tyX7 tyX7_ok nmX7 hown hK hP (MUW_D hq) hS 0 rfl rfl 37 (by decide) (hts (.fieldLink RX7 142 "LearnedReasonsModel" "core" "J") (by decide +kernel)) (fun _ h9 => h9) rfl (by decide +kernel) rfl rfl (Nat.le_of_ble_eq_true rfl) dX7_know_246 (fun H locs hP _ hS => ?_)
        have hP : va_P D vwCl (MUW cI cJ cZ q (fu (fu (fu (fu (fu (fu (fu I 8 I8) 19 I19) 20 I20) 21 I21) 22 I22) 23 I23) 24 I24) (fu J 0 0) a (fu b 0 b0)) H := hP
        refine lv_iconst (v := 0) hx hb dX7_know_249 (by decide) ?_
        refine lv_istore_n (lv' := [(2, .int 0), (0, .ref (q 0)), (1, .int v1)]) hx hb dX7_know_250 rfl hl (by decide) rfl (fun ls hl => ?_)
        exact C251 F v1 0 I8 I19 I20 I21 I22 I23 I24 0 b0 h _ _ hP hS ls (lv_sub hl [1, 2, 0] rfl)
      · have h := if_f c_41 h
        refine lv_aload_n hx hb dX7_know_42 rfl (lv_at hl 0 rfl) ?_
        refine va_get (D := D) (ci := 7) (v := .ref (q 12)) (C := RX7) (T := TX7) (N := 38) hx hb hts in_X7_know_X7 hown hK hP 0 rfl rfl 30 (by decide) (hts (.fieldLink RX7 44 "LearnedReasonsModel" "broken" "[J") (by decide +kernel)) (fun _ h9 => h9) rfl dX7_know_43 ?_
        refine lv_iload_n hx hb dX7_know_46 rfl (lv_at hl 2 rfl) ?_
        refine lv_lconst (v := 0) hx hb dX7_know_47 (by decide) ?_
        obtain ⟨g_42, h⟩ := gd_some h
        refine va_last hx hb hK hP (MUW_D hq) hS 12 1 rfl rfl g_42 dX7_know_48 (fun H locs hP _ hS => ?_)
        have hP : va_P D vwCl (MUW cI cJ cZ q (fu (fu (fu (fu (fu (fu (fu I 8 I8) 19 I19) 20 I20) 21 I21) 22 I22) 23 I23) 24 I24) J a (fu b 0 (vp_updL b0 v2.toNatClampNeg 0))) H := hP
        refine lv_iconst (v := 0) hx hb dX7_know_49 (by decide) ?_
        refine lv_istore_n (lv' := [(3, .int 0), (0, .ref (q 0)), (1, .int v1), (2, .int v2)]) hx hb dX7_know_50 rfl hl (by decide) rfl (fun ls hl => ?_)
        exact C51 F v1 v2 0 I8 I19 I20 I21 I22 I23 I24 (vp_updL b0 v2.toNatClampNeg 0) h _ _ hP hS ls (lv_sub hl [1, 2, 3, 0] rfl)
  refine lv_aload_n hx hb dX7_know_0 rfl (lv_at hl 0 rfl) ?_
  refine va_get (D := D) (ci := 7) (v := .int (I 8)) (C := RX7) (T := TX7) (N := 38) hx hb hts in_X7_know_X7 hown hK hP 0 rfl rfl 17 (by decide) (hts (.fieldLink RX7 115 "LearnedReasonsModel" "known" "Z") (by decide +kernel)) (fun _ h9 => h9) rfl dX7_know_1 ?_
  refine lv_if_eq (tgt := 8) hx hb dX7_know_4 (by decide) (fun c_43 => ?_) (fun c_43 => ?_)
  · have h := if_t c_43 h
    refine lv_aload_n hx hb dX7_know_8 rfl (lv_at hl 0 rfl) ?_
    refine lv_iconst (v := 1) hx hb dX7_know_9 (by decide) ?_
    refine va_put (D := D) (ci := 7) (v := .int 1) (ty := .boolean) (C := RX7) (T := TX7) (N := 38) hx hb hts in_X7_know_X7 tyX7 tyX7_ok nmX7 hown hK hP (MUW_D hq) hS 0 rfl rfl 17 (by decide) (hts (.fieldLink RX7 115 "LearnedReasonsModel" "known" "Z") (by decide +kernel)) (fun _ h9 => h9) rfl (by decide +kernel) rfl rfl (Nat.le_of_ble_eq_true rfl) dX7_know_10 (fun H locs hP _ hS => ?_)
    have hP : va_P D vwCl (MUW cI cJ cZ q (fu I 8 1) J a b) H := hP
    refine lv_aload_n hx hb dX7_know_13 rfl (lv_at hl 0 rfl) ?_
    refine lv_iconst (v := 0) hx hb dX7_know_14 (by decide) ?_
    refine va_put (D := D) (ci := 7) (v := .int 0) (ty := .int) (C := RX7) (T := TX7) (N := 38) hx hb hts in_X7_know_X7 tyX7 tyX7_ok nmX7 hown hK hP (MUW_D hq) hS 0 rfl rfl 31 (by decide) (hts (.fieldLink RX7 118 "LearnedReasonsModel" "models" "I") (by decide +kernel)) (fun _ h9 => h9) rfl (by decide +kernel) rfl rfl (Nat.le_of_ble_eq_true rfl) dX7_know_15 (fun H locs hP _ hS => ?_)
    have hP : va_P D vwCl (MUW cI cJ cZ q (fu (fu I 8 1) 19 0) J a b) H := hP
    refine lv_aload_n hx hb dX7_know_18 rfl (lv_at hl 0 rfl) ?_
    refine lv_iconst (v := (-1)) hx hb dX7_know_19 (by decide) ?_
    refine va_put (D := D) (ci := 7) (v := .int (-1)) (ty := .int) (C := RX7) (T := TX7) (N := 38) hx hb hts in_X7_know_X7 tyX7 tyX7_ok nmX7 hown hK hP (MUW_D hq) hS 0 rfl rfl 32 (by decide) (hts (.fieldLink RX7 121 "LearnedReasonsModel" "inAll" "I") (by decide +kernel)) (fun _ h9 => h9) rfl (by decide +kernel) rfl rfl (Nat.le_of_ble_eq_true rfl) dX7_know_20 (fun H locs hP _ hS => ?_)
    have hP : va_P D vwCl (MUW cI cJ cZ q (fu (fu (fu I 8 1) 19 0) 20 (-1)) J a b) H := hP
    refine lv_aload_n hx hb dX7_know_23 rfl (lv_at hl 0 rfl) ?_
    refine lv_iconst (v := (-1)) hx hb dX7_know_24 (by decide) ?_
    refine va_put (D := D) (ci := 7) (v := .int (-1)) (ty := .int) (C := RX7) (T := TX7) (N := 38) hx hb hts in_X7_know_X7 tyX7 tyX7_ok nmX7 hown hK hP (MUW_D hq) hS 0 rfl rfl 33 (by decide) (hts (.fieldLink RX7 124 "LearnedReasonsModel" "inNone" "I") (by decide +kernel)) (fun _ h9 => h9) rfl (by decide +kernel) rfl rfl (Nat.le_of_ble_eq_true rfl) dX7_know_25 (fun H locs hP _ hS => ?_)
    have hP : va_P D vwCl (MUW cI cJ cZ q (fu (fu (fu (fu I 8 1) 19 0) 20 (-1)) 21 (-1)) J a b) H := hP
    refine lv_iconst (v := 1) hx hb dX7_know_28 (by decide) ?_
    refine lv_aload_n hx hb dX7_know_29 rfl (lv_at hl 0 rfl) ?_
    refine va_get (D := D) (ci := 7) (v := .int (I 0)) (C := RX7) (T := TX7) (N := 38) hx hb hts in_X7_know_X7 hown hK hP 0 rfl rfl 0 (by decide) (hts (.fieldLink RX7 63 "LearnedReasonsModel" "names" "I") (by decide +kernel)) (fun _ h9 => h9) rfl dX7_know_30 ?_
    refine lv_ishl hx hb dX7_know_33 ?_
    refine lv_topi (fun v_44 ev_44 => ?_)
    have h := nmI_at ev_44 h
    refine lv_istore_n (lv' := [(1, .int v_44), (0, .ref (q 0))]) hx hb dX7_know_34 rfl hl (by decide) rfl (fun ls hl => ?_)
    refine lv_iconst (v := 0) hx hb dX7_know_35 (by decide) ?_
    refine lv_istore_n (lv' := [(2, .int 0), (1, .int v_44), (0, .ref (q 0))]) hx hb dX7_know_36 rfl hl (by decide) rfl (fun ls hl => ?_)
    exact C37 F v_44 0 1 0 (-1) (-1) (I 22) (I 23) (I 24) (b 0) h _ _ hP hS ls (lv_sub hl [2, 1, 0] rfl)
  · have h := if_f c_43 h
    have hx0 := Option.some.inj h
    rw [hQ]
    exact W.vret hx hb hr (fun t ht hW => ⟨⟨((I 8), (I 19), (I 20), (I 21), (I 22), (I 23), (I 24), (J 0), (b 0)), rfl, hx0, by show va_P _ _ _ t.heap; rw [ht]; exact hP⟩, hS.F ht⟩) hS.2.2 dX7_know_7
