theorem in_X7_byClause_X7 : ∀ w ∈ wsX70, w ∈ wsX7_byClause := by decide +kernel
set_option maxHeartbeats 4000000 in
set_option maxRecDepth 100000 in
theorem c_X7_byClause (l : Launch) (D : va_G) (cI cJ cZ : ClassId) (q : Nat → Nat) (hq : MUQ q) (F : Nat) (I : Nat → Int32) (J : Nat → Int64) (a : Nat → Nat → Int32) (b : Nat → Nat → Int64) (v1 : Int32) (v2 : Int32) (x0 : Int32 × Int32 × Int32 × Int32) (h : f_X7_byClause F I J a b v1 v2 = some x0) : Met l yX7_byClause wsX7_byClause ({ frames := 1, cells := 0, slots := 0, locals := 22 }) (MUPc D cI cJ cZ q I J a b [.ref (q 0), .int v1, .int v2]) (va_Qi (fun (r : Int32) (u : Int32 × Int32 × Int32) => r = x0.1 ∧ u = x0.2) (fun (u : Int32 × Int32 × Int32) t => va_P D vwCl (MUW cI cJ cZ q (fu (fu (fu I 10 u.1) 11 u.2.1) 12 u.2.2) J a b) t.heap) (MUA q)) 0 0 (MUA q) := by
  refine mt_of (cc := cX7_byClause) (maxL := 6) (ret := (some .boolean)) (by decide) rfl ?_
  intro p e s m args below meth c s₁ B0 hml hv R Q hR hQ
  obtain ⟨hargs, hP, hK, hN⟩ := hv
  have hx := B0.exec
  have hb := B0.bytes
  have hr := B0.returns
  have hts := atoms_spec (ws := wsX7_byClause) B0.pre
  have hown : s.vm.findClass RX7 = some m.cls := findClass_of_methodNamed B0.named
  have hlocks := B0.notSynchronized
  have hS : va_S (MUA q) s.heap s.heap [] := va_S.rf
  have hl := lv_entry ([.ref (q 0), .int v1, .int v2]) (n := 6) (Nat.le_of_ble_eq_true rfl)
  rw [hargs, lg_entry_eq]
  rw [← hargs]
  generalize (lg_sl ([.ref (q 0), .int v1, .int v2]) ++ List.replicate (6 - (lg_sl ([.ref (q 0), .int v1, .int v2])).length) Slot.unset).toArray = ls at hl ⊢
  have hl : lv_has ls 6 [(0, .ref (q 0)), (1, .int v1), (2, .int v2)] := hl
  unfold f_X7_byClause at h
  refine lv_iload_n hx hb dX7_byClause_0 rfl (lv_at hl 1 rfl) ?_
  refine lv_aload_n hx hb dX7_byClause_1 rfl (lv_at hl 0 rfl) ?_
  refine va_get (D := D) (ci := 7) (v := .int (I 10)) (C := RX7) (T := TX7) (N := 38) hx hb hts in_X7_byClause_X7 hown hK hP 0 rfl rfl 19 (by decide) (hts (.fieldLink RX7 48 "LearnedReasonsModel" "yes" "I") (by decide +kernel)) (fun _ h9 => h9) rfl dX7_byClause_2 ?_
  refine lv_iconst (v := (-1)) hx hb dX7_byClause_5 (by decide) ?_
  refine lv_ixor hx hb dX7_byClause_6 ?_
  refine lv_iand hx hb dX7_byClause_7 ?_
  refine lv_aload_n hx hb dX7_byClause_8 rfl (lv_at hl 0 rfl) ?_
  refine va_get (D := D) (ci := 7) (v := .int (I 11)) (C := RX7) (T := TX7) (N := 38) hx hb hts in_X7_byClause_X7 hown hK hP 0 rfl rfl 20 (by decide) (hts (.fieldLink RX7 52 "LearnedReasonsModel" "no" "I") (by decide +kernel)) (fun _ h9 => h9) rfl dX7_byClause_9 ?_
  refine lv_iconst (v := (-1)) hx hb dX7_byClause_12 (by decide) ?_
  refine lv_ixor hx hb dX7_byClause_13 ?_
  refine lv_iand hx hb dX7_byClause_14 ?_
  refine lv_topi (fun v_1 ev_1 => ?_)
  have h := nmI_at ev_1 h
  refine lv_istore_n (lv' := [(3, .int v_1), (0, .ref (q 0)), (1, .int v1), (2, .int v2)]) hx hb dX7_byClause_15 rfl hl (by decide) rfl (fun ls hl => ?_)
  refine lv_iload_n hx hb dX7_byClause_16 rfl (lv_at hl 3 rfl) ?_
  refine lv_aload_n hx hb dX7_byClause_17 rfl (lv_at hl 1 rfl) ?_
  refine va_get (D := D) (ci := 7) (v := .int (I 10)) (C := RX7) (T := TX7) (N := 38) hx hb hts in_X7_byClause_X7 hown hK hP 0 rfl rfl 19 (by decide) (hts (.fieldLink RX7 48 "LearnedReasonsModel" "yes" "I") (by decide +kernel)) (fun _ h9 => h9) rfl dX7_byClause_18 ?_
  refine lv_iconst (v := (-1)) hx hb dX7_byClause_21 (by decide) ?_
  refine lv_ixor hx hb dX7_byClause_22 ?_
  refine lv_iand hx hb dX7_byClause_23 ?_
  refine lv_aload_n hx hb dX7_byClause_24 rfl (lv_at hl 1 rfl) ?_
  refine va_get (D := D) (ci := 7) (v := .int (I 11)) (C := RX7) (T := TX7) (N := 38) hx hb hts in_X7_byClause_X7 hown hK hP 0 rfl rfl 20 (by decide) (hts (.fieldLink RX7 52 "LearnedReasonsModel" "no" "I") (by decide +kernel)) (fun _ h9 => h9) rfl dX7_byClause_25 ?_
  refine lv_iconst (v := (-1)) hx hb dX7_byClause_28 (by decide) ?_
  refine lv_ixor hx hb dX7_byClause_29 ?_
  refine lv_iand hx hb dX7_byClause_30 ?_
  refine lv_topi (fun v_2 ev_2 => ?_)
  have h := nmI_at ev_2 h
  refine lv_istore (lv' := [(4, .int v_2), (3, .int v_1), (0, .ref (q 0)), (1, .int v1), (2, .int v2)]) hx hb dX7_byClause_31 hl (by decide) rfl (fun ls hl => ?_)
  refine lv_iload_n hx hb dX7_byClause_33 rfl (lv_at hl 3 rfl) ?_
  refine lv_aload_n hx hb dX7_byClause_34 rfl (lv_at hl 2 rfl) ?_
  refine va_get (D := D) (ci := 7) (v := .int (I 10)) (C := RX7) (T := TX7) (N := 38) hx hb hts in_X7_byClause_X7 hown hK hP 0 rfl rfl 19 (by decide) (hts (.fieldLink RX7 48 "LearnedReasonsModel" "yes" "I") (by decide +kernel)) (fun _ h9 => h9) rfl dX7_byClause_35 ?_
  refine lv_iand hx hb dX7_byClause_38 ?_
  refine lv_if_ne (tgt := 51) hx hb dX7_byClause_39 (by decide) (fun c_3 => ?_) (fun c_3 => ?_)
  · have h := if_f c_3 h
    refine lv_iconst (v := 0) hx hb dX7_byClause_51 (by decide) ?_
    have hx0 := Option.some.inj h
    rw [hQ]
    exact W.zret (v := 0) hx hb hr (rfl) (fun t ht hW => ⟨⟨0, ((I 10), (I 11), (I 12)), rfl, ⟨congrArg (fun z => z.1) hx0, congrArg (fun z => z.2) hx0⟩, by show va_P _ _ _ t.heap; rw [ht]; exact hP⟩, hS.F ht⟩) hS.2.2 dX7_byClause_52
  · have h := if_t c_3 h
    refine lv_iload_n hx hb dX7_byClause_42 rfl (lv_at hl 4 rfl) ?_
    refine lv_aload_n hx hb dX7_byClause_43 rfl (lv_at hl 2 rfl) ?_
    refine va_get (D := D) (ci := 7) (v := .int (I 11)) (C := RX7) (T := TX7) (N := 38) hx hb hts in_X7_byClause_X7 hown hK hP 0 rfl rfl 20 (by decide) (hts (.fieldLink RX7 52 "LearnedReasonsModel" "no" "I") (by decide +kernel)) (fun _ h9 => h9) rfl dX7_byClause_44 ?_
    refine lv_iand hx hb dX7_byClause_47 ?_
    refine lv_if_eq (tgt := 53) hx hb dX7_byClause_48 (by decide) (fun c_4 => ?_) (fun c_4 => ?_)
    · have h := if_t c_4 h
      refine lv_iload_n hx hb dX7_byClause_53 rfl (lv_at hl 1 rfl) ?_
      obtain ⟨x_5, hx_5, h⟩ := ob_some h
      refine va_calli (va_runS (As := [.int v_1]) (rest := []) ⟨hx, hb, hml, hown, hts⟩ (c_X7_bits l F v_1 x_5 hx_5) (va_cwS 1 hts gX7_byClause_X7_bits rfl rfl rfl (by decide +kernel) (by rw [hR]; exact ⟨Nat.le_of_ble_eq_true rfl, Nat.le_of_ble_eq_true rfl⟩)) ⟨fun _ _ _ _ h => h, fun U hU hW => ⟨rfl, trivial⟩⟩ rfl rfl hl.1 rfl (lv_room (Nat.le_of_ble_eq_true rfl)) dX7_byClause_54 ⟨Nat.zero_le _, Nat.zero_le _⟩) hS (fun _ _ h => h.elim) (fun _ h => h.elim) (fun r u t H1 locs ht hvm hw hB hz1 hk1 hS => ?_)
      obtain rfl := hw.symm
      have hP := hP.kept (fun k x hx => hk1 x.1 (hP k x hx).lt (fun h => h))
      clear hB hz1 hk1 ht hvm
      generalize H1 = H at hP hS ⊢
      refine lv_iload hx hb dX7_byClause_57 (lv_at hl 0 rfl) ?_
      obtain ⟨x_6, hx_6, h⟩ := ob_some h
      refine va_calli (va_runS (As := [.int v_2]) (rest := [.int x_5]) ⟨hx, hb, hml, hown, hts⟩ (c_X7_bits l F v_2 x_6 hx_6) (va_cwS 1 hts gX7_byClause_X7_bits rfl rfl rfl (by decide +kernel) (by rw [hR]; exact ⟨Nat.le_of_ble_eq_true rfl, Nat.le_of_ble_eq_true rfl⟩)) ⟨fun _ _ _ _ h => h, fun U hU hW => ⟨rfl, trivial⟩⟩ rfl rfl hl.1 rfl (lv_room (Nat.le_of_ble_eq_true rfl)) dX7_byClause_59 ⟨Nat.zero_le _, Nat.zero_le _⟩) hS (fun _ _ h => h.elim) (fun _ h => h.elim) (fun r u t H1 locs ht hvm hw hB hz1 hk1 hS => ?_)
      obtain rfl := hw.symm
      have hP := hP.kept (fun k x hx => hk1 x.1 (hP k x hx).lt (fun h => h))
      clear hB hz1 hk1 ht hvm
      generalize H1 = H at hP hS ⊢
      refine lv_iadd hx hb dX7_byClause_62 ?_
      refine lv_topi (fun v_7 ev_7 => ?_)
      have h := nmI_at ev_7 h
      refine lv_istore (lv' := [(5, .int v_7), (4, .int v_2), (3, .int v_1), (0, .ref (q 0)), (1, .int v1), (2, .int v2)]) hx hb dX7_byClause_63 hl (by decide) rfl (fun ls hl => ?_)
      refine lv_iload hx hb dX7_byClause_65 (lv_at hl 0 rfl) ?_
      refine lv_if_ne (tgt := 77) hx hb dX7_byClause_67 (by decide) (fun c_8 => ?_) (fun c_8 => ?_)
      · have h := if_f c_8 h
        refine lv_iload hx hb dX7_byClause_77 (lv_at hl 0 rfl) ?_
        refine lv_iconst (v := 1) hx hb dX7_byClause_79 (by decide) ?_
        refine lv_icmp_le (tgt := 85) hx hb dX7_byClause_80 (by decide) (fun c_9 => ?_) (fun c_9 => ?_)
        · have h := if_t c_9 h
          refine lv_aload_n hx hb dX7_byClause_85 rfl (lv_at hl 3 rfl) ?_
          refine lv_dup hx hb dX7_byClause_86 rfl ?_
          refine va_get (D := D) (ci := 7) (v := .int (I 10)) (C := RX7) (T := TX7) (N := 38) hx hb hts in_X7_byClause_X7 hown hK hP 0 rfl rfl 19 (by decide) (hts (.fieldLink RX7 48 "LearnedReasonsModel" "yes" "I") (by decide +kernel)) (fun _ h9 => h9) rfl dX7_byClause_87 ?_
          refine lv_iload_n hx hb dX7_byClause_90 rfl (lv_at hl 2 rfl) ?_
          refine lv_ior hx hb dX7_byClause_91 ?_
          refine lv_topi (fun v_10 ev_10 => ?_)
          have h := nmI_at ev_10 h
          refine va_put (D := D) (ci := 7) (v := .int v_10) (ty := .int) (C := RX7) (T := TX7) (N := 38) hx hb hts in_X7_byClause_X7 tyX7 tyX7_ok nmX7 hown hK hP (MUW_D hq) hS 0 rfl rfl 19 (by decide) (hts (.fieldLink RX7 48 "LearnedReasonsModel" "yes" "I") (by decide +kernel)) (fun _ h9 => h9) rfl (by decide +kernel) rfl rfl (Nat.le_of_ble_eq_true rfl) dX7_byClause_92 (fun H locs hP _ hS => ?_)
          have hP : va_P D vwCl (MUW cI cJ cZ q (fu I 10 v_10) J a b) H := hP
          refine lv_aload_n hx hb dX7_byClause_95 rfl (lv_at hl 3 rfl) ?_
          refine lv_dup hx hb dX7_byClause_96 rfl ?_
          refine va_get (D := D) (ci := 7) (v := .int (I 11)) (C := RX7) (T := TX7) (N := 38) hx hb hts in_X7_byClause_X7 hown hK hP 0 rfl rfl 20 (by decide) (hts (.fieldLink RX7 52 "LearnedReasonsModel" "no" "I") (by decide +kernel)) (fun _ h9 => h9) rfl dX7_byClause_97 ?_
          refine lv_iload hx hb dX7_byClause_100 (lv_at hl 1 rfl) ?_
          refine lv_ior hx hb dX7_byClause_102 ?_
          refine lv_topi (fun v_11 ev_11 => ?_)
          have h := nmI_at ev_11 h
          refine va_put (D := D) (ci := 7) (v := .int v_11) (ty := .int) (C := RX7) (T := TX7) (N := 38) hx hb hts in_X7_byClause_X7 tyX7 tyX7_ok nmX7 hown hK hP (MUW_D hq) hS 0 rfl rfl 20 (by decide) (hts (.fieldLink RX7 52 "LearnedReasonsModel" "no" "I") (by decide +kernel)) (fun _ h9 => h9) rfl (by decide +kernel) rfl rfl (Nat.le_of_ble_eq_true rfl) dX7_byClause_103 (fun H locs hP _ hS => ?_)
          have hP : va_P D vwCl (MUW cI cJ cZ q (fu (fu I 10 v_10) 11 v_11) J a b) H := hP
          refine lv_iconst (v := 1) hx hb dX7_byClause_106 (by decide) ?_
          have hx0 := Option.some.inj h
          rw [hQ]
          exact W.zret (v := 1) hx hb hr (rfl) (fun t ht hW => ⟨⟨1, (v_10, v_11, (I 12)), rfl, ⟨congrArg (fun z => z.1) hx0, congrArg (fun z => z.2) hx0⟩, by show va_P _ _ _ t.heap; rw [ht]; exact hP⟩, hS.F ht⟩) hS.2.2 dX7_byClause_107
        · have h := if_f c_9 h
          refine lv_iconst (v := 0) hx hb dX7_byClause_83 (by decide) ?_
          have hx0 := Option.some.inj h
          rw [hQ]
          exact W.zret (v := 0) hx hb hr (rfl) (fun t ht hW => ⟨⟨0, ((I 10), (I 11), (I 12)), rfl, ⟨congrArg (fun z => z.1) hx0, congrArg (fun z => z.2) hx0⟩, by show va_P _ _ _ t.heap; rw [ht]; exact hP⟩, hS.F ht⟩) hS.2.2 dX7_byClause_84
      · have h := if_t c_8 h
        refine lv_aload_n hx hb dX7_byClause_70 rfl (lv_at hl 3 rfl) ?_
        refine lv_iconst (v := 1) hx hb dX7_byClause_71 (by decide) ?_
        refine va_put (D := D) (ci := 7) (v := .int 1) (ty := .boolean) (C := RX7) (T := TX7) (N := 38) hx hb hts in_X7_byClause_X7 tyX7 tyX7_ok nmX7 hown hK hP (MUW_D hq) hS 0 rfl rfl 21 (by decide) (hts (.fieldLink RX7 59 "LearnedReasonsModel" "clash" "Z") (by decide +kernel)) (fun _ h9 => h9) rfl (by decide +kernel) rfl rfl (Nat.le_of_ble_eq_true rfl) dX7_byClause_72 (fun H locs hP _ hS => ?_)
        have hP : va_P D vwCl (MUW cI cJ cZ q (fu I 12 1) J a b) H := hP
        refine lv_iconst (v := 0) hx hb dX7_byClause_75 (by decide) ?_
        have hx0 := Option.some.inj h
        rw [hQ]
        exact W.zret (v := 0) hx hb hr (rfl) (fun t ht hW => ⟨⟨0, ((I 10), (I 11), 1), rfl, ⟨congrArg (fun z => z.1) hx0, congrArg (fun z => z.2) hx0⟩, by show va_P _ _ _ t.heap; rw [ht]; exact hP⟩, hS.F ht⟩) hS.2.2 dX7_byClause_76
    · have h := if_f c_4 h
      refine lv_iconst (v := 0) hx hb dX7_byClause_51 (by decide) ?_
      have hx0 := Option.some.inj h
      rw [hQ]
      exact W.zret (v := 0) hx hb hr (rfl) (fun t ht hW => ⟨⟨0, ((I 10), (I 11), (I 12)), rfl, ⟨congrArg (fun z => z.1) hx0, congrArg (fun z => z.2) hx0⟩, by show va_P _ _ _ t.heap; rw [ht]; exact hP⟩, hS.F ht⟩) hS.2.2 dX7_byClause_52
theorem in_X7_conflicts_X7 : ∀ w ∈ wsX70, w ∈ wsX7_conflicts := by decide +kernel
set_option maxHeartbeats 4000000 in
set_option maxRecDepth 100000 in
theorem c_X7_conflicts (l : Launch) (D : va_G) (cI cJ cZ : ClassId) (q : Nat → Nat) (hq : MUQ q) (F : Nat) (I : Nat → Int32) (J : Nat → Int64) (a : Nat → Nat → Int32) (b : Nat → Nat → Int64) (v1 : Int32) (v2 : Int32) (v3 : Int32) (x0 : Int32 × Int32 × Int32 × Int32) (h : f_X7_conflicts F I J a b v1 v2 v3 = some x0) : Met l yX7_conflicts wsX7_conflicts ({ frames := 2, cells := 0, slots := 0, locals := 47 }) (MUPc D cI cJ cZ q I J a b [.ref (q 0), .int v1, .int v2, .int v3]) (va_Qi (fun (r : Int32) (u : Int32 × Int32 × Int32) => r = x0.1 ∧ u = x0.2) (fun (u : Int32 × Int32 × Int32) t => va_P D vwCl (MUW cI cJ cZ q (fu (fu (fu I 10 u.1) 11 u.2.1) 12 u.2.2) J a b) t.heap) (MUA q)) 0 0 (MUA q) := by
  refine mt_of (cc := cX7_conflicts) (maxL := 7) (ret := (some .boolean)) (by decide) rfl ?_
  intro p e s m args below meth c s₁ B0 hml hv R Q hR hQ
  obtain ⟨hargs, hP, hK, hN⟩ := hv
  have hx := B0.exec
  have hb := B0.bytes
  have hr := B0.returns
  have hts := atoms_spec (ws := wsX7_conflicts) B0.pre
  have hown : s.vm.findClass RX7 = some m.cls := findClass_of_methodNamed B0.named
  have hlocks := B0.notSynchronized
  have hS : va_S (MUA q) s.heap s.heap [] := va_S.rf
  have hl := lv_entry ([.ref (q 0), .int v1, .int v2, .int v3]) (n := 7) (Nat.le_of_ble_eq_true rfl)
  rw [hargs, lg_entry_eq]
  rw [← hargs]
  generalize (lg_sl ([.ref (q 0), .int v1, .int v2, .int v3]) ++ List.replicate (7 - (lg_sl ([.ref (q 0), .int v1, .int v2, .int v3])).length) Slot.unset).toArray = ls at hl ⊢
  have hl : lv_has ls 7 [(0, .ref (q 0)), (1, .int v1), (2, .int v2), (3, .int v3)] := hl
  unfold f_X7_conflicts at h
  have C34 : ∀ (n34 : Nat) (v3 : Int32) (v4 : Int32) (I10 : Int32) (I11 : Int32) (I12 : Int32), k_X7_conflicts_34 F I J a b n34 v3 v4 I10 I11 I12 = some x0 → ∀ (H : Heap) (locs : List Loc), va_P D vwCl (MUW cI cJ cZ q (fu (fu (fu I 10 I10) 11 I11) 12 I12) J a b) H → va_S (MUA q) s.heap H locs → ∀ ls : Array Slot, lv_has ls 7 [(0, .ref (q 0)), (3, .int v3), (4, .int v4)] → W p l e R s m args below meth c H locs 0 0 Q (F0 m 34 ls []) := by
    intro n34
    induction n34 with
    | zero => intro v3 v4 I10 I11 I12 h; rw [k_X7_conflicts_34] at h; cases h
    | succ n34 ih34 =>
      intro v3 v4 I10 I11 I12 h H locs hP hS ls hl
      rw [k_X7_conflicts_34] at h
      have C204 : ∀ (n204 : Nat) (v3 : Int32) (v4 : Int32) (v5 : Int32) (I10 : Int32) (I11 : Int32) (I12 : Int32), k_X7_conflicts_204 F I J a b (k_X7_conflicts_34 F I J a b n34) n204 v3 v4 v5 I10 I11 I12 = some x0 → ∀ (H : Heap) (locs : List Loc), va_P D vwCl (MUW cI cJ cZ q (fu (fu (fu I 10 I10) 11 I11) 12 I12) J a b) H → va_S (MUA q) s.heap H locs → ∀ ls : Array Slot, lv_has ls 7 [(0, .ref (q 0)), (3, .int v3), (4, .int v4), (5, .int v5)] → W p l e R s m args below meth c H locs 0 0 Q (F0 m 204 ls []) := by
        intro n204
        induction n204 with
        | zero => intro v3 v4 v5 I10 I11 I12 h; rw [k_X7_conflicts_204] at h; cases h
        | succ n204 ih204 =>
          intro v3 v4 v5 I10 I11 I12 h H locs hP hS ls hl
          rw [k_X7_conflicts_204] at h
          refine lv_iload hx hb dX7_conflicts_204 (lv_at hl 3 rfl) ?_
          refine lv_aload_n hx hb dX7_conflicts_206 rfl (lv_at hl 0 rfl) ?_
          refine va_get (D := D) (ci := 7) (v := .int (I 7)) (C := RX7) (T := TX7) (N := 38) hx hb hts in_X7_conflicts_X7 hown hK hP 0 rfl rfl 14 (by decide) (hts (.fieldLink RX7 80 "LearnedReasonsModel" "lemmaCount" "I") (by decide +kernel)) (fun _ h9 => h9) rfl dX7_conflicts_207 ?_
          refine lv_icmp_ge (tgt := 268) hx hb dX7_conflicts_210 (by decide) (fun c_1 => ?_) (fun c_1 => ?_)
          · have h := if_t c_1 h
            refine lv_goto (tgt := 34) hx hb dX7_conflicts_268 (by decide) ?_
            exact ih34 v3 v4 I10 I11 I12 h _ _ hP hS ls (lv_sub hl [0, 1, 2] rfl)
          · have h := if_f c_1 h
            refine lv_iload_n hx hb dX7_conflicts_213 rfl (lv_at hl 1 rfl) ?_
            refine lv_iconst (v := 2) hx hb dX7_conflicts_214 (by decide) ?_
            refine lv_icmp_ne (tgt := 268) hx hb dX7_conflicts_215 (by decide) (fun c_2 => ?_) (fun c_2 => ?_)
            · have h := if_f c_2 h
              refine lv_goto (tgt := 34) hx hb dX7_conflicts_268 (by decide) ?_
              exact ih34 v3 v4 I10 I11 I12 h _ _ hP hS ls (lv_sub hl [0, 1, 2] rfl)
            · have h := if_t c_2 h
              refine lv_aload_n hx hb dX7_conflicts_218 rfl (lv_at hl 0 rfl) ?_
              refine va_get (D := D) (ci := 7) (v := .int I12) (C := RX7) (T := TX7) (N := 38) hx hb hts in_X7_conflicts_X7 hown hK hP 0 rfl rfl 21 (by decide) (hts (.fieldLink RX7 59 "LearnedReasonsModel" "clash" "Z") (by decide +kernel)) (fun _ h9 => h9) rfl dX7_conflicts_219 ?_
              refine lv_if_ne (tgt := 268) hx hb dX7_conflicts_222 (by decide) (fun c_3 => ?_) (fun c_3 => ?_)
              · have h := if_f c_3 h
                refine lv_goto (tgt := 34) hx hb dX7_conflicts_268 (by decide) ?_
                exact ih34 v3 v4 I10 I11 I12 h _ _ hP hS ls (lv_sub hl [0, 1, 2] rfl)
              · have h := if_t c_3 h
                refine lv_aload_n hx hb dX7_conflicts_225 rfl (lv_at hl 0 rfl) ?_
                refine lv_aload_n hx hb dX7_conflicts_226 rfl (lv_at hl 0 rfl) ?_
                refine va_get (D := D) (ci := 7) (v := .ref (q 8)) (C := RX7) (T := TX7) (N := 38) hx hb hts in_X7_conflicts_X7 hown hK hP 0 rfl rfl 15 (by decide) (hts (.fieldLink RX7 32 "LearnedReasonsModel" "lemmaYes" "[I") (by decide +kernel)) (fun _ h9 => h9) rfl dX7_conflicts_227 ?_
                refine lv_iload hx hb dX7_conflicts_230 (lv_at hl 3 rfl) ?_
                obtain ⟨g_4, h⟩ := gd_some h
                refine va_iald hx hb hK hP 8 0 rfl rfl g_4 dX7_conflicts_232 ?_
                refine lv_aload_n hx hb dX7_conflicts_233 rfl (lv_at hl 0 rfl) ?_
                refine va_get (D := D) (ci := 7) (v := .ref (q 9)) (C := RX7) (T := TX7) (N := 38) hx hb hts in_X7_conflicts_X7 hown hK hP 0 rfl rfl 16 (by decide) (hts (.fieldLink RX7 35 "LearnedReasonsModel" "lemmaNo" "[I") (by decide +kernel)) (fun _ h9 => h9) rfl dX7_conflicts_234 ?_
                refine lv_iload hx hb dX7_conflicts_237 (lv_at hl 3 rfl) ?_
                obtain ⟨g_5, h⟩ := gd_some h
                refine va_iald hx hb hK hP 9 0 rfl rfl g_5 dX7_conflicts_239 ?_
                obtain ⟨x_6, hx_6, h⟩ := ob_some h
                refine va_calli (va_runV (As := [.int ((a 7) v5.toNatClampNeg), .int ((a 8) v5.toNatClampNeg)]) (rest := []) ⟨hx, hb, hml, hown, hts⟩ (c_X7_byClause l D cI cJ cZ q hq F (fu (fu (fu I 10 I10) 11 I11) 12 I12) J a b ((a 7) v5.toNatClampNeg) ((a 8) v5.toNatClampNeg) x_6 hx_6) (cwV 2 hts gX7_conflicts_X7_byClause rfl rfl rfl (by decide +kernel) (by rw [hR]; exact ⟨Nat.le_of_ble_eq_true rfl, Nat.le_of_ble_eq_true rfl⟩)) ⟨MUPc_blind, va_recv hK hP (ci := 7) (q0 := 0) rfl rfl, fun U hU hW => ⟨rfl, by rw [hU]; exact hP, va_K.moved hW.alike hK, trivial⟩⟩ rfl rfl hl.1 rfl (lv_room (Nat.le_of_ble_eq_true rfl)) dX7_conflicts_240 ⟨Nat.zero_le _, Nat.zero_le _⟩) hS (fun _ _ h => h) (fun _ h => h) (fun r u t H1 locs ht hvm hw hB hz1 hk1 hS => ?_)
                obtain ⟨rfl, rfl⟩ := hw
                rw [ht] at hB
                have hP : va_P D vwCl (MUW cI cJ cZ q (fu (fu (fu I 10 x_6.2.1) 11 x_6.2.2.1) 12 x_6.2.2.2) J a b) H1 := hB
                clear hB hz1 hk1 ht hvm
                generalize H1 = H at hP hS ⊢
                refine lv_istore (lv' := [(6, .int x_6.1), (0, .ref (q 0)), (3, .int v3), (4, .int v4), (5, .int v5)]) hx hb dX7_conflicts_243 hl (by decide) rfl (fun ls hl => ?_)
                refine lv_iload hx hb dX7_conflicts_245 (lv_at hl 3 rfl) ?_
                refine lv_if_ne (tgt := 255) hx hb dX7_conflicts_247 (by decide) (fun c_7 => ?_) (fun c_7 => ?_)
                · have h := if_f c_7 h
                  refine lv_iconst (v := 1) hx hb dX7_conflicts_255 (by decide) ?_
                  refine lv_goto (tgt := 260) hx hb dX7_conflicts_256 (by decide) ?_
                  refine lv_istore (lv' := [(4, .int 1), (6, .int x_6.1), (0, .ref (q 0)), (3, .int v3), (5, .int v5)]) hx hb dX7_conflicts_260 hl (by decide) rfl (fun ls hl => ?_)
                  refine lv_iinc (v := v5 + 1) (lv' := [(5, .int (v5 + 1)), (4, .int 1), (6, .int x_6.1), (0, .ref (q 0)), (3, .int v3)]) hx hb dX7_conflicts_262 hl (k := 4) rfl rfl (by decide) rfl (fun ls hl => ?_)
                  refine lv_goto (tgt := 204) hx hb dX7_conflicts_265 (by decide) ?_
                  exact ih204 v3 1 (v5 + 1) x_6.2.1 x_6.2.2.1 x_6.2.2.2 h _ _ hP hS ls (lv_sub hl [3, 4, 1, 0] rfl)
                · have h := if_t c_7 h
                  refine lv_iload hx hb dX7_conflicts_250 (lv_at hl 0 rfl) ?_
                  refine lv_if_eq (tgt := 259) hx hb dX7_conflicts_252 (by decide) (fun c_8 => ?_) (fun c_8 => ?_)
                  · have h := if_t c_8 h
                    refine lv_iconst (v := 0) hx hb dX7_conflicts_259 (by decide) ?_
                    refine lv_istore (lv' := [(4, .int 0), (6, .int x_6.1), (0, .ref (q 0)), (3, .int v3), (5, .int v5)]) hx hb dX7_conflicts_260 hl (by decide) rfl (fun ls hl => ?_)
                    refine lv_iinc (v := v5 + 1) (lv' := [(5, .int (v5 + 1)), (4, .int 0), (6, .int x_6.1), (0, .ref (q 0)), (3, .int v3)]) hx hb dX7_conflicts_262 hl (k := 4) rfl rfl (by decide) rfl (fun ls hl => ?_)
                    refine lv_goto (tgt := 204) hx hb dX7_conflicts_265 (by decide) ?_
                    exact ih204 v3 0 (v5 + 1) x_6.2.1 x_6.2.2.1 x_6.2.2.2 h _ _ hP hS ls (lv_sub hl [3, 4, 1, 0] rfl)
                  · have h := if_f c_8 h
                    refine lv_iconst (v := 1) hx hb dX7_conflicts_255 (by decide) ?_
                    refine lv_goto (tgt := 260) hx hb dX7_conflicts_256 (by decide) ?_
                    refine lv_istore (lv' := [(4, .int 1), (6, .int x_6.1), (0, .ref (q 0)), (3, .int v3), (5, .int v5)]) hx hb dX7_conflicts_260 hl (by decide) rfl (fun ls hl => ?_)
                    refine lv_iinc (v := v5 + 1) (lv' := [(5, .int (v5 + 1)), (4, .int 1), (6, .int x_6.1), (0, .ref (q 0)), (3, .int v3)]) hx hb dX7_conflicts_262 hl (k := 4) rfl rfl (by decide) rfl (fun ls hl => ?_)
                    refine lv_goto (tgt := 204) hx hb dX7_conflicts_265 (by decide) ?_
                    exact ih204 v3 1 (v5 + 1) x_6.2.1 x_6.2.2.1 x_6.2.2.2 h _ _ hP hS ls (lv_sub hl [3, 4, 1, 0] rfl)
      have C143 : ∀ (n143 : Nat) (v3 : Int32) (v4 : Int32) (v5 : Int32) (I10 : Int32) (I11 : Int32) (I12 : Int32), k_X7_conflicts_143 F I J a b (k_X7_conflicts_34 F I J a b n34) n143 v3 v4 v5 I10 I11 I12 = some x0 → ∀ (H : Heap) (locs : List Loc), va_P D vwCl (MUW cI cJ cZ q (fu (fu (fu I 10 I10) 11 I11) 12 I12) J a b) H → va_S (MUA q) s.heap H locs → ∀ ls : Array Slot, lv_has ls 7 [(0, .ref (q 0)), (3, .int v3), (4, .int v4), (5, .int v5)] → W p l e R s m args below meth c H locs 0 0 Q (F0 m 143 ls []) := by
        intro n143
        induction n143 with
        | zero => intro v3 v4 v5 I10 I11 I12 h; rw [k_X7_conflicts_143] at h; cases h
        | succ n143 ih143 =>
          intro v3 v4 v5 I10 I11 I12 h H locs hP hS ls hl
          rw [k_X7_conflicts_143] at h
          refine lv_iload hx hb dX7_conflicts_143 (lv_at hl 3 rfl) ?_
          refine lv_aload_n hx hb dX7_conflicts_145 rfl (lv_at hl 0 rfl) ?_
          refine va_get (D := D) (ci := 7) (v := .int (I 14)) (C := RX7) (T := TX7) (N := 38) hx hb hts in_X7_conflicts_X7 hown hK hP 0 rfl rfl 25 (by decide) (hts (.fieldLink RX7 77 "LearnedReasonsModel" "learnedCount" "I") (by decide +kernel)) (fun _ h9 => h9) rfl dX7_conflicts_146 ?_
          refine lv_icmp_ge (tgt := 201) hx hb dX7_conflicts_149 (by decide) (fun c_9 => ?_) (fun c_9 => ?_)
          · have h := if_t c_9 h
            refine lv_iconst (v := 0) hx hb dX7_conflicts_201 (by decide) ?_
            refine lv_istore (lv' := [(5, .int 0), (0, .ref (q 0)), (3, .int v3), (4, .int v4)]) hx hb dX7_conflicts_202 hl (by decide) rfl (fun ls hl => ?_)
            exact C204 F v3 v4 0 I10 I11 I12 h _ _ hP hS ls (lv_sub hl [1, 2, 3, 0] rfl)
          · have h := if_f c_9 h
            refine lv_iload_n hx hb dX7_conflicts_152 rfl (lv_at hl 1 rfl) ?_
            refine lv_iconst (v := 1) hx hb dX7_conflicts_153 (by decide) ?_
            refine lv_icmp_ne (tgt := 201) hx hb dX7_conflicts_154 (by decide) (fun c_10 => ?_) (fun c_10 => ?_)
            · have h := if_f c_10 h
              refine lv_iconst (v := 0) hx hb dX7_conflicts_201 (by decide) ?_
              refine lv_istore (lv' := [(5, .int 0), (0, .ref (q 0)), (3, .int v3), (4, .int v4)]) hx hb dX7_conflicts_202 hl (by decide) rfl (fun ls hl => ?_)
              exact C204 F v3 v4 0 I10 I11 I12 h _ _ hP hS ls (lv_sub hl [1, 2, 3, 0] rfl)
            · have h := if_t c_10 h
              refine lv_aload_n hx hb dX7_conflicts_157 rfl (lv_at hl 0 rfl) ?_
              refine va_get (D := D) (ci := 7) (v := .int I12) (C := RX7) (T := TX7) (N := 38) hx hb hts in_X7_conflicts_X7 hown hK hP 0 rfl rfl 21 (by decide) (hts (.fieldLink RX7 59 "LearnedReasonsModel" "clash" "Z") (by decide +kernel)) (fun _ h9 => h9) rfl dX7_conflicts_158 ?_
              refine lv_if_ne (tgt := 201) hx hb dX7_conflicts_161 (by decide) (fun c_11 => ?_) (fun c_11 => ?_)
              · have h := if_f c_11 h
                refine lv_iconst (v := 0) hx hb dX7_conflicts_201 (by decide) ?_
                refine lv_istore (lv' := [(5, .int 0), (0, .ref (q 0)), (3, .int v3), (4, .int v4)]) hx hb dX7_conflicts_202 hl (by decide) rfl (fun ls hl => ?_)
                exact C204 F v3 v4 0 I10 I11 I12 h _ _ hP hS ls (lv_sub hl [1, 2, 3, 0] rfl)
              · have h := if_t c_11 h
                refine lv_aload_n hx hb dX7_conflicts_164 rfl (lv_at hl 0 rfl) ?_
                refine lv_aload_n hx hb dX7_conflicts_165 rfl (lv_at hl 0 rfl) ?_
                refine va_get (D := D) (ci := 7) (v := .ref (q 11)) (C := RX7) (T := TX7) (N := 38) hx hb hts in_X7_conflicts_X7 hown hK hP 0 rfl rfl 24 (by decide) (hts (.fieldLink RX7 41 "LearnedReasonsModel" "learnedYes" "[I") (by decide +kernel)) (fun _ h9 => h9) rfl dX7_conflicts_166 ?_
                refine lv_iload hx hb dX7_conflicts_169 (lv_at hl 3 rfl) ?_
                obtain ⟨g_12, h⟩ := gd_some h
                refine va_iald hx hb hK hP 11 0 rfl rfl g_12 dX7_conflicts_171 ?_
                refine lv_iconst (v := 0) hx hb dX7_conflicts_172 (by decide) ?_
                obtain ⟨x_13, hx_13, h⟩ := ob_some h
                refine va_calli (va_runV (As := [.int ((a 10) v5.toNatClampNeg), .int 0]) (rest := []) ⟨hx, hb, hml, hown, hts⟩ (c_X7_byClause l D cI cJ cZ q hq F (fu (fu (fu I 10 I10) 11 I11) 12 I12) J a b ((a 10) v5.toNatClampNeg) 0 x_13 hx_13) (cwV 2 hts gX7_conflicts_X7_byClause rfl rfl rfl (by decide +kernel) (by rw [hR]; exact ⟨Nat.le_of_ble_eq_true rfl, Nat.le_of_ble_eq_true rfl⟩)) ⟨MUPc_blind, va_recv hK hP (ci := 7) (q0 := 0) rfl rfl, fun U hU hW => ⟨rfl, by rw [hU]; exact hP, va_K.moved hW.alike hK, trivial⟩⟩ rfl rfl hl.1 rfl (lv_room (Nat.le_of_ble_eq_true rfl)) dX7_conflicts_173 ⟨Nat.zero_le _, Nat.zero_le _⟩) hS (fun _ _ h => h) (fun _ h => h) (fun r u t H1 locs ht hvm hw hB hz1 hk1 hS => ?_)
                obtain ⟨rfl, rfl⟩ := hw
                rw [ht] at hB
                have hP : va_P D vwCl (MUW cI cJ cZ q (fu (fu (fu I 10 x_13.2.1) 11 x_13.2.2.1) 12 x_13.2.2.2) J a b) H1 := hB
                clear hB hz1 hk1 ht hvm
                generalize H1 = H at hP hS ⊢
                refine lv_istore (lv' := [(6, .int x_13.1), (0, .ref (q 0)), (3, .int v3), (4, .int v4), (5, .int v5)]) hx hb dX7_conflicts_176 hl (by decide) rfl (fun ls hl => ?_)
                refine lv_iload hx hb dX7_conflicts_178 (lv_at hl 3 rfl) ?_
                refine lv_if_ne (tgt := 188) hx hb dX7_conflicts_180 (by decide) (fun c_14 => ?_) (fun c_14 => ?_)
                · have h := if_f c_14 h
                  refine lv_iconst (v := 1) hx hb dX7_conflicts_188 (by decide) ?_
                  refine lv_goto (tgt := 193) hx hb dX7_conflicts_189 (by decide) ?_
                  refine lv_istore (lv' := [(4, .int 1), (6, .int x_13.1), (0, .ref (q 0)), (3, .int v3), (5, .int v5)]) hx hb dX7_conflicts_193 hl (by decide) rfl (fun ls hl => ?_)
                  refine lv_iinc (v := v5 + 1) (lv' := [(5, .int (v5 + 1)), (4, .int 1), (6, .int x_13.1), (0, .ref (q 0)), (3, .int v3)]) hx hb dX7_conflicts_195 hl (k := 4) rfl rfl (by decide) rfl (fun ls hl => ?_)
                  refine lv_goto (tgt := 143) hx hb dX7_conflicts_198 (by decide) ?_
                  exact ih143 v3 1 (v5 + 1) x_13.2.1 x_13.2.2.1 x_13.2.2.2 h _ _ hP hS ls (lv_sub hl [3, 4, 1, 0] rfl)
                · have h := if_t c_14 h
                  refine lv_iload hx hb dX7_conflicts_183 (lv_at hl 0 rfl) ?_
                  refine lv_if_eq (tgt := 192) hx hb dX7_conflicts_185 (by decide) (fun c_15 => ?_) (fun c_15 => ?_)
                  · have h := if_t c_15 h
                    refine lv_iconst (v := 0) hx hb dX7_conflicts_192 (by decide) ?_
                    refine lv_istore (lv' := [(4, .int 0), (6, .int x_13.1), (0, .ref (q 0)), (3, .int v3), (5, .int v5)]) hx hb dX7_conflicts_193 hl (by decide) rfl (fun ls hl => ?_)
                    refine lv_iinc (v := v5 + 1) (lv' := [(5, .int (v5 + 1)), (4, .int 0), (6, .int x_13.1), (0, .ref (q 0)), (3, .int v3)]) hx hb dX7_conflicts_195 hl (k := 4) rfl rfl (by decide) rfl (fun ls hl => ?_)
                    refine lv_goto (tgt := 143) hx hb dX7_conflicts_198 (by decide) ?_
                    exact ih143 v3 0 (v5 + 1) x_13.2.1 x_13.2.2.1 x_13.2.2.2 h _ _ hP hS ls (lv_sub hl [3, 4, 1, 0] rfl)
                  · have h := if_f c_15 h
                    refine lv_iconst (v := 1) hx hb dX7_conflicts_188 (by decide) ?_
                    refine lv_goto (tgt := 193) hx hb dX7_conflicts_189 (by decide) ?_
                    refine lv_istore (lv' := [(4, .int 1), (6, .int x_13.1), (0, .ref (q 0)), (3, .int v3), (5, .int v5)]) hx hb dX7_conflicts_193 hl (by decide) rfl (fun ls hl => ?_)
                    refine lv_iinc (v := v5 + 1) (lv' := [(5, .int (v5 + 1)), (4, .int 1), (6, .int x_13.1), (0, .ref (q 0)), (3, .int v3)]) hx hb dX7_conflicts_195 hl (k := 4) rfl rfl (by decide) rfl (fun ls hl => ?_)
                    refine lv_goto (tgt := 143) hx hb dX7_conflicts_198 (by decide) ?_
                    exact ih143 v3 1 (v5 + 1) x_13.2.1 x_13.2.2.1 x_13.2.2.2 h _ _ hP hS ls (lv_sub hl [3, 4, 1, 0] rfl)
      have C52 : ∀ (n52 : Nat) (v3 : Int32) (v4 : Int32) (v5 : Int32) (I10 : Int32) (I11 : Int32) (I12 : Int32), k_X7_conflicts_52 F I J a b (k_X7_conflicts_34 F I J a b n34) n52 v3 v4 v5 I10 I11 I12 = some x0 → ∀ (H : Heap) (locs : List Loc), va_P D vwCl (MUW cI cJ cZ q (fu (fu (fu I 10 I10) 11 I11) 12 I12) J a b) H → va_S (MUA q) s.heap H locs → ∀ ls : Array Slot, lv_has ls 7 [(0, .ref (q 0)), (3, .int v3), (4, .int v4), (5, .int v5)] → W p l e R s m args below meth c H locs 0 0 Q (F0 m 52 ls []) := by
        intro n52
        induction n52 with
        | zero => intro v3 v4 v5 I10 I11 I12 h; rw [k_X7_conflicts_52] at h; cases h
        | succ n52 ih52 =>
          intro v3 v4 v5 I10 I11 I12 h H locs hP hS ls hl
          rw [k_X7_conflicts_52] at h
          have C115 : ∀ (v3 : Int32) (v4 : Int32) (v5 : Int32) (s0 : Int32) (I10 : Int32) (I11 : Int32) (I12 : Int32), k_X7_conflicts_115 F I J a b (k_X7_conflicts_34 F I J a b n34) (k_X7_conflicts_52 F I J a b (k_X7_conflicts_34 F I J a b n34) n52) v3 v4 v5 s0 I10 I11 I12 = some x0 → ∀ (H : Heap) (locs : List Loc), va_P D vwCl (MUW cI cJ cZ q (fu (fu (fu I 10 I10) 11 I11) 12 I12) J a b) H → va_S (MUA q) s.heap H locs → ∀ ls : Array Slot, lv_has ls 7 [(0, .ref (q 0)), (3, .int v3), (4, .int v4), (5, .int v5)] → W p l e R s m args below meth c H locs 0 0 Q (F0 m 115 ls [.int s0]) := by
            intro v3 v4 v5 s0 I10 I11 I12 h H locs hP hS ls hl
            rw [k_X7_conflicts_115] at h
            refine lv_istore (lv' := [(6, .int s0), (0, .ref (q 0)), (3, .int v3), (4, .int v4), (5, .int v5)]) hx hb dX7_conflicts_115 hl (by decide) rfl (fun ls hl => ?_)
            refine lv_iload hx hb dX7_conflicts_117 (lv_at hl 3 rfl) ?_
            refine lv_if_ne (tgt := 127) hx hb dX7_conflicts_119 (by decide) (fun c_16 => ?_) (fun c_16 => ?_)
            · have h := if_f c_16 h
              refine lv_iconst (v := 1) hx hb dX7_conflicts_127 (by decide) ?_
              refine lv_goto (tgt := 132) hx hb dX7_conflicts_128 (by decide) ?_
              refine lv_istore (lv' := [(4, .int 1), (6, .int s0), (0, .ref (q 0)), (3, .int v3), (5, .int v5)]) hx hb dX7_conflicts_132 hl (by decide) rfl (fun ls hl => ?_)
              refine lv_iinc (v := v5 + 1) (lv' := [(5, .int (v5 + 1)), (4, .int 1), (6, .int s0), (0, .ref (q 0)), (3, .int v3)]) hx hb dX7_conflicts_134 hl (k := 4) rfl rfl (by decide) rfl (fun ls hl => ?_)
              refine lv_goto (tgt := 52) hx hb dX7_conflicts_137 (by decide) ?_
              exact ih52 v3 1 (v5 + 1) I10 I11 I12 h _ _ hP hS ls (lv_sub hl [3, 4, 1, 0] rfl)
            · have h := if_t c_16 h
              refine lv_iload hx hb dX7_conflicts_122 (lv_at hl 0 rfl) ?_
              refine lv_if_eq (tgt := 131) hx hb dX7_conflicts_124 (by decide) (fun c_17 => ?_) (fun c_17 => ?_)
              · have h := if_t c_17 h
                refine lv_iconst (v := 0) hx hb dX7_conflicts_131 (by decide) ?_
                refine lv_istore (lv' := [(4, .int 0), (6, .int s0), (0, .ref (q 0)), (3, .int v3), (5, .int v5)]) hx hb dX7_conflicts_132 hl (by decide) rfl (fun ls hl => ?_)
                refine lv_iinc (v := v5 + 1) (lv' := [(5, .int (v5 + 1)), (4, .int 0), (6, .int s0), (0, .ref (q 0)), (3, .int v3)]) hx hb dX7_conflicts_134 hl (k := 4) rfl rfl (by decide) rfl (fun ls hl => ?_)
                refine lv_goto (tgt := 52) hx hb dX7_conflicts_137 (by decide) ?_
                exact ih52 v3 0 (v5 + 1) I10 I11 I12 h _ _ hP hS ls (lv_sub hl [3, 4, 1, 0] rfl)
              · have h := if_f c_17 h
                refine lv_iconst (v := 1) hx hb dX7_conflicts_127 (by decide) ?_
                refine lv_goto (tgt := 132) hx hb dX7_conflicts_128 (by decide) ?_
                refine lv_istore (lv' := [(4, .int 1), (6, .int s0), (0, .ref (q 0)), (3, .int v3), (5, .int v5)]) hx hb dX7_conflicts_132 hl (by decide) rfl (fun ls hl => ?_)
                refine lv_iinc (v := v5 + 1) (lv' := [(5, .int (v5 + 1)), (4, .int 1), (6, .int s0), (0, .ref (q 0)), (3, .int v3)]) hx hb dX7_conflicts_134 hl (k := 4) rfl rfl (by decide) rfl (fun ls hl => ?_)
                refine lv_goto (tgt := 52) hx hb dX7_conflicts_137 (by decide) ?_
                exact ih52 v3 1 (v5 + 1) I10 I11 I12 h _ _ hP hS ls (lv_sub hl [3, 4, 1, 0] rfl)
          refine lv_iload hx hb dX7_conflicts_52 (lv_at hl 3 rfl) ?_
          refine lv_aload_n hx hb dX7_conflicts_54 rfl (lv_at hl 0 rfl) ?_
          refine va_get (D := D) (ci := 7) (v := .int (I 1)) (C := RX7) (T := TX7) (N := 38) hx hb hts in_X7_conflicts_X7 hown hK hP 0 rfl rfl 1 (by decide) (hts (.fieldLink RX7 66 "LearnedReasonsModel" "things" "I") (by decide +kernel)) (fun _ h9 => h9) rfl dX7_conflicts_55 ?_
          refine lv_icmp_ge (tgt := 140) hx hb dX7_conflicts_58 (by decide) (fun c_18 => ?_) (fun c_18 => ?_)
          · have h := if_t c_18 h
            refine lv_iconst (v := 0) hx hb dX7_conflicts_140 (by decide) ?_
            refine lv_istore (lv' := [(5, .int 0), (0, .ref (q 0)), (3, .int v3), (4, .int v4)]) hx hb dX7_conflicts_141 hl (by decide) rfl (fun ls hl => ?_)
            exact C143 F v3 v4 0 I10 I11 I12 h _ _ hP hS ls (lv_sub hl [1, 2, 3, 0] rfl)
          · have h := if_f c_18 h
            refine lv_aload_n hx hb dX7_conflicts_61 rfl (lv_at hl 0 rfl) ?_
            refine va_get (D := D) (ci := 7) (v := .int I12) (C := RX7) (T := TX7) (N := 38) hx hb hts in_X7_conflicts_X7 hown hK hP 0 rfl rfl 21 (by decide) (hts (.fieldLink RX7 59 "LearnedReasonsModel" "clash" "Z") (by decide +kernel)) (fun _ h9 => h9) rfl dX7_conflicts_62 ?_
            refine lv_if_ne (tgt := 140) hx hb dX7_conflicts_65 (by decide) (fun c_19 => ?_) (fun c_19 => ?_)
            · have h := if_f c_19 h
              refine lv_iconst (v := 0) hx hb dX7_conflicts_140 (by decide) ?_
              refine lv_istore (lv' := [(5, .int 0), (0, .ref (q 0)), (3, .int v3), (4, .int v4)]) hx hb dX7_conflicts_141 hl (by decide) rfl (fun ls hl => ?_)
              exact C143 F v3 v4 0 I10 I11 I12 h _ _ hP hS ls (lv_sub hl [1, 2, 3, 0] rfl)
            · have h := if_t c_19 h
              refine lv_aload_n hx hb dX7_conflicts_68 rfl (lv_at hl 0 rfl) ?_
              refine va_get (D := D) (ci := 7) (v := .ref (q 1)) (C := RX7) (T := TX7) (N := 38) hx hb hts in_X7_conflicts_X7 hown hK hP 0 rfl rfl 2 (by decide) (hts (.fieldLink RX7 7 "LearnedReasonsModel" "alive" "[Z") (by decide +kernel)) (fun _ h9 => h9) rfl dX7_conflicts_69 ?_
              refine lv_iload hx hb dX7_conflicts_72 (lv_at hl 3 rfl) ?_
              obtain ⟨g_20, h⟩ := gd_some h
              refine va_zald hx hb hK hP 1 2 rfl rfl g_20 dX7_conflicts_74 ?_
              refine lv_if_eq (tgt := 134) hx hb dX7_conflicts_75 (by decide) (fun c_21 => ?_) (fun c_21 => ?_)
              · have h := if_t c_21 h
                refine lv_iinc (v := v5 + 1) (lv' := [(5, .int (v5 + 1)), (0, .ref (q 0)), (3, .int v3), (4, .int v4)]) hx hb dX7_conflicts_134 hl (k := 3) rfl rfl (by decide) rfl (fun ls hl => ?_)
                refine lv_goto (tgt := 52) hx hb dX7_conflicts_137 (by decide) ?_
                exact ih52 v3 v4 (v5 + 1) I10 I11 I12 h _ _ hP hS ls (lv_sub hl [1, 2, 3, 0] rfl)
              · have h := if_f c_21 h
                refine lv_aload_n hx hb dX7_conflicts_78 rfl (lv_at hl 0 rfl) ?_
                refine va_get (D := D) (ci := 7) (v := .ref (q 2)) (C := RX7) (T := TX7) (N := 38) hx hb hts in_X7_conflicts_X7 hown hK hP 0 rfl rfl 3 (by decide) (hts (.fieldLink RX7 13 "LearnedReasonsModel" "isRow" "[Z") (by decide +kernel)) (fun _ h9 => h9) rfl dX7_conflicts_79 ?_
                refine lv_iload hx hb dX7_conflicts_82 (lv_at hl 3 rfl) ?_
                obtain ⟨g_22, h⟩ := gd_some h
                refine va_zald hx hb hK hP 2 2 rfl rfl g_22 dX7_conflicts_84 ?_
                refine lv_if_eq (tgt := 97) hx hb dX7_conflicts_85 (by decide) (fun c_23 => ?_) (fun c_23 => ?_)
                · have h := if_t c_23 h
                  refine lv_aload_n hx hb dX7_conflicts_97 rfl (lv_at hl 0 rfl) ?_
                  refine lv_aload_n hx hb dX7_conflicts_98 rfl (lv_at hl 0 rfl) ?_
                  refine va_get (D := D) (ci := 7) (v := .ref (q 3)) (C := RX7) (T := TX7) (N := 38) hx hb hts in_X7_conflicts_X7 hown hK hP 0 rfl rfl 4 (by decide) (hts (.fieldLink RX7 16 "LearnedReasonsModel" "wants" "[I") (by decide +kernel)) (fun _ h9 => h9) rfl dX7_conflicts_99 ?_
                  refine lv_iload hx hb dX7_conflicts_102 (lv_at hl 3 rfl) ?_
                  obtain ⟨g_24, h⟩ := gd_some h
                  refine va_iald hx hb hK hP 3 0 rfl rfl g_24 dX7_conflicts_104 ?_
                  refine lv_aload_n hx hb dX7_conflicts_105 rfl (lv_at hl 0 rfl) ?_
                  refine va_get (D := D) (ci := 7) (v := .ref (q 4)) (C := RX7) (T := TX7) (N := 38) hx hb hts in_X7_conflicts_X7 hown hK hP 0 rfl rfl 5 (by decide) (hts (.fieldLink RX7 20 "LearnedReasonsModel" "wantsNot" "[I") (by decide +kernel)) (fun _ h9 => h9) rfl dX7_conflicts_106 ?_
                  refine lv_iload hx hb dX7_conflicts_109 (lv_at hl 3 rfl) ?_
                  obtain ⟨g_25, h⟩ := gd_some h
                  refine va_iald hx hb hK hP 4 0 rfl rfl g_25 dX7_conflicts_111 ?_
                  obtain ⟨x_26, hx_26, h⟩ := ob_some h
                  refine va_calli (va_runV (As := [.int ((a 2) v5.toNatClampNeg), .int ((a 3) v5.toNatClampNeg)]) (rest := []) ⟨hx, hb, hml, hown, hts⟩ (c_X7_byClause l D cI cJ cZ q hq F (fu (fu (fu I 10 I10) 11 I11) 12 I12) J a b ((a 2) v5.toNatClampNeg) ((a 3) v5.toNatClampNeg) x_26 hx_26) (cwV 2 hts gX7_conflicts_X7_byClause rfl rfl rfl (by decide +kernel) (by rw [hR]; exact ⟨Nat.le_of_ble_eq_true rfl, Nat.le_of_ble_eq_true rfl⟩)) ⟨MUPc_blind, va_recv hK hP (ci := 7) (q0 := 0) rfl rfl, fun U hU hW => ⟨rfl, by rw [hU]; exact hP, va_K.moved hW.alike hK, trivial⟩⟩ rfl rfl hl.1 rfl (lv_room (Nat.le_of_ble_eq_true rfl)) dX7_conflicts_112 ⟨Nat.zero_le _, Nat.zero_le _⟩) hS (fun _ _ h => h) (fun _ h => h) (fun r u t H1 locs ht hvm hw hB hz1 hk1 hS => ?_)
                  obtain ⟨rfl, rfl⟩ := hw
                  rw [ht] at hB
                  have hP : va_P D vwCl (MUW cI cJ cZ q (fu (fu (fu I 10 x_26.2.1) 11 x_26.2.2.1) 12 x_26.2.2.2) J a b) H1 := hB
                  clear hB hz1 hk1 ht hvm
                  generalize H1 = H at hP hS ⊢
                  exact C115 v3 v4 v5 x_26.1 x_26.2.1 x_26.2.2.1 x_26.2.2.2 h _ _ hP hS ls (lv_sub hl [0, 1, 2, 3] rfl)
                · have h := if_f c_23 h
                  refine lv_aload_n hx hb dX7_conflicts_88 rfl (lv_at hl 0 rfl) ?_
                  refine lv_iload hx hb dX7_conflicts_89 (lv_at hl 3 rfl) ?_
                  obtain ⟨x_27, hx_27, h⟩ := ob_some h
                  refine va_calli (va_runV (As := [.int v5]) (rest := []) ⟨hx, hb, hml, hown, hts⟩ (c_X7_byRow l D cI cJ cZ q hq F (fu (fu (fu I 10 I10) 11 I11) 12 I12) J a b v5 x_27 hx_27) (cwV 1 hts gX7_conflicts_X7_byRow rfl rfl rfl (by decide +kernel) (by rw [hR]; exact ⟨Nat.le_of_ble_eq_true rfl, Nat.le_of_ble_eq_true rfl⟩)) ⟨MUPc_blind, va_recv hK hP (ci := 7) (q0 := 0) rfl rfl, fun U hU hW => ⟨rfl, by rw [hU]; exact hP, va_K.moved hW.alike hK, trivial⟩⟩ rfl rfl hl.1 rfl (lv_room (Nat.le_of_ble_eq_true rfl)) dX7_conflicts_91 ⟨Nat.zero_le _, Nat.zero_le _⟩) hS (fun _ _ h => h) (fun _ h => h) (fun r u t H1 locs ht hvm hw hB hz1 hk1 hS => ?_)
                  obtain ⟨rfl, rfl⟩ := hw
                  rw [ht] at hB
                  have hP : va_P D vwCl (MUW cI cJ cZ q (fu (fu (fu I 10 x_27.2.1) 11 x_27.2.2.1) 12 x_27.2.2.2) J a b) H1 := hB
                  clear hB hz1 hk1 ht hvm
                  generalize H1 = H at hP hS ⊢
                  refine lv_goto (tgt := 115) hx hb dX7_conflicts_94 (by decide) ?_
                  exact C115 v3 v4 v5 x_27.1 x_27.2.1 x_27.2.2.1 x_27.2.2.2 h _ _ hP hS ls (lv_sub hl [0, 1, 2, 3] rfl)
      refine lv_iload hx hb dX7_conflicts_34 (lv_at hl 2 rfl) ?_
      refine lv_if_eq (tgt := 271) hx hb dX7_conflicts_36 (by decide) (fun c_28 => ?_) (fun c_28 => ?_)
      · have h := if_t c_28 h
        refine lv_aload_n hx hb dX7_conflicts_271 rfl (lv_at hl 0 rfl) ?_
        refine va_get (D := D) (ci := 7) (v := .int I12) (C := RX7) (T := TX7) (N := 38) hx hb hts in_X7_conflicts_X7 hown hK hP 0 rfl rfl 21 (by decide) (hts (.fieldLink RX7 59 "LearnedReasonsModel" "clash" "Z") (by decide +kernel)) (fun _ h9 => h9) rfl dX7_conflicts_272 ?_
        obtain ⟨z_29, h⟩ := gz_some h
        have hx0 := Option.some.inj h
        rw [hQ]
        exact W.zret (v := I12) hx hb hr (z_29.1) (fun t ht hW => ⟨⟨I12, (I10, I11, I12), rfl, ⟨congrArg (fun z => z.1) hx0, congrArg (fun z => z.2) hx0⟩, by show va_P _ _ _ t.heap; rw [ht]; exact hP⟩, hS.F ht⟩) hS.2.2 dX7_conflicts_275
      · have h := if_f c_28 h
        refine lv_aload_n hx hb dX7_conflicts_39 rfl (lv_at hl 0 rfl) ?_
        refine va_get (D := D) (ci := 7) (v := .int I12) (C := RX7) (T := TX7) (N := 38) hx hb hts in_X7_conflicts_X7 hown hK hP 0 rfl rfl 21 (by decide) (hts (.fieldLink RX7 59 "LearnedReasonsModel" "clash" "Z") (by decide +kernel)) (fun _ h9 => h9) rfl dX7_conflicts_40 ?_
        refine lv_if_ne (tgt := 271) hx hb dX7_conflicts_43 (by decide) (fun c_30 => ?_) (fun c_30 => ?_)
        · have h := if_f c_30 h
          refine lv_aload_n hx hb dX7_conflicts_271 rfl (lv_at hl 0 rfl) ?_
          refine va_get (D := D) (ci := 7) (v := .int I12) (C := RX7) (T := TX7) (N := 38) hx hb hts in_X7_conflicts_X7 hown hK hP 0 rfl rfl 21 (by decide) (hts (.fieldLink RX7 59 "LearnedReasonsModel" "clash" "Z") (by decide +kernel)) (fun _ h9 => h9) rfl dX7_conflicts_272 ?_
          obtain ⟨z_31, h⟩ := gz_some h
          have hx0 := Option.some.inj h
          rw [hQ]
          exact W.zret (v := I12) hx hb hr (z_31.1) (fun t ht hW => ⟨⟨I12, (I10, I11, I12), rfl, ⟨congrArg (fun z => z.1) hx0, congrArg (fun z => z.2) hx0⟩, by show va_P _ _ _ t.heap; rw [ht]; exact hP⟩, hS.F ht⟩) hS.2.2 dX7_conflicts_275
        · have h := if_t c_30 h
          refine lv_iconst (v := 0) hx hb dX7_conflicts_46 (by decide) ?_
          refine lv_istore (lv' := [(4, .int 0), (0, .ref (q 0)), (3, .int v3)]) hx hb dX7_conflicts_47 hl (by decide) rfl (fun ls hl => ?_)
          refine lv_iconst (v := 0) hx hb dX7_conflicts_49 (by decide) ?_
          refine lv_istore (lv' := [(5, .int 0), (4, .int 0), (0, .ref (q 0)), (3, .int v3)]) hx hb dX7_conflicts_50 hl (by decide) rfl (fun ls hl => ?_)
          exact C52 F v3 0 0 I10 I11 I12 h _ _ hP hS ls (lv_sub hl [2, 3, 1, 0] rfl)
  refine lv_aload_n hx hb dX7_conflicts_0 rfl (lv_at hl 0 rfl) ?_
  refine lv_iload_n hx hb dX7_conflicts_1 rfl (lv_at hl 1 rfl) ?_
  refine va_put (D := D) (ci := 7) (v := .int v1) (ty := .int) (C := RX7) (T := TX7) (N := 38) hx hb hts in_X7_conflicts_X7 tyX7 tyX7_ok nmX7 hown hK hP (MUW_D hq) hS 0 rfl rfl 19 (by decide) (hts (.fieldLink RX7 48 "LearnedReasonsModel" "yes" "I") (by decide +kernel)) (fun _ h9 => h9) rfl (by decide +kernel) rfl rfl (Nat.le_of_ble_eq_true rfl) dX7_conflicts_2 (fun H locs hP _ hS => ?_)
  have hP : va_P D vwCl (MUW cI cJ cZ q (fu I 10 v1) J a b) H := hP
  refine lv_aload_n hx hb dX7_conflicts_5 rfl (lv_at hl 0 rfl) ?_
  refine lv_iload_n hx hb dX7_conflicts_6 rfl (lv_at hl 2 rfl) ?_
  refine va_put (D := D) (ci := 7) (v := .int v2) (ty := .int) (C := RX7) (T := TX7) (N := 38) hx hb hts in_X7_conflicts_X7 tyX7 tyX7_ok nmX7 hown hK hP (MUW_D hq) hS 0 rfl rfl 20 (by decide) (hts (.fieldLink RX7 52 "LearnedReasonsModel" "no" "I") (by decide +kernel)) (fun _ h9 => h9) rfl (by decide +kernel) rfl rfl (Nat.le_of_ble_eq_true rfl) dX7_conflicts_7 (fun H locs hP _ hS => ?_)
  have hP : va_P D vwCl (MUW cI cJ cZ q (fu (fu I 10 v1) 11 v2) J a b) H := hP
  refine lv_aload_n hx hb dX7_conflicts_10 rfl (lv_at hl 0 rfl) ?_
  refine lv_aload_n hx hb dX7_conflicts_11 rfl (lv_at hl 0 rfl) ?_
  refine va_get (D := D) (ci := 7) (v := .int v1) (C := RX7) (T := TX7) (N := 38) hx hb hts in_X7_conflicts_X7 hown hK hP 0 rfl rfl 19 (by decide) (hts (.fieldLink RX7 48 "LearnedReasonsModel" "yes" "I") (by decide +kernel)) (fun _ h9 => h9) rfl dX7_conflicts_12 ?_
  refine lv_aload_n hx hb dX7_conflicts_15 rfl (lv_at hl 0 rfl) ?_
  refine va_get (D := D) (ci := 7) (v := .int v2) (C := RX7) (T := TX7) (N := 38) hx hb hts in_X7_conflicts_X7 hown hK hP 0 rfl rfl 20 (by decide) (hts (.fieldLink RX7 52 "LearnedReasonsModel" "no" "I") (by decide +kernel)) (fun _ h9 => h9) rfl dX7_conflicts_16 ?_
  refine lv_iand hx hb dX7_conflicts_19 ?_
  refine lv_if_eq (tgt := 27) hx hb dX7_conflicts_20 (by decide) (fun c_32 => ?_) (fun c_32 => ?_)
  · have h := if_t c_32 h
    refine lv_iconst (v := 0) hx hb dX7_conflicts_27 (by decide) ?_
    refine va_put (D := D) (ci := 7) (v := .int 0) (ty := .boolean) (C := RX7) (T := TX7) (N := 38) hx hb hts in_X7_conflicts_X7 tyX7 tyX7_ok nmX7 hown hK hP (MUW_D hq) hS 0 rfl rfl 21 (by decide) (hts (.fieldLink RX7 59 "LearnedReasonsModel" "clash" "Z") (by decide +kernel)) (fun _ h9 => h9) rfl (by decide +kernel) rfl rfl (Nat.le_of_ble_eq_true rfl) dX7_conflicts_28 (fun H locs hP _ hS => ?_)
    have hP : va_P D vwCl (MUW cI cJ cZ q (fu (fu (fu I 10 v1) 11 v2) 12 0) J a b) H := hP
    refine lv_iconst (v := 1) hx hb dX7_conflicts_31 (by decide) ?_
    refine lv_istore (lv' := [(4, .int 1), (0, .ref (q 0)), (1, .int v1), (2, .int v2), (3, .int v3)]) hx hb dX7_conflicts_32 hl (by decide) rfl (fun ls hl => ?_)
    exact C34 F v3 1 v1 v2 0 h _ _ hP hS ls (lv_sub hl [1, 4, 0] rfl)
  · have h := if_f c_32 h
    refine lv_iconst (v := 1) hx hb dX7_conflicts_23 (by decide) ?_
    refine lv_goto (tgt := 28) hx hb dX7_conflicts_24 (by decide) ?_
    refine va_put (D := D) (ci := 7) (v := .int 1) (ty := .boolean) (C := RX7) (T := TX7) (N := 38) hx hb hts in_X7_conflicts_X7 tyX7 tyX7_ok nmX7 hown hK hP (MUW_D hq) hS 0 rfl rfl 21 (by decide) (hts (.fieldLink RX7 59 "LearnedReasonsModel" "clash" "Z") (by decide +kernel)) (fun _ h9 => h9) rfl (by decide +kernel) rfl rfl (Nat.le_of_ble_eq_true rfl) dX7_conflicts_28 (fun H locs hP _ hS => ?_)
    have hP : va_P D vwCl (MUW cI cJ cZ q (fu (fu (fu I 10 v1) 11 v2) 12 1) J a b) H := hP
    refine lv_iconst (v := 1) hx hb dX7_conflicts_31 (by decide) ?_
    refine lv_istore (lv' := [(4, .int 1), (0, .ref (q 0)), (1, .int v1), (2, .int v2), (3, .int v3)]) hx hb dX7_conflicts_32 hl (by decide) rfl (fun ls hl => ?_)
    exact C34 F v3 1 v1 v2 1 h _ _ hP hS ls (lv_sub hl [1, 4, 0] rfl)
theorem in_X7_conflict_X7 : ∀ w ∈ wsX70, w ∈ wsX7_conflict := by decide +kernel
set_option maxHeartbeats 4000000 in
set_option maxRecDepth 100000 in
theorem c_X7_conflict (l : Launch) (D : va_G) (cI cJ cZ : ClassId) (q : Nat → Nat) (hq : MUQ q) (F : Nat) (I : Nat → Int32) (J : Nat → Int64) (a : Nat → Nat → Int32) (b : Nat → Nat → Int64) (x0 : Int32 × Int32 × Int32 × Int32) (h : f_X7_conflict F I J a b = some x0) : Met l yX7_conflict wsX7_conflict ({ frames := 3, cells := 0, slots := 0, locals := 73 }) (MUPc D cI cJ cZ q I J a b [.ref (q 0)]) (va_Qi (fun (r : Int32) (u : Int32 × Int32 × Int32) => r = x0.1 ∧ u = x0.2) (fun (u : Int32 × Int32 × Int32) t => va_P D vwCl (MUW cI cJ cZ q (fu (fu (fu I 10 u.1) 11 u.2.1) 12 u.2.2) J a b) t.heap) (MUA q)) 0 0 (MUA q) := by
  refine mt_of (cc := cX7_conflict) (maxL := 1) (ret := (some .int)) (by decide) rfl ?_
  intro p e s m args below meth c s₁ B0 hml hv R Q hR hQ
  obtain ⟨hargs, hP, hK, hN⟩ := hv
  have hx := B0.exec
  have hb := B0.bytes
  have hr := B0.returns
  have hts := atoms_spec (ws := wsX7_conflict) B0.pre
  have hown : s.vm.findClass RX7 = some m.cls := findClass_of_methodNamed B0.named
  have hlocks := B0.notSynchronized
  have hS : va_S (MUA q) s.heap s.heap [] := va_S.rf
  have hl := lv_entry ([.ref (q 0)]) (n := 1) (Nat.le_of_ble_eq_true rfl)
  rw [hargs, lg_entry_eq]
  rw [← hargs]
  generalize (lg_sl ([.ref (q 0)]) ++ List.replicate (1 - (lg_sl ([.ref (q 0)])).length) Slot.unset).toArray = ls at hl ⊢
  have hl : lv_has ls 1 [(0, .ref (q 0))] := hl
  unfold f_X7_conflict at h
  refine lv_aload_n hx hb dX7_conflict_0 rfl (lv_at hl 0 rfl) ?_
  refine lv_aload_n hx hb dX7_conflict_1 rfl (lv_at hl 0 rfl) ?_
  refine va_get (D := D) (ci := 7) (v := .int (I 5)) (C := RX7) (T := TX7) (N := 38) hx hb hts in_X7_conflict_X7 hown hK hP 0 rfl rfl 12 (by decide) (hts (.fieldLink RX7 169 "LearnedReasonsModel" "assumedYes" "I") (by decide +kernel)) (fun _ h9 => h9) rfl dX7_conflict_2 ?_
  refine lv_aload_n hx hb dX7_conflict_5 rfl (lv_at hl 0 rfl) ?_
  refine va_get (D := D) (ci := 7) (v := .int (I 6)) (C := RX7) (T := TX7) (N := 38) hx hb hts in_X7_conflict_X7 hown hK hP 0 rfl rfl 13 (by decide) (hts (.fieldLink RX7 172 "LearnedReasonsModel" "assumedNo" "I") (by decide +kernel)) (fun _ h9 => h9) rfl dX7_conflict_6 ?_
  refine lv_iconst (v := 0) hx hb dX7_conflict_9 (by decide) ?_
  obtain ⟨x_1, hx_1, h⟩ := ob_some h
  refine va_calli (va_runV (As := [.int (I 5), .int (I 6), .int 0]) (rest := []) ⟨hx, hb, hml, hown, hts⟩ (c_X7_conflicts l D cI cJ cZ q hq F I J a b (I 5) (I 6) 0 x_1 hx_1) (cwV 3 hts gX7_conflict_X7_conflicts rfl rfl rfl (by decide +kernel) (by rw [hR]; exact ⟨Nat.le_of_ble_eq_true rfl, Nat.le_of_ble_eq_true rfl⟩)) ⟨MUPc_blind, va_recv hK hP (ci := 7) (q0 := 0) rfl rfl, fun U hU hW => ⟨rfl, by rw [hU]; exact hP, va_K.moved hW.alike hK, trivial⟩⟩ rfl rfl hl.1 rfl (lv_room (Nat.le_of_ble_eq_true rfl)) dX7_conflict_10 ⟨Nat.zero_le _, Nat.zero_le _⟩) hS (fun _ _ h => h) (fun _ h => h) (fun r u t H1 locs ht hvm hw hB hz1 hk1 hS => ?_)
  obtain ⟨rfl, rfl⟩ := hw
  rw [ht] at hB
  have hP : va_P D vwCl (MUW cI cJ cZ q (fu (fu (fu I 10 x_1.2.1) 11 x_1.2.2.1) 12 x_1.2.2.2) J a b) H1 := hB
  clear hB hz1 hk1 ht hvm
  generalize H1 = H at hP hS ⊢
  refine lv_if_eq (tgt := 20) hx hb dX7_conflict_13 (by decide) (fun c_2 => ?_) (fun c_2 => ?_)
  · have h := if_t c_2 h
    refine lv_iconst (v := 0) hx hb dX7_conflict_20 (by decide) ?_
    have hx0 := Option.some.inj h
    rw [hQ]
    exact W.iret (v := 0) hx hb hr (fun t ht hW => ⟨⟨0, (x_1.2.1, x_1.2.2.1, x_1.2.2.2), rfl, ⟨congrArg (fun z => z.1) hx0, congrArg (fun z => z.2) hx0⟩, by show va_P _ _ _ t.heap; rw [ht]; exact hP⟩, hS.F ht⟩) hS.2.2 dX7_conflict_21
  · have h := if_f c_2 h
    refine lv_iconst (v := 1) hx hb dX7_conflict_16 (by decide) ?_
    refine lv_goto (tgt := 21) hx hb dX7_conflict_17 (by decide) ?_
    have hx0 := Option.some.inj h
    rw [hQ]
    exact W.iret (v := 1) hx hb hr (fun t ht hW => ⟨⟨1, (x_1.2.1, x_1.2.2.1, x_1.2.2.2), rfl, ⟨congrArg (fun z => z.1) hx0, congrArg (fun z => z.2) hx0⟩, by show va_P _ _ _ t.heap; rw [ht]; exact hP⟩, hS.F ht⟩) hS.2.2 dX7_conflict_21
theorem in_X7_known_X7 : ∀ w ∈ wsX70, w ∈ wsX7_known := by decide +kernel
set_option maxHeartbeats 4000000 in
set_option maxRecDepth 100000 in
theorem c_X7_known (l : Launch) (D : va_G) (cI cJ cZ : ClassId) (q : Nat → Nat) (hq : MUQ q) (F : Nat) (I : Nat → Int32) (J : Nat → Int64) (a : Nat → Nat → Int32) (b : Nat → Nat → Int64) (v1 : Int32) (x0 : Int32 × Int32 × Int32 × Int32) (h : f_X7_known F I J a b v1 = some x0) : Met l yX7_known wsX7_known ({ frames := 3, cells := 0, slots := 0, locals := 73 }) (MUPc D cI cJ cZ q I J a b [.ref (q 0), .int v1]) (va_Qi (fun (r : Int32) (u : Int32 × Int32 × Int32) => r = x0.1 ∧ u = x0.2) (fun (u : Int32 × Int32 × Int32) t => va_P D vwCl (MUW cI cJ cZ q (fu (fu (fu I 10 u.1) 11 u.2.1) 12 u.2.2) J a b) t.heap) (MUA q)) 0 0 (MUA q) := by
  refine mt_of (cc := cX7_known) (maxL := 2) (ret := (some .int)) (by decide) rfl ?_
  intro p e s m args below meth c s₁ B0 hml hv R Q hR hQ
  obtain ⟨hargs, hP, hK, hN⟩ := hv
  have hx := B0.exec
  have hb := B0.bytes
  have hr := B0.returns
  have hts := atoms_spec (ws := wsX7_known) B0.pre
  have hown : s.vm.findClass RX7 = some m.cls := findClass_of_methodNamed B0.named
  have hlocks := B0.notSynchronized
  have hS : va_S (MUA q) s.heap s.heap [] := va_S.rf
  have hl := lv_entry ([.ref (q 0), .int v1]) (n := 2) (Nat.le_of_ble_eq_true rfl)
  rw [hargs, lg_entry_eq]
  rw [← hargs]
  generalize (lg_sl ([.ref (q 0), .int v1]) ++ List.replicate (2 - (lg_sl ([.ref (q 0), .int v1])).length) Slot.unset).toArray = ls at hl ⊢
  have hl : lv_has ls 2 [(0, .ref (q 0)), (1, .int v1)] := hl
  unfold f_X7_known at h
  refine lv_aload_n hx hb dX7_known_0 rfl (lv_at hl 0 rfl) ?_
  refine lv_iload_n hx hb dX7_known_1 rfl (lv_at hl 1 rfl) ?_
  obtain ⟨x_1, hx_1, h⟩ := ob_some h
  refine va_calli (va_runV (As := [.int v1]) (rest := []) ⟨hx, hb, hml, hown, hts⟩ (c_X7_isName l D cI cJ cZ q hq F I J a b v1 x_1 hx_1) (cwV 1 hts gX7_known_X7_isName rfl rfl rfl (by decide +kernel) (by rw [hR]; exact ⟨Nat.le_of_ble_eq_true rfl, Nat.le_of_ble_eq_true rfl⟩)) ⟨MUPc_blind, va_recv hK hP (ci := 7) (q0 := 0) rfl rfl, fun U hU hW => ⟨rfl, by rw [hU]; exact hP, va_K.moved hW.alike hK, trivial⟩⟩ rfl rfl hl.1 rfl (lv_room (Nat.le_of_ble_eq_true rfl)) dX7_known_2 ⟨Nat.zero_le _, Nat.zero_le _⟩) hS (fun _ _ h => h) (fun _ h => h) (fun r u t H1 locs ht hvm hw hB hz1 hk1 hS => ?_)
  obtain rfl := hw.symm
  rw [ht] at hB
  have hP : va_P D vwCl (MUW cI cJ cZ q I J a b) H1 := hB
  clear hB hz1 hk1 ht hvm
  generalize H1 = H at hP hS ⊢
  refine lv_if_ne (tgt := 10) hx hb dX7_known_5 (by decide) (fun c_2 => ?_) (fun c_2 => ?_)
  · have h := if_f c_2 h
    refine lv_aload_n hx hb dX7_known_10 rfl (lv_at hl 0 rfl) ?_
    refine lv_aload_n hx hb dX7_known_11 rfl (lv_at hl 0 rfl) ?_
    refine va_get (D := D) (ci := 7) (v := .int (I 5)) (C := RX7) (T := TX7) (N := 38) hx hb hts in_X7_known_X7 hown hK hP 0 rfl rfl 12 (by decide) (hts (.fieldLink RX7 169 "LearnedReasonsModel" "assumedYes" "I") (by decide +kernel)) (fun _ h9 => h9) rfl dX7_known_12 ?_
    refine lv_aload_n hx hb dX7_known_15 rfl (lv_at hl 0 rfl) ?_
    refine va_get (D := D) (ci := 7) (v := .int (I 6)) (C := RX7) (T := TX7) (N := 38) hx hb hts in_X7_known_X7 hown hK hP 0 rfl rfl 13 (by decide) (hts (.fieldLink RX7 172 "LearnedReasonsModel" "assumedNo" "I") (by decide +kernel)) (fun _ h9 => h9) rfl dX7_known_16 ?_
    refine lv_iconst (v := 0) hx hb dX7_known_19 (by decide) ?_
    obtain ⟨x_3, hx_3, h⟩ := ob_some h
    refine va_calli (va_runV (As := [.int (I 5), .int (I 6), .int 0]) (rest := []) ⟨hx, hb, hml, hown, hts⟩ (c_X7_conflicts l D cI cJ cZ q hq F I J a b (I 5) (I 6) 0 x_3 hx_3) (cwV 3 hts gX7_known_X7_conflicts rfl rfl rfl (by decide +kernel) (by rw [hR]; exact ⟨Nat.le_of_ble_eq_true rfl, Nat.le_of_ble_eq_true rfl⟩)) ⟨MUPc_blind, va_recv hK hP (ci := 7) (q0 := 0) rfl rfl, fun U hU hW => ⟨rfl, by rw [hU]; exact hP, va_K.moved hW.alike hK, trivial⟩⟩ rfl rfl hl.1 rfl (lv_room (Nat.le_of_ble_eq_true rfl)) dX7_known_20 ⟨Nat.zero_le _, Nat.zero_le _⟩) hS (fun _ _ h => h) (fun _ h => h) (fun r u t H1 locs ht hvm hw hB hz1 hk1 hS => ?_)
    obtain ⟨rfl, rfl⟩ := hw
    rw [ht] at hB
    have hP : va_P D vwCl (MUW cI cJ cZ q (fu (fu (fu I 10 x_3.2.1) 11 x_3.2.2.1) 12 x_3.2.2.2) J a b) H1 := hB
    clear hB hz1 hk1 ht hvm
    generalize H1 = H at hP hS ⊢
    refine lv_if_eq (tgt := 29) hx hb dX7_known_23 (by decide) (fun c_4 => ?_) (fun c_4 => ?_)
    · have h := if_t c_4 h
      refine lv_aload_n hx hb dX7_known_29 rfl (lv_at hl 0 rfl) ?_
      refine va_get (D := D) (ci := 7) (v := .int x_3.2.1) (C := RX7) (T := TX7) (N := 38) hx hb hts in_X7_known_X7 hown hK hP 0 rfl rfl 19 (by decide) (hts (.fieldLink RX7 48 "LearnedReasonsModel" "yes" "I") (by decide +kernel)) (fun _ h9 => h9) rfl dX7_known_30 ?_
      refine lv_iload_n hx hb dX7_known_33 rfl (lv_at hl 1 rfl) ?_
      refine lv_ishr hx hb dX7_known_34 ?_
      refine lv_iconst (v := 1) hx hb dX7_known_35 (by decide) ?_
      refine lv_iand hx hb dX7_known_36 ?_
      refine lv_iconst (v := 1) hx hb dX7_known_37 (by decide) ?_
      refine lv_icmp_ne (tgt := 45) hx hb dX7_known_38 (by decide) (fun c_5 => ?_) (fun c_5 => ?_)
      · have h := if_f c_5 h
        refine lv_aload_n hx hb dX7_known_45 rfl (lv_at hl 0 rfl) ?_
        refine va_get (D := D) (ci := 7) (v := .int x_3.2.2.1) (C := RX7) (T := TX7) (N := 38) hx hb hts in_X7_known_X7 hown hK hP 0 rfl rfl 20 (by decide) (hts (.fieldLink RX7 52 "LearnedReasonsModel" "no" "I") (by decide +kernel)) (fun _ h9 => h9) rfl dX7_known_46 ?_
        refine lv_iload_n hx hb dX7_known_49 rfl (lv_at hl 1 rfl) ?_
        refine lv_ishr hx hb dX7_known_50 ?_
        refine lv_iconst (v := 1) hx hb dX7_known_51 (by decide) ?_
        refine lv_iand hx hb dX7_known_52 ?_
        refine lv_iconst (v := 1) hx hb dX7_known_53 (by decide) ?_
        refine lv_icmp_ne (tgt := 61) hx hb dX7_known_54 (by decide) (fun c_6 => ?_) (fun c_6 => ?_)
        · have h := if_f c_6 h
          refine lv_iconst (v := 2) hx hb dX7_known_61 (by decide) ?_
          have hx0 := Option.some.inj h
          rw [hQ]
          exact W.iret (v := 2) hx hb hr (fun t ht hW => ⟨⟨2, (x_3.2.1, x_3.2.2.1, x_3.2.2.2), rfl, ⟨congrArg (fun z => z.1) hx0, congrArg (fun z => z.2) hx0⟩, by show va_P _ _ _ t.heap; rw [ht]; exact hP⟩, hS.F ht⟩) hS.2.2 dX7_known_62
        · have h := if_t c_6 h
          refine lv_iconst (v := 0) hx hb dX7_known_57 (by decide) ?_
          refine lv_goto (tgt := 62) hx hb dX7_known_58 (by decide) ?_
          have hx0 := Option.some.inj h
          rw [hQ]
          exact W.iret (v := 0) hx hb hr (fun t ht hW => ⟨⟨0, (x_3.2.1, x_3.2.2.1, x_3.2.2.2), rfl, ⟨congrArg (fun z => z.1) hx0, congrArg (fun z => z.2) hx0⟩, by show va_P _ _ _ t.heap; rw [ht]; exact hP⟩, hS.F ht⟩) hS.2.2 dX7_known_62
      · have h := if_t c_5 h
        refine lv_iconst (v := 1) hx hb dX7_known_41 (by decide) ?_
        refine lv_goto (tgt := 62) hx hb dX7_known_42 (by decide) ?_
        have hx0 := Option.some.inj h
        rw [hQ]
        exact W.iret (v := 1) hx hb hr (fun t ht hW => ⟨⟨1, (x_3.2.1, x_3.2.2.1, x_3.2.2.2), rfl, ⟨congrArg (fun z => z.1) hx0, congrArg (fun z => z.2) hx0⟩, by show va_P _ _ _ t.heap; rw [ht]; exact hP⟩, hS.F ht⟩) hS.2.2 dX7_known_62
    · have h := if_f c_4 h
      refine lv_bipush (v := (-2)) hx hb dX7_known_26 (by decide) ?_
      have hx0 := Option.some.inj h
      rw [hQ]
      exact W.iret (v := (-2)) hx hb hr (fun t ht hW => ⟨⟨(-2), (x_3.2.1, x_3.2.2.1, x_3.2.2.2), rfl, ⟨congrArg (fun z => z.1) hx0, congrArg (fun z => z.2) hx0⟩, by show va_P _ _ _ t.heap; rw [ht]; exact hP⟩, hS.F ht⟩) hS.2.2 dX7_known_28
  · have h := if_t c_2 h
    refine lv_iconst (v := (-1)) hx hb dX7_known_8 (by decide) ?_
    have hx0 := Option.some.inj h
    rw [hQ]
    exact W.iret (v := (-1)) hx hb hr (fun t ht hW => ⟨⟨(-1), ((I 10), (I 11), (I 12)), rfl, ⟨congrArg (fun z => z.1) hx0, congrArg (fun z => z.2) hx0⟩, by show va_P _ _ _ t.heap; rw [ht]; exact hP⟩, hS.F ht⟩) hS.2.2 dX7_known_9
