theorem in_X4_learnedClauses_X4 : ∀ w ∈ wsX40, w ∈ wsX4_learnedClauses := by decide +kernel
set_option maxHeartbeats 4000000 in
set_option maxRecDepth 100000 in
theorem c_X4_learnedClauses (l : Launch) (D : va_G) (cI cJ : ClassId) (q : Nat → Nat) (hq : CUQ q) (F : Nat) (I : Nat → Int32) (J : Nat → Int64) (a : Nat → Nat → Int32) (b : Nat → Nat → Int64) (x0 : Int32) (h : f_X4_learnedClauses F I J a b = some x0) : Met l yX4_learnedClauses wsX4_learnedClauses ({ frames := 1, cells := 0, slots := 0, locals := 20 }) (CUPc D cI cJ q I J a b [.ref (q 5)]) (va_Qi (fun (r : Int32) (u : Unit) => r = x0) (fun (u : Unit) t => va_P D vwCl (CUW cI cJ q I J a b) t.heap) (CUA q)) 0 0 (CUA q) := by
  refine mt_of (cc := cX4_learnedClauses) (maxL := 1) (ret := (some .int)) (by decide) rfl ?_
  intro p e s m args below meth c s₁ B0 hml hv R Q hR hQ
  obtain ⟨hargs, hP, hK, hN⟩ := hv
  have hx := B0.exec
  have hb := B0.bytes
  have hr := B0.returns
  have hts := atoms_spec (ws := wsX4_learnedClauses) B0.pre
  have hown : s.vm.findClass RX4 = some m.cls := findClass_of_methodNamed B0.named
  have hlocks := B0.notSynchronized
  have hS : va_S (CUA q) s.heap s.heap [] := va_S.rf
  have hl := lv_entry ([.ref (q 5)]) (n := 1) (Nat.le_of_ble_eq_true rfl)
  rw [hargs, lg_entry_eq]
  rw [← hargs]
  generalize (lg_sl ([.ref (q 5)]) ++ List.replicate (1 - (lg_sl ([.ref (q 5)])).length) Slot.unset).toArray = ls at hl ⊢
  have hl : lv_has ls 1 [(0, .ref (q 5))] := hl
  unfold f_X4_learnedClauses at h
  refine lv_aload_n hx hb dX4_learnedClauses_0 rfl (lv_at hl 0 rfl) ?_
  refine va_get (D := D) (ci := 4) (v := .ref (q 3)) (C := RX4) (T := TX4) (N := 9) hx hb hts in_X4_learnedClauses_X4 hown hK hP 5 rfl rfl 2 (by decide) (hts (.fieldLink RX4 19 "LearnedReasons$Search" "learnedClauses" "LLearnedReasons$Learned;") (by decide +kernel)) (fun _ h9 => h9) rfl dX4_learnedClauses_1 ?_
  obtain ⟨x_1, hx_1, h⟩ := ob_some h
  refine va_calli (va_runV (As := []) (rest := []) ⟨hx, hb, hml, hown, hts⟩ (c_X1_howMany l D cI cJ q hq F I J a b x_1 hx_1) (cwV 0 hts gX4_learnedClauses_X1_howMany rfl rfl rfl (by decide +kernel) (by rw [hR]; exact ⟨Nat.le_of_ble_eq_true rfl, Nat.le_of_ble_eq_true rfl⟩)) ⟨CUPc_blind, va_recv hK hP (ci := 1) (q0 := 3) rfl rfl, fun U hU hW => ⟨rfl, by rw [hU]; exact hP, va_K.moved hW.alike hK, va_Nw.warmM hW hN⟩⟩ rfl rfl hl.1 rfl (lv_room (Nat.le_of_ble_eq_true rfl)) dX4_learnedClauses_4 ⟨Nat.zero_le _, Nat.zero_le _⟩) hS (fun _ _ h => h) (fun _ h => h) (fun r u t H1 locs ht hvm hw hB hz1 hk1 hS => ?_)
  obtain rfl := hw.symm
  rw [ht] at hB
  have hP : va_P D vwCl (CUW cI cJ q I J a b) H1 := hB
  clear hB hz1 hk1 ht hvm
  generalize H1 = H at hP hS ⊢
  have hx0 := Option.some.inj h
  rw [hQ]
  exact W.iret (v := x_1) hx hb hr (fun t ht hW => ⟨⟨x_1, (), rfl, hx0, by show va_P _ _ _ t.heap; rw [ht]; exact hP⟩, hS.F ht⟩) hS.2.2 dX4_learnedClauses_7
theorem in_X4_choicesMade_X4 : ∀ w ∈ wsX40, w ∈ wsX4_choicesMade := by decide +kernel
set_option maxHeartbeats 4000000 in
set_option maxRecDepth 100000 in
theorem c_X4_choicesMade (l : Launch) (D : va_G) (cI cJ : ClassId) (q : Nat → Nat) (hq : CUQ q) (F : Nat) (I : Nat → Int32) (J : Nat → Int64) (a : Nat → Nat → Int32) (b : Nat → Nat → Int64) (x0 : Int32) (h : f_X4_choicesMade F I J a b = some x0) : Met l yX4_choicesMade wsX4_choicesMade ({ frames := 0, cells := 0, slots := 0, locals := 0 }) (CUPc D cI cJ q I J a b [.ref (q 5)]) (va_Qi (fun (r : Int32) (u : Unit) => r = x0) (fun (u : Unit) t => va_P D vwCl (CUW cI cJ q I J a b) t.heap) (CUA q)) 0 0 (CUA q) := by
  refine mt_of (cc := cX4_choicesMade) (maxL := 1) (ret := (some .int)) (by decide) rfl ?_
  intro p e s m args below meth c s₁ B0 hml hv R Q hR hQ
  obtain ⟨hargs, hP, hK, hN⟩ := hv
  have hx := B0.exec
  have hb := B0.bytes
  have hr := B0.returns
  have hts := atoms_spec (ws := wsX4_choicesMade) B0.pre
  have hown : s.vm.findClass RX4 = some m.cls := findClass_of_methodNamed B0.named
  have hlocks := B0.notSynchronized
  have hS : va_S (CUA q) s.heap s.heap [] := va_S.rf
  have hl := lv_entry ([.ref (q 5)]) (n := 1) (Nat.le_of_ble_eq_true rfl)
  rw [hargs, lg_entry_eq]
  rw [← hargs]
  generalize (lg_sl ([.ref (q 5)]) ++ List.replicate (1 - (lg_sl ([.ref (q 5)])).length) Slot.unset).toArray = ls at hl ⊢
  have hl : lv_has ls 1 [(0, .ref (q 5))] := hl
  unfold f_X4_choicesMade at h
  refine lv_aload_n hx hb dX4_choicesMade_0 rfl (lv_at hl 0 rfl) ?_
  refine va_get (D := D) (ci := 4) (v := .int (I 15)) (C := RX4) (T := TX4) (N := 9) hx hb hts in_X4_choicesMade_X4 hown hK hP 5 rfl rfl 7 (by decide) (hts (.fieldLink RX4 61 "LearnedReasons$Search" "choicesMade" "I") (by decide +kernel)) (fun _ h9 => h9) rfl dX4_choicesMade_1 ?_
  have hx0 := Option.some.inj h
  rw [hQ]
  exact W.iret (v := I 15) hx hb hr (fun t ht hW => ⟨⟨(I 15), (), rfl, hx0, by show va_P _ _ _ t.heap; rw [ht]; exact hP⟩, hS.F ht⟩) hS.2.2 dX4_choicesMade_4
theorem in_X4_conflicts_X4 : ∀ w ∈ wsX40, w ∈ wsX4_conflicts := by decide +kernel
set_option maxHeartbeats 4000000 in
set_option maxRecDepth 100000 in
theorem c_X4_conflicts (l : Launch) (D : va_G) (cI cJ : ClassId) (q : Nat → Nat) (hq : CUQ q) (F : Nat) (I : Nat → Int32) (J : Nat → Int64) (a : Nat → Nat → Int32) (b : Nat → Nat → Int64) (x0 : Int32) (h : f_X4_conflicts F I J a b = some x0) : Met l yX4_conflicts wsX4_conflicts ({ frames := 0, cells := 0, slots := 0, locals := 0 }) (CUPc D cI cJ q I J a b [.ref (q 5)]) (va_Qi (fun (r : Int32) (u : Unit) => r = x0) (fun (u : Unit) t => va_P D vwCl (CUW cI cJ q I J a b) t.heap) (CUA q)) 0 0 (CUA q) := by
  refine mt_of (cc := cX4_conflicts) (maxL := 1) (ret := (some .int)) (by decide) rfl ?_
  intro p e s m args below meth c s₁ B0 hml hv R Q hR hQ
  obtain ⟨hargs, hP, hK, hN⟩ := hv
  have hx := B0.exec
  have hb := B0.bytes
  have hr := B0.returns
  have hts := atoms_spec (ws := wsX4_conflicts) B0.pre
  have hown : s.vm.findClass RX4 = some m.cls := findClass_of_methodNamed B0.named
  have hlocks := B0.notSynchronized
  have hS : va_S (CUA q) s.heap s.heap [] := va_S.rf
  have hl := lv_entry ([.ref (q 5)]) (n := 1) (Nat.le_of_ble_eq_true rfl)
  rw [hargs, lg_entry_eq]
  rw [← hargs]
  generalize (lg_sl ([.ref (q 5)]) ++ List.replicate (1 - (lg_sl ([.ref (q 5)])).length) Slot.unset).toArray = ls at hl ⊢
  have hl : lv_has ls 1 [(0, .ref (q 5))] := hl
  unfold f_X4_conflicts at h
  refine lv_aload_n hx hb dX4_conflicts_0 rfl (lv_at hl 0 rfl) ?_
  refine va_get (D := D) (ci := 4) (v := .int (I 14)) (C := RX4) (T := TX4) (N := 9) hx hb hts in_X4_conflicts_X4 hown hK hP 5 rfl rfl 6 (by decide) (hts (.fieldLink RX4 44 "LearnedReasons$Search" "conflicts" "I") (by decide +kernel)) (fun _ h9 => h9) rfl dX4_conflicts_1 ?_
  have hx0 := Option.some.inj h
  rw [hQ]
  exact W.iret (v := I 14) hx hb hr (fun t ht hW => ⟨⟨(I 14), (), rfl, hx0, by show va_P _ _ _ t.heap; rw [ht]; exact hP⟩, hS.F ht⟩) hS.2.2 dX4_conflicts_4
theorem in_X6_told_X6 : ∀ w ∈ wsX60, w ∈ wsX6_told := by decide +kernel
set_option maxHeartbeats 4000000 in
set_option maxRecDepth 100000 in
theorem c_X6_told (l : Launch) (D : va_G) (cI cJ : ClassId) (q : Nat → Nat) (hq : CUQ q) (F : Nat) (I : Nat → Int32) (J : Nat → Int64) (a : Nat → Nat → Int32) (b : Nat → Nat → Int64) (v1 : Int32) (x0 : Int32 × Int32 × Int32 × Int32 × Int32 × Int32 × Int32 × Int32 × Int32 × Int32 × Int32 × (Nat → Int32) × (Nat → Int32)) (h : f_X6_told F I J a b v1 = some x0) : Met l yX6_told wsX6_told ({ frames := 7, cells := 0, slots := 0, locals := 164 }) (CUPc D cI cJ q I J a b [.ref (q 0), .int v1]) (va_Qi (fun (r : Int32) (u : Int32 × Int32 × Int32 × Int32 × Int32 × Int32 × Int32 × Int32 × Int32 × Int32 × (Nat → Int32) × (Nat → Int32)) => r = x0.1 ∧ u = x0.2) (fun (u : Int32 × Int32 × Int32 × Int32 × Int32 × Int32 × Int32 × Int32 × Int32 × Int32 × (Nat → Int32) × (Nat → Int32)) t => va_P D vwCl (CUW cI cJ q (fu (fu (fu (fu (fu (fu (fu (fu (fu (fu I 7 u.1) 8 u.2.1) 9 u.2.2.1) 10 u.2.2.2.1) 11 u.2.2.2.2.1) 12 u.2.2.2.2.2.1) 13 u.2.2.2.2.2.2.1) 14 u.2.2.2.2.2.2.2.1) 15 u.2.2.2.2.2.2.2.2.1) 16 u.2.2.2.2.2.2.2.2.2.1) J (fu (fu a 6 u.2.2.2.2.2.2.2.2.2.2.1) 7 u.2.2.2.2.2.2.2.2.2.2.2) b) t.heap) (CUA q)) 0 0 (CUA q) := by
  refine mt_of (cc := cX6_told) (maxL := 2) (ret := (some .int)) (by decide) rfl ?_
  intro p e s m args below meth c s₁ B0 hml hv R Q hR hQ
  obtain ⟨hargs, hP, hK, hN⟩ := hv
  have hx := B0.exec
  have hb := B0.bytes
  have hr := B0.returns
  have hts := atoms_spec (ws := wsX6_told) B0.pre
  have hown : s.vm.findClass RX6 = some m.cls := findClass_of_methodNamed B0.named
  have hlocks := B0.notSynchronized
  have hS : va_S (CUA q) s.heap s.heap [] := va_S.rf
  have hl := lv_entry ([.ref (q 0), .int v1]) (n := 2) (Nat.le_of_ble_eq_true rfl)
  rw [hargs, lg_entry_eq]
  rw [← hargs]
  generalize (lg_sl ([.ref (q 0), .int v1]) ++ List.replicate (2 - (lg_sl ([.ref (q 0), .int v1])).length) Slot.unset).toArray = ls at hl ⊢
  have hl : lv_has ls 2 [(0, .ref (q 0)), (1, .int v1)] := hl
  unfold f_X6_told at h
  refine lv_aload_n hx hb dX6_told_0 rfl (lv_at hl 0 rfl) ?_
  refine va_get (D := D) (ci := 6) (v := .ref (q 5)) (C := RX6) (T := TX6) (N := 9) hx hb hts in_X6_told_X6 hown hK hP 0 rfl rfl 3 (by decide) (hts (.fieldLink RX6 40 "LearnedReasons" "theSearch" "LLearnedReasons$Search;") (by decide +kernel)) (fun _ h9 => h9) rfl dX6_told_1 ?_
  obtain ⟨x_1, hx_1, h⟩ := ob_some h
  refine va_callv (va_runV (As := []) (rest := []) ⟨hx, hb, hml, hown, hts⟩ (c_X4_run l D cI cJ q hq F I J a b x_1 hx_1) (cwV 0 hts gX6_told_X4_run rfl rfl rfl (by decide +kernel) (by rw [hR]; exact ⟨Nat.le_of_ble_eq_true rfl, Nat.le_of_ble_eq_true rfl⟩)) ⟨CUPc_blind, va_recv hK hP (ci := 4) (q0 := 5) rfl rfl, fun U hU hW => ⟨rfl, by rw [hU]; exact hP, va_K.moved hW.alike hK, va_Nw.warmM hW hN⟩⟩ rfl rfl hl.1 rfl (lv_room (Nat.le_of_ble_eq_true rfl)) dX6_told_4 ⟨Nat.zero_le _, Nat.zero_le _⟩) hS (fun _ _ h => h) (fun _ h => h) (fun u t H1 locs ht hvm hw hB hz1 hk1 hS => ?_)
  obtain rfl := hw.symm
  rw [ht] at hB
  have hP : va_P D vwCl (CUW cI cJ q (fu (fu (fu (fu (fu (fu (fu (fu (fu (fu I 7 x_1.1) 8 x_1.2.1) 9 x_1.2.2.1) 10 x_1.2.2.2.1) 11 x_1.2.2.2.2.1) 12 x_1.2.2.2.2.2.1) 13 x_1.2.2.2.2.2.2.1) 14 x_1.2.2.2.2.2.2.2.1) 15 x_1.2.2.2.2.2.2.2.2.1) 16 x_1.2.2.2.2.2.2.2.2.2.1) J (fu (fu a 6 x_1.2.2.2.2.2.2.2.2.2.2.1) 7 x_1.2.2.2.2.2.2.2.2.2.2.2) b) H1 := hB
  clear hB hz1 hk1 ht hvm
  generalize H1 = H at hP hS ⊢
  refine lv_iload_n hx hb dX6_told_7 rfl (lv_at hl 1 rfl) ?_
  rcases Classical.em (v1 = 0) with c_2 | c_2
  · have h := if_t c_2 h
    refine lv_tableIn (off := 28) (tgt := 36) hx hb dX6_told_8 (by rw [c_2]; decide) (by rw [c_2]; decide) (by rw [c_2]; decide) (by decide) ?_
    refine lv_aload_n hx hb dX6_told_36 rfl (lv_at hl 0 rfl) ?_
    refine va_get (D := D) (ci := 6) (v := .ref (q 5)) (C := RX6) (T := TX6) (N := 9) hx hb hts in_X6_told_X6 hown hK hP 0 rfl rfl 3 (by decide) (hts (.fieldLink RX6 40 "LearnedReasons" "theSearch" "LLearnedReasons$Search;") (by decide +kernel)) (fun _ h9 => h9) rfl dX6_told_37 ?_
    obtain ⟨x_3, hx_3, h⟩ := ob_some h
    refine va_calli (va_runV (As := []) (rest := []) ⟨hx, hb, hml, hown, hts⟩ (c_X4_conflicts l D cI cJ q hq F (fu (fu (fu (fu (fu (fu (fu (fu (fu (fu I 7 x_1.1) 8 x_1.2.1) 9 x_1.2.2.1) 10 x_1.2.2.2.1) 11 x_1.2.2.2.2.1) 12 x_1.2.2.2.2.2.1) 13 x_1.2.2.2.2.2.2.1) 14 x_1.2.2.2.2.2.2.2.1) 15 x_1.2.2.2.2.2.2.2.2.1) 16 x_1.2.2.2.2.2.2.2.2.2.1) J (fu (fu a 6 x_1.2.2.2.2.2.2.2.2.2.2.1) 7 x_1.2.2.2.2.2.2.2.2.2.2.2) b x_3 hx_3) (cwV 0 hts gX6_told_X4_conflicts rfl rfl rfl (by decide +kernel) (by rw [hR]; exact ⟨Nat.le_of_ble_eq_true rfl, Nat.le_of_ble_eq_true rfl⟩)) ⟨CUPc_blind, va_recv hK hP (ci := 4) (q0 := 5) rfl rfl, fun U hU hW => ⟨rfl, by rw [hU]; exact hP, va_K.moved hW.alike hK, va_Nw.warmM hW hN⟩⟩ rfl rfl hl.1 rfl (lv_room (Nat.le_of_ble_eq_true rfl)) dX6_told_40 ⟨Nat.zero_le _, Nat.zero_le _⟩) hS (fun _ _ h => h) (fun _ h => h) (fun r u t H1 locs ht hvm hw hB hz1 hk1 hS => ?_)
    obtain rfl := hw.symm
    rw [ht] at hB
    have hP : va_P D vwCl (CUW cI cJ q (fu (fu (fu (fu (fu (fu (fu (fu (fu (fu I 7 x_1.1) 8 x_1.2.1) 9 x_1.2.2.1) 10 x_1.2.2.2.1) 11 x_1.2.2.2.2.1) 12 x_1.2.2.2.2.2.1) 13 x_1.2.2.2.2.2.2.1) 14 x_1.2.2.2.2.2.2.2.1) 15 x_1.2.2.2.2.2.2.2.2.1) 16 x_1.2.2.2.2.2.2.2.2.2.1) J (fu (fu a 6 x_1.2.2.2.2.2.2.2.2.2.2.1) 7 x_1.2.2.2.2.2.2.2.2.2.2.2) b) H1 := hB
    clear hB hz1 hk1 ht hvm
    generalize H1 = H at hP hS ⊢
    have hx0 := Option.some.inj h
    rw [hQ]
    exact W.iret (v := x_3) hx hb hr (fun t ht hW => ⟨⟨x_3, (x_1.1, x_1.2.1, x_1.2.2.1, x_1.2.2.2.1, x_1.2.2.2.2.1, x_1.2.2.2.2.2.1, x_1.2.2.2.2.2.2.1, x_1.2.2.2.2.2.2.2.1, x_1.2.2.2.2.2.2.2.2.1, x_1.2.2.2.2.2.2.2.2.2.1, x_1.2.2.2.2.2.2.2.2.2.2.1, x_1.2.2.2.2.2.2.2.2.2.2.2), rfl, ⟨congrArg (fun z => z.1) hx0, congrArg (fun z => z.2) hx0⟩, by show va_P _ _ _ t.heap; rw [ht]; exact hP⟩, hS.F ht⟩) hS.2.2 dX6_told_43
  have h := if_f c_2 h
  rcases Classical.em (v1 = 1) with c_4 | c_4
  · have h := if_t c_4 h
    refine lv_tableIn (off := 36) (tgt := 44) hx hb dX6_told_8 (by rw [c_4]; decide) (by rw [c_4]; decide) (by rw [c_4]; decide) (by decide) ?_
    refine lv_aload_n hx hb dX6_told_44 rfl (lv_at hl 0 rfl) ?_
    refine va_get (D := D) (ci := 6) (v := .ref (q 5)) (C := RX6) (T := TX6) (N := 9) hx hb hts in_X6_told_X6 hown hK hP 0 rfl rfl 3 (by decide) (hts (.fieldLink RX6 40 "LearnedReasons" "theSearch" "LLearnedReasons$Search;") (by decide +kernel)) (fun _ h9 => h9) rfl dX6_told_45 ?_
    obtain ⟨x_5, hx_5, h⟩ := ob_some h
    refine va_calli (va_runV (As := []) (rest := []) ⟨hx, hb, hml, hown, hts⟩ (c_X4_choicesMade l D cI cJ q hq F (fu (fu (fu (fu (fu (fu (fu (fu (fu (fu I 7 x_1.1) 8 x_1.2.1) 9 x_1.2.2.1) 10 x_1.2.2.2.1) 11 x_1.2.2.2.2.1) 12 x_1.2.2.2.2.2.1) 13 x_1.2.2.2.2.2.2.1) 14 x_1.2.2.2.2.2.2.2.1) 15 x_1.2.2.2.2.2.2.2.2.1) 16 x_1.2.2.2.2.2.2.2.2.2.1) J (fu (fu a 6 x_1.2.2.2.2.2.2.2.2.2.2.1) 7 x_1.2.2.2.2.2.2.2.2.2.2.2) b x_5 hx_5) (cwV 0 hts gX6_told_X4_choicesMade rfl rfl rfl (by decide +kernel) (by rw [hR]; exact ⟨Nat.le_of_ble_eq_true rfl, Nat.le_of_ble_eq_true rfl⟩)) ⟨CUPc_blind, va_recv hK hP (ci := 4) (q0 := 5) rfl rfl, fun U hU hW => ⟨rfl, by rw [hU]; exact hP, va_K.moved hW.alike hK, va_Nw.warmM hW hN⟩⟩ rfl rfl hl.1 rfl (lv_room (Nat.le_of_ble_eq_true rfl)) dX6_told_48 ⟨Nat.zero_le _, Nat.zero_le _⟩) hS (fun _ _ h => h) (fun _ h => h) (fun r u t H1 locs ht hvm hw hB hz1 hk1 hS => ?_)
    obtain rfl := hw.symm
    rw [ht] at hB
    have hP : va_P D vwCl (CUW cI cJ q (fu (fu (fu (fu (fu (fu (fu (fu (fu (fu I 7 x_1.1) 8 x_1.2.1) 9 x_1.2.2.1) 10 x_1.2.2.2.1) 11 x_1.2.2.2.2.1) 12 x_1.2.2.2.2.2.1) 13 x_1.2.2.2.2.2.2.1) 14 x_1.2.2.2.2.2.2.2.1) 15 x_1.2.2.2.2.2.2.2.2.1) 16 x_1.2.2.2.2.2.2.2.2.2.1) J (fu (fu a 6 x_1.2.2.2.2.2.2.2.2.2.2.1) 7 x_1.2.2.2.2.2.2.2.2.2.2.2) b) H1 := hB
    clear hB hz1 hk1 ht hvm
    generalize H1 = H at hP hS ⊢
    have hx0 := Option.some.inj h
    rw [hQ]
    exact W.iret (v := x_5) hx hb hr (fun t ht hW => ⟨⟨x_5, (x_1.1, x_1.2.1, x_1.2.2.1, x_1.2.2.2.1, x_1.2.2.2.2.1, x_1.2.2.2.2.2.1, x_1.2.2.2.2.2.2.1, x_1.2.2.2.2.2.2.2.1, x_1.2.2.2.2.2.2.2.2.1, x_1.2.2.2.2.2.2.2.2.2.1, x_1.2.2.2.2.2.2.2.2.2.2.1, x_1.2.2.2.2.2.2.2.2.2.2.2), rfl, ⟨congrArg (fun z => z.1) hx0, congrArg (fun z => z.2) hx0⟩, by show va_P _ _ _ t.heap; rw [ht]; exact hP⟩, hS.F ht⟩) hS.2.2 dX6_told_51
  have h := if_f c_4 h
  rcases Classical.em (v1 = 2) with c_6 | c_6
  · have h := if_t c_6 h
    refine lv_tableIn (off := 44) (tgt := 52) hx hb dX6_told_8 (by rw [c_6]; decide) (by rw [c_6]; decide) (by rw [c_6]; decide) (by decide) ?_
    refine lv_aload_n hx hb dX6_told_52 rfl (lv_at hl 0 rfl) ?_
    refine va_get (D := D) (ci := 6) (v := .ref (q 5)) (C := RX6) (T := TX6) (N := 9) hx hb hts in_X6_told_X6 hown hK hP 0 rfl rfl 3 (by decide) (hts (.fieldLink RX6 40 "LearnedReasons" "theSearch" "LLearnedReasons$Search;") (by decide +kernel)) (fun _ h9 => h9) rfl dX6_told_53 ?_
    obtain ⟨x_7, hx_7, h⟩ := ob_some h
    refine va_calli (va_runV (As := []) (rest := []) ⟨hx, hb, hml, hown, hts⟩ (c_X4_learnedClauses l D cI cJ q hq F (fu (fu (fu (fu (fu (fu (fu (fu (fu (fu I 7 x_1.1) 8 x_1.2.1) 9 x_1.2.2.1) 10 x_1.2.2.2.1) 11 x_1.2.2.2.2.1) 12 x_1.2.2.2.2.2.1) 13 x_1.2.2.2.2.2.2.1) 14 x_1.2.2.2.2.2.2.2.1) 15 x_1.2.2.2.2.2.2.2.2.1) 16 x_1.2.2.2.2.2.2.2.2.2.1) J (fu (fu a 6 x_1.2.2.2.2.2.2.2.2.2.2.1) 7 x_1.2.2.2.2.2.2.2.2.2.2.2) b x_7 hx_7) (cwV 0 hts gX6_told_X4_learnedClauses rfl rfl rfl (by decide +kernel) (by rw [hR]; exact ⟨Nat.le_of_ble_eq_true rfl, Nat.le_of_ble_eq_true rfl⟩)) ⟨CUPc_blind, va_recv hK hP (ci := 4) (q0 := 5) rfl rfl, fun U hU hW => ⟨rfl, by rw [hU]; exact hP, va_K.moved hW.alike hK, va_Nw.warmM hW hN⟩⟩ rfl rfl hl.1 rfl (lv_room (Nat.le_of_ble_eq_true rfl)) dX6_told_56 ⟨Nat.zero_le _, Nat.zero_le _⟩) hS (fun _ _ h => h) (fun _ h => h) (fun r u t H1 locs ht hvm hw hB hz1 hk1 hS => ?_)
    obtain rfl := hw.symm
    rw [ht] at hB
    have hP : va_P D vwCl (CUW cI cJ q (fu (fu (fu (fu (fu (fu (fu (fu (fu (fu I 7 x_1.1) 8 x_1.2.1) 9 x_1.2.2.1) 10 x_1.2.2.2.1) 11 x_1.2.2.2.2.1) 12 x_1.2.2.2.2.2.1) 13 x_1.2.2.2.2.2.2.1) 14 x_1.2.2.2.2.2.2.2.1) 15 x_1.2.2.2.2.2.2.2.2.1) 16 x_1.2.2.2.2.2.2.2.2.2.1) J (fu (fu a 6 x_1.2.2.2.2.2.2.2.2.2.2.1) 7 x_1.2.2.2.2.2.2.2.2.2.2.2) b) H1 := hB
    clear hB hz1 hk1 ht hvm
    generalize H1 = H at hP hS ⊢
    have hx0 := Option.some.inj h
    rw [hQ]
    exact W.iret (v := x_7) hx hb hr (fun t ht hW => ⟨⟨x_7, (x_1.1, x_1.2.1, x_1.2.2.1, x_1.2.2.2.1, x_1.2.2.2.2.1, x_1.2.2.2.2.2.1, x_1.2.2.2.2.2.2.1, x_1.2.2.2.2.2.2.2.1, x_1.2.2.2.2.2.2.2.2.1, x_1.2.2.2.2.2.2.2.2.2.1, x_1.2.2.2.2.2.2.2.2.2.2.1, x_1.2.2.2.2.2.2.2.2.2.2.2), rfl, ⟨congrArg (fun z => z.1) hx0, congrArg (fun z => z.2) hx0⟩, by show va_P _ _ _ t.heap; rw [ht]; exact hP⟩, hS.F ht⟩) hS.2.2 dX6_told_59
  have h := if_f c_6 h
  have nc_2 : ¬ v1.toInt = 0 := fun e9 => c_2 (Int32.toInt_inj.mp e9)
  have nc_4 : ¬ v1.toInt = 1 := fun e9 => c_4 (Int32.toInt_inj.mp e9)
  have nc_6 : ¬ v1.toInt = 2 := fun e9 => c_6 (Int32.toInt_inj.mp e9)
  refine lv_tableOut (tgt := 60) hx hb dX6_told_8 (by omega) (by decide) ?_
  refine lv_bipush (v := (-2)) hx hb dX6_told_60 (by decide) ?_
  have hx0 := Option.some.inj h
  rw [hQ]
  exact W.iret (v := (-2)) hx hb hr (fun t ht hW => ⟨⟨(-2), (x_1.1, x_1.2.1, x_1.2.2.1, x_1.2.2.2.1, x_1.2.2.2.2.1, x_1.2.2.2.2.2.1, x_1.2.2.2.2.2.2.1, x_1.2.2.2.2.2.2.2.1, x_1.2.2.2.2.2.2.2.2.1, x_1.2.2.2.2.2.2.2.2.2.1, x_1.2.2.2.2.2.2.2.2.2.2.1, x_1.2.2.2.2.2.2.2.2.2.2.2), rfl, ⟨congrArg (fun z => z.1) hx0, congrArg (fun z => z.2) hx0⟩, by show va_P _ _ _ t.heap; rw [ht]; exact hP⟩, hS.F ht⟩) hS.2.2 dX6_told_62
theorem in_X1_at_X1 : ∀ w ∈ wsX10, w ∈ wsX1_at := by decide +kernel
set_option maxHeartbeats 4000000 in
set_option maxRecDepth 100000 in
theorem c_X1_at (l : Launch) (D : va_G) (cI cJ : ClassId) (q : Nat → Nat) (hq : CUQ q) (F : Nat) (I : Nat → Int32) (J : Nat → Int64) (a : Nat → Nat → Int32) (b : Nat → Nat → Int64) (v1 : Int32) (x0 : Int32) (h : f_X1_at F I J a b v1 = some x0) : Met l yX1_at wsX1_at ({ frames := 0, cells := 0, slots := 0, locals := 0 }) (CUPc D cI cJ q I J a b [.ref (q 3), .int v1]) (va_Qi (fun (r : Int32) (u : Unit) => r = x0) (fun (u : Unit) t => va_P D vwCl (CUW cI cJ q I J a b) t.heap) (CUA q)) 0 0 (CUA q) := by
  refine mt_of (cc := cX1_at) (maxL := 2) (ret := (some .int)) (by decide) rfl ?_
  intro p e s m args below meth c s₁ B0 hml hv R Q hR hQ
  obtain ⟨hargs, hP, hK, hN⟩ := hv
  have hx := B0.exec
  have hb := B0.bytes
  have hr := B0.returns
  have hts := atoms_spec (ws := wsX1_at) B0.pre
  have hown : s.vm.findClass RX1 = some m.cls := findClass_of_methodNamed B0.named
  have hlocks := B0.notSynchronized
  have hS : va_S (CUA q) s.heap s.heap [] := va_S.rf
  have hl := lv_entry ([.ref (q 3), .int v1]) (n := 2) (Nat.le_of_ble_eq_true rfl)
  rw [hargs, lg_entry_eq]
  rw [← hargs]
  generalize (lg_sl ([.ref (q 3), .int v1]) ++ List.replicate (2 - (lg_sl ([.ref (q 3), .int v1])).length) Slot.unset).toArray = ls at hl ⊢
  have hl : lv_has ls 2 [(0, .ref (q 3)), (1, .int v1)] := hl
  unfold f_X1_at at h
  refine lv_iload_n hx hb dX1_at_0 rfl (lv_at hl 1 rfl) ?_
  refine lv_if_lt (tgt := 21) hx hb dX1_at_1 (by decide) (fun c_1 => ?_) (fun c_1 => ?_)
  · have h := if_t c_1 h
    refine lv_iconst (v := 0) hx hb dX1_at_21 (by decide) ?_
    have hx0 := Option.some.inj h
    rw [hQ]
    exact W.iret (v := 0) hx hb hr (fun t ht hW => ⟨⟨0, (), rfl, hx0, by show va_P _ _ _ t.heap; rw [ht]; exact hP⟩, hS.F ht⟩) hS.2.2 dX1_at_22
  · have h := if_f c_1 h
    refine lv_iload_n hx hb dX1_at_4 rfl (lv_at hl 1 rfl) ?_
    refine lv_aload_n hx hb dX1_at_5 rfl (lv_at hl 0 rfl) ?_
    refine va_get (D := D) (ci := 1) (v := .int (I 7)) (C := RX1) (T := TX1) (N := 3) hx hb hts in_X1_at_X1 hown hK hP 3 rfl rfl 0 (by decide) (hts (.fieldLink RX1 18 "LearnedReasons$Learned" "size" "I") (by decide +kernel)) (fun _ h9 => h9) rfl dX1_at_6 ?_
    refine lv_icmp_ge (tgt := 21) hx hb dX1_at_9 (by decide) (fun c_2 => ?_) (fun c_2 => ?_)
    · have h := if_t c_2 h
      refine lv_iconst (v := 0) hx hb dX1_at_21 (by decide) ?_
      have hx0 := Option.some.inj h
      rw [hQ]
      exact W.iret (v := 0) hx hb hr (fun t ht hW => ⟨⟨0, (), rfl, hx0, by show va_P _ _ _ t.heap; rw [ht]; exact hP⟩, hS.F ht⟩) hS.2.2 dX1_at_22
    · have h := if_f c_2 h
      refine lv_aload_n hx hb dX1_at_12 rfl (lv_at hl 0 rfl) ?_
      refine va_get (D := D) (ci := 1) (v := .ref (q 13)) (C := RX1) (T := TX1) (N := 3) hx hb hts in_X1_at_X1 hown hK hP 3 rfl rfl 1 (by decide) (hts (.fieldLink RX1 11 "LearnedReasons$Learned" "clauses" "[I") (by decide +kernel)) (fun _ h9 => h9) rfl dX1_at_13 ?_
      refine lv_iload_n hx hb dX1_at_16 rfl (lv_at hl 1 rfl) ?_
      obtain ⟨g_3, h⟩ := gd_some h
      refine va_iald hx hb hK hP 13 0 rfl rfl g_3 dX1_at_17 ?_
      refine lv_goto (tgt := 22) hx hb dX1_at_18 (by decide) ?_
      have hx0 := Option.some.inj h
      rw [hQ]
      exact W.iret (v := (a 6) v1.toNatClampNeg) hx hb hr (fun t ht hW => ⟨⟨((a 6) v1.toNatClampNeg), (), rfl, hx0, by show va_P _ _ _ t.heap; rw [ht]; exact hP⟩, hS.F ht⟩) hS.2.2 dX1_at_22
theorem in_X4_learnedClause_X4 : ∀ w ∈ wsX40, w ∈ wsX4_learnedClause := by decide +kernel
set_option maxHeartbeats 4000000 in
set_option maxRecDepth 100000 in
theorem c_X4_learnedClause (l : Launch) (D : va_G) (cI cJ : ClassId) (q : Nat → Nat) (hq : CUQ q) (F : Nat) (I : Nat → Int32) (J : Nat → Int64) (a : Nat → Nat → Int32) (b : Nat → Nat → Int64) (v1 : Int32) (x0 : Int32) (h : f_X4_learnedClause F I J a b v1 = some x0) : Met l yX4_learnedClause wsX4_learnedClause ({ frames := 1, cells := 0, slots := 0, locals := 21 }) (CUPc D cI cJ q I J a b [.ref (q 5), .int v1]) (va_Qi (fun (r : Int32) (u : Unit) => r = x0) (fun (u : Unit) t => va_P D vwCl (CUW cI cJ q I J a b) t.heap) (CUA q)) 0 0 (CUA q) := by
  refine mt_of (cc := cX4_learnedClause) (maxL := 2) (ret := (some .int)) (by decide) rfl ?_
  intro p e s m args below meth c s₁ B0 hml hv R Q hR hQ
  obtain ⟨hargs, hP, hK, hN⟩ := hv
  have hx := B0.exec
  have hb := B0.bytes
  have hr := B0.returns
  have hts := atoms_spec (ws := wsX4_learnedClause) B0.pre
  have hown : s.vm.findClass RX4 = some m.cls := findClass_of_methodNamed B0.named
  have hlocks := B0.notSynchronized
  have hS : va_S (CUA q) s.heap s.heap [] := va_S.rf
  have hl := lv_entry ([.ref (q 5), .int v1]) (n := 2) (Nat.le_of_ble_eq_true rfl)
  rw [hargs, lg_entry_eq]
  rw [← hargs]
  generalize (lg_sl ([.ref (q 5), .int v1]) ++ List.replicate (2 - (lg_sl ([.ref (q 5), .int v1])).length) Slot.unset).toArray = ls at hl ⊢
  have hl : lv_has ls 2 [(0, .ref (q 5)), (1, .int v1)] := hl
  unfold f_X4_learnedClause at h
  refine lv_aload_n hx hb dX4_learnedClause_0 rfl (lv_at hl 0 rfl) ?_
  refine va_get (D := D) (ci := 4) (v := .ref (q 3)) (C := RX4) (T := TX4) (N := 9) hx hb hts in_X4_learnedClause_X4 hown hK hP 5 rfl rfl 2 (by decide) (hts (.fieldLink RX4 19 "LearnedReasons$Search" "learnedClauses" "LLearnedReasons$Learned;") (by decide +kernel)) (fun _ h9 => h9) rfl dX4_learnedClause_1 ?_
  refine lv_iload_n hx hb dX4_learnedClause_4 rfl (lv_at hl 1 rfl) ?_
  obtain ⟨x_1, hx_1, h⟩ := ob_some h
  refine va_calli (va_runV (As := [.int v1]) (rest := []) ⟨hx, hb, hml, hown, hts⟩ (c_X1_at l D cI cJ q hq F I J a b v1 x_1 hx_1) (cwV 1 hts gX4_learnedClause_X1_at rfl rfl rfl (by decide +kernel) (by rw [hR]; exact ⟨Nat.le_of_ble_eq_true rfl, Nat.le_of_ble_eq_true rfl⟩)) ⟨CUPc_blind, va_recv hK hP (ci := 1) (q0 := 3) rfl rfl, fun U hU hW => ⟨rfl, by rw [hU]; exact hP, va_K.moved hW.alike hK, va_Nw.warmM hW hN⟩⟩ rfl rfl hl.1 rfl (lv_room (Nat.le_of_ble_eq_true rfl)) dX4_learnedClause_5 ⟨Nat.zero_le _, Nat.zero_le _⟩) hS (fun _ _ h => h) (fun _ h => h) (fun r u t H1 locs ht hvm hw hB hz1 hk1 hS => ?_)
  obtain rfl := hw.symm
  rw [ht] at hB
  have hP : va_P D vwCl (CUW cI cJ q I J a b) H1 := hB
  clear hB hz1 hk1 ht hvm
  generalize H1 = H at hP hS ⊢
  have hx0 := Option.some.inj h
  rw [hQ]
  exact W.iret (v := x_1) hx hb hr (fun t ht hW => ⟨⟨x_1, (), rfl, hx0, by show va_P _ _ _ t.heap; rw [ht]; exact hP⟩, hS.F ht⟩) hS.2.2 dX4_learnedClause_8
set_option maxHeartbeats 4000000 in
set_option maxRecDepth 100000 in
theorem c_X6_placeOfBit (l : Launch) (F : Nat) (v0 : Int64) (v2 : Int32) (x0 : Int32) (h : f_X6_placeOfBit F v0 v2 = some x0) : Met l yX6_placeOfBit wsX6_placeOfBit ({ frames := 0, cells := 0, slots := 0, locals := 0 }) (va_Pc [.long v0, .int v2] (fun _ => True)) (va_Qi (fun (r : Int32) (u : Unit) => r = x0) (fun _ _ => True) (fun _ => False)) 0 0 (fun _ => False) := by
  refine mt_of (cc := cX6_placeOfBit) (maxL := 5) (ret := (some .int)) (by decide) rfl ?_
  intro p e s m args below meth c s₁ B0 hml hv R Q hR hQ
  obtain ⟨hargs, -⟩ := hv
  have hx := B0.exec
  have hb := B0.bytes
  have hr := B0.returns
  have hts := atoms_spec (ws := wsX6_placeOfBit) B0.pre
  have hown : s.vm.findClass RX6 = some m.cls := findClass_of_methodNamed B0.named
  have hlocks := B0.notSynchronized
  have hS : va_S (fun _ => False) s.heap s.heap [] := va_S.rf
  have hl := lv_entry ([.long v0, .int v2]) (n := 5) (Nat.le_of_ble_eq_true rfl)
  rw [hargs, lg_entry_eq]
  rw [← hargs]
  generalize (lg_sl ([.long v0, .int v2]) ++ List.replicate (5 - (lg_sl ([.long v0, .int v2])).length) Slot.unset).toArray = ls at hl ⊢
  have hl : lv_has ls 5 [(0, .long v0), (2, .int v2)] := hl
  unfold f_X6_placeOfBit at h
  have C5 : ∀ (n5 : Nat) (v0 : Int64) (v2 : Int32) (v3 : Int32) (v4 : Int32), k_X6_placeOfBit_5 F n5 v0 v2 v3 v4 = some x0 → ∀ (H : Heap) (locs : List Loc), va_S (fun _ => False) s.heap H locs → ∀ ls : Array Slot, lv_has ls 5 [(0, .long v0), (2, .int v2), (3, .int v3), (4, .int v4)] → W p l e R s m args below meth c H locs 0 0 Q (F0 m 5 ls []) := by
    intro n5
    induction n5 with
    | zero => intro v0 v2 v3 v4 h; rw [k_X6_placeOfBit_5] at h; cases h
    | succ n5 ih5 =>
      intro v0 v2 v3 v4 h H locs hS ls hl
      rw [k_X6_placeOfBit_5] at h
      refine lv_iload hx hb dX6_placeOfBit_5 (lv_at hl 3 rfl) ?_
      refine lv_bipush (v := 60) hx hb dX6_placeOfBit_7 (by decide) ?_
      refine lv_icmp_ge (tgt := 40) hx hb dX6_placeOfBit_9 (by decide) (fun c_1 => ?_) (fun c_1 => ?_)
      · have h := if_t c_1 h
        refine lv_iconst (v := (-1)) hx hb dX6_placeOfBit_40 (by decide) ?_
        have hx0 := Option.some.inj h
        rw [hQ]
        exact W.iret (v := (-1)) hx hb hr (fun t ht hW => ⟨⟨(-1), (), rfl, hx0, trivial⟩, hS.F ht⟩) hS.2.2 dX6_placeOfBit_41
      · have h := if_f c_1 h
        refine lv_lload_n hx hb dX6_placeOfBit_12 rfl (lv_at hl 0 rfl) ?_
        refine lv_iload hx hb dX6_placeOfBit_13 (lv_at hl 3 rfl) ?_
        refine lv_lshr hx hb dX6_placeOfBit_15 rfl ?_
        refine lv_lconst (v := 1) hx hb dX6_placeOfBit_16 (by decide) ?_
        refine lv_land hx hb dX6_placeOfBit_17 ?_
        refine lv_lconst (v := 1) hx hb dX6_placeOfBit_18 (by decide) ?_
        refine W.lcmp hx hb dX6_placeOfBit_19 ?_
        refine lv_if_ne (tgt := 34) hx hb dX6_placeOfBit_20 (by decide) (fun c_2 => ?_) (fun c_2 => ?_)
        · have h := if_f c_2 h
          refine lv_iinc (v := v4 + 1) (lv' := [(4, .int (v4 + 1)), (0, .long v0), (2, .int v2), (3, .int v3)]) hx hb dX6_placeOfBit_34 hl (k := 3) rfl rfl (by decide) rfl (fun ls hl => ?_)
          refine lv_goto (tgt := 5) hx hb dX6_placeOfBit_37 (by decide) ?_
          exact ih5 v0 v2 v3 (v4 + 1) h _ _ hS ls (lv_sub hl [1, 2, 3, 0] rfl)
        · have h := if_t c_2 h
          refine lv_iload_n hx hb dX6_placeOfBit_23 rfl (lv_at hl 2 rfl) ?_
          refine lv_iload_n hx hb dX6_placeOfBit_24 rfl (lv_at hl 1 rfl) ?_
          refine lv_icmp_ne (tgt := 31) hx hb dX6_placeOfBit_25 (by decide) (fun c_3 => ?_) (fun c_3 => ?_)
          · have h := if_f c_3 h
            refine lv_iinc (v := v3 + 1) (lv' := [(3, .int (v3 + 1)), (0, .long v0), (2, .int v2), (4, .int v4)]) hx hb dX6_placeOfBit_31 hl (k := 2) rfl rfl (by decide) rfl (fun ls hl => ?_)
            refine lv_iinc (v := v4 + 1) (lv' := [(4, .int (v4 + 1)), (3, .int (v3 + 1)), (0, .long v0), (2, .int v2)]) hx hb dX6_placeOfBit_34 hl (k := 3) rfl rfl (by decide) rfl (fun ls hl => ?_)
            refine lv_goto (tgt := 5) hx hb dX6_placeOfBit_37 (by decide) ?_
            exact ih5 v0 v2 (v3 + 1) (v4 + 1) h _ _ hS ls (lv_sub hl [2, 3, 1, 0] rfl)
          · have h := if_t c_3 h
            refine lv_iload hx hb dX6_placeOfBit_28 (lv_at hl 3 rfl) ?_
            have hx0 := Option.some.inj h
            rw [hQ]
            exact W.iret (v := v4) hx hb hr (fun t ht hW => ⟨⟨v4, (), rfl, hx0, trivial⟩, hS.F ht⟩) hS.2.2 dX6_placeOfBit_30
  refine lv_iconst (v := 0) hx hb dX6_placeOfBit_0 (by decide) ?_
  refine lv_istore_n (lv' := [(3, .int 0), (0, .long v0), (2, .int v2)]) hx hb dX6_placeOfBit_1 rfl hl (by decide) rfl (fun ls hl => ?_)
  refine lv_iconst (v := 0) hx hb dX6_placeOfBit_2 (by decide) ?_
  refine lv_istore (lv' := [(4, .int 0), (3, .int 0), (0, .long v0), (2, .int v2)]) hx hb dX6_placeOfBit_3 hl (by decide) rfl (fun ls hl => ?_)
  exact C5 F v0 v2 0 0 h _ _ hS ls (lv_sub hl [2, 3, 1, 0] rfl)
theorem in_X6_learned_X6 : ∀ w ∈ wsX60, w ∈ wsX6_learned := by decide +kernel
set_option maxHeartbeats 4000000 in
set_option maxRecDepth 100000 in
theorem c_X6_learned (l : Launch) (D : va_G) (cI cJ : ClassId) (q : Nat → Nat) (hq : CUQ q) (F : Nat) (I : Nat → Int32) (J : Nat → Int64) (a : Nat → Nat → Int32) (b : Nat → Nat → Int64) (v1 : Int32) (v2 : Int32) (x0 : Int32 × Int32 × Int32 × Int32 × Int32 × Int32 × Int32 × Int32 × Int32 × Int32 × Int32 × (Nat → Int32) × (Nat → Int32)) (h : f_X6_learned F I J a b v1 v2 = some x0) : Met l yX6_learned wsX6_learned ({ frames := 7, cells := 0, slots := 0, locals := 164 }) (CUPc D cI cJ q I J a b [.ref (q 0), .int v1, .int v2]) (va_Qi (fun (r : Int32) (u : Int32 × Int32 × Int32 × Int32 × Int32 × Int32 × Int32 × Int32 × Int32 × Int32 × (Nat → Int32) × (Nat → Int32)) => r = x0.1 ∧ u = x0.2) (fun (u : Int32 × Int32 × Int32 × Int32 × Int32 × Int32 × Int32 × Int32 × Int32 × Int32 × (Nat → Int32) × (Nat → Int32)) t => va_P D vwCl (CUW cI cJ q (fu (fu (fu (fu (fu (fu (fu (fu (fu (fu I 7 u.1) 8 u.2.1) 9 u.2.2.1) 10 u.2.2.2.1) 11 u.2.2.2.2.1) 12 u.2.2.2.2.2.1) 13 u.2.2.2.2.2.2.1) 14 u.2.2.2.2.2.2.2.1) 15 u.2.2.2.2.2.2.2.2.1) 16 u.2.2.2.2.2.2.2.2.2.1) J (fu (fu a 6 u.2.2.2.2.2.2.2.2.2.2.1) 7 u.2.2.2.2.2.2.2.2.2.2.2) b) t.heap) (CUA q)) 0 0 (CUA q) := by
  refine mt_of (cc := cX6_learned) (maxL := 4) (ret := (some .int)) (by decide) rfl ?_
  intro p e s m args below meth c s₁ B0 hml hv R Q hR hQ
  obtain ⟨hargs, hP, hK, hN⟩ := hv
  have hx := B0.exec
  have hb := B0.bytes
  have hr := B0.returns
  have hts := atoms_spec (ws := wsX6_learned) B0.pre
  have hown : s.vm.findClass RX6 = some m.cls := findClass_of_methodNamed B0.named
  have hlocks := B0.notSynchronized
  have hS : va_S (CUA q) s.heap s.heap [] := va_S.rf
  have hl := lv_entry ([.ref (q 0), .int v1, .int v2]) (n := 4) (Nat.le_of_ble_eq_true rfl)
  rw [hargs, lg_entry_eq]
  rw [← hargs]
  generalize (lg_sl ([.ref (q 0), .int v1, .int v2]) ++ List.replicate (4 - (lg_sl ([.ref (q 0), .int v1, .int v2])).length) Slot.unset).toArray = ls at hl ⊢
  have hl : lv_has ls 4 [(0, .ref (q 0)), (1, .int v1), (2, .int v2)] := hl
  unfold f_X6_learned at h
  refine lv_aload_n hx hb dX6_learned_0 rfl (lv_at hl 0 rfl) ?_
  refine va_get (D := D) (ci := 6) (v := .ref (q 5)) (C := RX6) (T := TX6) (N := 9) hx hb hts in_X6_learned_X6 hown hK hP 0 rfl rfl 3 (by decide) (hts (.fieldLink RX6 40 "LearnedReasons" "theSearch" "LLearnedReasons$Search;") (by decide +kernel)) (fun _ h9 => h9) rfl dX6_learned_1 ?_
  obtain ⟨x_1, hx_1, h⟩ := ob_some h
  refine va_callv (va_runV (As := []) (rest := []) ⟨hx, hb, hml, hown, hts⟩ (c_X4_run l D cI cJ q hq F I J a b x_1 hx_1) (cwV 0 hts gX6_learned_X4_run rfl rfl rfl (by decide +kernel) (by rw [hR]; exact ⟨Nat.le_of_ble_eq_true rfl, Nat.le_of_ble_eq_true rfl⟩)) ⟨CUPc_blind, va_recv hK hP (ci := 4) (q0 := 5) rfl rfl, fun U hU hW => ⟨rfl, by rw [hU]; exact hP, va_K.moved hW.alike hK, va_Nw.warmM hW hN⟩⟩ rfl rfl hl.1 rfl (lv_room (Nat.le_of_ble_eq_true rfl)) dX6_learned_4 ⟨Nat.zero_le _, Nat.zero_le _⟩) hS (fun _ _ h => h) (fun _ h => h) (fun u t H1 locs ht hvm hw hB hz1 hk1 hS => ?_)
  obtain rfl := hw.symm
  rw [ht] at hB
  have hP : va_P D vwCl (CUW cI cJ q (fu (fu (fu (fu (fu (fu (fu (fu (fu (fu I 7 x_1.1) 8 x_1.2.1) 9 x_1.2.2.1) 10 x_1.2.2.2.1) 11 x_1.2.2.2.2.1) 12 x_1.2.2.2.2.2.1) 13 x_1.2.2.2.2.2.2.1) 14 x_1.2.2.2.2.2.2.2.1) 15 x_1.2.2.2.2.2.2.2.2.1) 16 x_1.2.2.2.2.2.2.2.2.2.1) J (fu (fu a 6 x_1.2.2.2.2.2.2.2.2.2.2.1) 7 x_1.2.2.2.2.2.2.2.2.2.2.2) b) H1 := hB
  clear hB hz1 hk1 ht hvm
  generalize H1 = H at hP hS ⊢
  refine lv_iload_n hx hb dX6_learned_7 rfl (lv_at hl 1 rfl) ?_
  refine lv_if_lt (tgt := 22) hx hb dX6_learned_8 (by decide) (fun c_2 => ?_) (fun c_2 => ?_)
  · have h := if_t c_2 h
    refine lv_iconst (v := (-1)) hx hb dX6_learned_22 (by decide) ?_
    have hx0 := Option.some.inj h
    rw [hQ]
    exact W.iret (v := (-1)) hx hb hr (fun t ht hW => ⟨⟨(-1), (x_1.1, x_1.2.1, x_1.2.2.1, x_1.2.2.2.1, x_1.2.2.2.2.1, x_1.2.2.2.2.2.1, x_1.2.2.2.2.2.2.1, x_1.2.2.2.2.2.2.2.1, x_1.2.2.2.2.2.2.2.2.1, x_1.2.2.2.2.2.2.2.2.2.1, x_1.2.2.2.2.2.2.2.2.2.2.1, x_1.2.2.2.2.2.2.2.2.2.2.2), rfl, ⟨congrArg (fun z => z.1) hx0, congrArg (fun z => z.2) hx0⟩, by show va_P _ _ _ t.heap; rw [ht]; exact hP⟩, hS.F ht⟩) hS.2.2 dX6_learned_23
  · have h := if_f c_2 h
    refine lv_iload_n hx hb dX6_learned_11 rfl (lv_at hl 1 rfl) ?_
    refine lv_aload_n hx hb dX6_learned_12 rfl (lv_at hl 0 rfl) ?_
    refine va_get (D := D) (ci := 6) (v := .ref (q 5)) (C := RX6) (T := TX6) (N := 9) hx hb hts in_X6_learned_X6 hown hK hP 0 rfl rfl 3 (by decide) (hts (.fieldLink RX6 40 "LearnedReasons" "theSearch" "LLearnedReasons$Search;") (by decide +kernel)) (fun _ h9 => h9) rfl dX6_learned_13 ?_
    obtain ⟨x_3, hx_3, h⟩ := ob_some h
    refine va_calli (va_runV (As := []) (rest := [.int v1]) ⟨hx, hb, hml, hown, hts⟩ (c_X4_learnedClauses l D cI cJ q hq F (fu (fu (fu (fu (fu (fu (fu (fu (fu (fu I 7 x_1.1) 8 x_1.2.1) 9 x_1.2.2.1) 10 x_1.2.2.2.1) 11 x_1.2.2.2.2.1) 12 x_1.2.2.2.2.2.1) 13 x_1.2.2.2.2.2.2.1) 14 x_1.2.2.2.2.2.2.2.1) 15 x_1.2.2.2.2.2.2.2.2.1) 16 x_1.2.2.2.2.2.2.2.2.2.1) J (fu (fu a 6 x_1.2.2.2.2.2.2.2.2.2.2.1) 7 x_1.2.2.2.2.2.2.2.2.2.2.2) b x_3 hx_3) (cwV 0 hts gX6_learned_X4_learnedClauses rfl rfl rfl (by decide +kernel) (by rw [hR]; exact ⟨Nat.le_of_ble_eq_true rfl, Nat.le_of_ble_eq_true rfl⟩)) ⟨CUPc_blind, va_recv hK hP (ci := 4) (q0 := 5) rfl rfl, fun U hU hW => ⟨rfl, by rw [hU]; exact hP, va_K.moved hW.alike hK, va_Nw.warmM hW hN⟩⟩ rfl rfl hl.1 rfl (lv_room (Nat.le_of_ble_eq_true rfl)) dX6_learned_16 ⟨Nat.zero_le _, Nat.zero_le _⟩) hS (fun _ _ h => h) (fun _ h => h) (fun r u t H1 locs ht hvm hw hB hz1 hk1 hS => ?_)
    obtain rfl := hw.symm
    rw [ht] at hB
    have hP : va_P D vwCl (CUW cI cJ q (fu (fu (fu (fu (fu (fu (fu (fu (fu (fu I 7 x_1.1) 8 x_1.2.1) 9 x_1.2.2.1) 10 x_1.2.2.2.1) 11 x_1.2.2.2.2.1) 12 x_1.2.2.2.2.2.1) 13 x_1.2.2.2.2.2.2.1) 14 x_1.2.2.2.2.2.2.2.1) 15 x_1.2.2.2.2.2.2.2.2.1) 16 x_1.2.2.2.2.2.2.2.2.2.1) J (fu (fu a 6 x_1.2.2.2.2.2.2.2.2.2.2.1) 7 x_1.2.2.2.2.2.2.2.2.2.2.2) b) H1 := hB
    clear hB hz1 hk1 ht hvm
    generalize H1 = H at hP hS ⊢
    refine lv_icmp_lt (tgt := 24) hx hb dX6_learned_19 (by decide) (fun c_4 => ?_) (fun c_4 => ?_)
    · have h := if_t c_4 h
      refine lv_aload_n hx hb dX6_learned_24 rfl (lv_at hl 0 rfl) ?_
      refine va_get (D := D) (ci := 6) (v := .ref (q 5)) (C := RX6) (T := TX6) (N := 9) hx hb hts in_X6_learned_X6 hown hK hP 0 rfl rfl 3 (by decide) (hts (.fieldLink RX6 40 "LearnedReasons" "theSearch" "LLearnedReasons$Search;") (by decide +kernel)) (fun _ h9 => h9) rfl dX6_learned_25 ?_
      refine lv_iload_n hx hb dX6_learned_28 rfl (lv_at hl 1 rfl) ?_
      obtain ⟨x_5, hx_5, h⟩ := ob_some h
      refine va_calli (va_runV (As := [.int v1]) (rest := []) ⟨hx, hb, hml, hown, hts⟩ (c_X4_learnedClause l D cI cJ q hq F (fu (fu (fu (fu (fu (fu (fu (fu (fu (fu I 7 x_1.1) 8 x_1.2.1) 9 x_1.2.2.1) 10 x_1.2.2.2.1) 11 x_1.2.2.2.2.1) 12 x_1.2.2.2.2.2.1) 13 x_1.2.2.2.2.2.2.1) 14 x_1.2.2.2.2.2.2.2.1) 15 x_1.2.2.2.2.2.2.2.2.1) 16 x_1.2.2.2.2.2.2.2.2.2.1) J (fu (fu a 6 x_1.2.2.2.2.2.2.2.2.2.2.1) 7 x_1.2.2.2.2.2.2.2.2.2.2.2) b v1 x_5 hx_5) (cwV 1 hts gX6_learned_X4_learnedClause rfl rfl rfl (by decide +kernel) (by rw [hR]; exact ⟨Nat.le_of_ble_eq_true rfl, Nat.le_of_ble_eq_true rfl⟩)) ⟨CUPc_blind, va_recv hK hP (ci := 4) (q0 := 5) rfl rfl, fun U hU hW => ⟨rfl, by rw [hU]; exact hP, va_K.moved hW.alike hK, va_Nw.warmM hW hN⟩⟩ rfl rfl hl.1 rfl (lv_room (Nat.le_of_ble_eq_true rfl)) dX6_learned_29 ⟨Nat.zero_le _, Nat.zero_le _⟩) hS (fun _ _ h => h) (fun _ h => h) (fun r u t H1 locs ht hvm hw hB hz1 hk1 hS => ?_)
      obtain rfl := hw.symm
      rw [ht] at hB
      have hP : va_P D vwCl (CUW cI cJ q (fu (fu (fu (fu (fu (fu (fu (fu (fu (fu I 7 x_1.1) 8 x_1.2.1) 9 x_1.2.2.1) 10 x_1.2.2.2.1) 11 x_1.2.2.2.2.1) 12 x_1.2.2.2.2.2.1) 13 x_1.2.2.2.2.2.2.1) 14 x_1.2.2.2.2.2.2.2.1) 15 x_1.2.2.2.2.2.2.2.2.1) 16 x_1.2.2.2.2.2.2.2.2.2.1) J (fu (fu a 6 x_1.2.2.2.2.2.2.2.2.2.2.1) 7 x_1.2.2.2.2.2.2.2.2.2.2.2) b) H1 := hB
      clear hB hz1 hk1 ht hvm
      generalize H1 = H at hP hS ⊢
      refine lv_i2l hx hb dX6_learned_32 rfl ?_
      refine lv_iload_n hx hb dX6_learned_33 rfl (lv_at hl 2 rfl) ?_
      obtain ⟨x_6, hx_6, h⟩ := ob_some h
      refine va_calli (va_runS (As := [.long x_5.toInt64, .int v2]) (rest := []) ⟨hx, hb, hml, hown, hts⟩ (c_X6_placeOfBit l F x_5.toInt64 v2 x_6 hx_6) (va_cwS 2 hts gX6_learned_X6_placeOfBit rfl rfl rfl (by decide +kernel) (by rw [hR]; exact ⟨Nat.le_of_ble_eq_true rfl, Nat.le_of_ble_eq_true rfl⟩)) ⟨fun _ _ _ _ h => h, fun U hU hW => ⟨rfl, trivial⟩⟩ rfl rfl hl.1 rfl (lv_room (Nat.le_of_ble_eq_true rfl)) dX6_learned_34 ⟨Nat.zero_le _, Nat.zero_le _⟩) hS (fun _ _ h => h.elim) (fun _ h => h.elim) (fun r u t H1 locs ht hvm hw hB hz1 hk1 hS => ?_)
      obtain rfl := hw.symm
      have hP := hP.kept (fun k x hx => hk1 x.1 (hP k x hx).lt (fun h => h))
      clear hB hz1 hk1 ht hvm
      generalize H1 = H at hP hS ⊢
      refine lv_istore_n (lv' := [(3, .int x_6), (0, .ref (q 0)), (1, .int v1), (2, .int v2)]) hx hb dX6_learned_37 rfl hl (by decide) rfl (fun ls hl => ?_)
      refine lv_iload_n hx hb dX6_learned_38 rfl (lv_at hl 0 rfl) ?_
      refine lv_if_ge (tgt := 46) hx hb dX6_learned_39 (by decide) (fun c_7 => ?_) (fun c_7 => ?_)
      · have h := if_t c_7 h
        refine lv_iconst (v := 2) hx hb dX6_learned_46 (by decide) ?_
        refine lv_iload_n hx hb dX6_learned_47 rfl (lv_at hl 0 rfl) ?_
        refine lv_imul hx hb dX6_learned_48 ?_
        have hx0 := Option.some.inj h
        rw [hQ]
        exact W.iret (v := (2 : Int32) * x_6) hx hb hr (fun t ht hW => ⟨⟨((2 : Int32) * x_6), (x_1.1, x_1.2.1, x_1.2.2.1, x_1.2.2.2.1, x_1.2.2.2.2.1, x_1.2.2.2.2.2.1, x_1.2.2.2.2.2.2.1, x_1.2.2.2.2.2.2.2.1, x_1.2.2.2.2.2.2.2.2.1, x_1.2.2.2.2.2.2.2.2.2.1, x_1.2.2.2.2.2.2.2.2.2.2.1, x_1.2.2.2.2.2.2.2.2.2.2.2), rfl, ⟨congrArg (fun z => z.1) hx0, congrArg (fun z => z.2) hx0⟩, by show va_P _ _ _ t.heap; rw [ht]; exact hP⟩, hS.F ht⟩) hS.2.2 dX6_learned_49
      · have h := if_f c_7 h
        refine lv_iconst (v := (-1)) hx hb dX6_learned_42 (by decide) ?_
        refine lv_goto (tgt := 49) hx hb dX6_learned_43 (by decide) ?_
        have hx0 := Option.some.inj h
        rw [hQ]
        exact W.iret (v := (-1)) hx hb hr (fun t ht hW => ⟨⟨(-1), (x_1.1, x_1.2.1, x_1.2.2.1, x_1.2.2.2.1, x_1.2.2.2.2.1, x_1.2.2.2.2.2.1, x_1.2.2.2.2.2.2.1, x_1.2.2.2.2.2.2.2.1, x_1.2.2.2.2.2.2.2.2.1, x_1.2.2.2.2.2.2.2.2.2.1, x_1.2.2.2.2.2.2.2.2.2.2.1, x_1.2.2.2.2.2.2.2.2.2.2.2), rfl, ⟨congrArg (fun z => z.1) hx0, congrArg (fun z => z.2) hx0⟩, by show va_P _ _ _ t.heap; rw [ht]; exact hP⟩, hS.F ht⟩) hS.2.2 dX6_learned_49
    · have h := if_f c_4 h
      refine lv_iconst (v := (-1)) hx hb dX6_learned_22 (by decide) ?_
      have hx0 := Option.some.inj h
      rw [hQ]
      exact W.iret (v := (-1)) hx hb hr (fun t ht hW => ⟨⟨(-1), (x_1.1, x_1.2.1, x_1.2.2.1, x_1.2.2.2.1, x_1.2.2.2.2.1, x_1.2.2.2.2.2.1, x_1.2.2.2.2.2.2.1, x_1.2.2.2.2.2.2.2.1, x_1.2.2.2.2.2.2.2.2.1, x_1.2.2.2.2.2.2.2.2.2.1, x_1.2.2.2.2.2.2.2.2.2.2.1, x_1.2.2.2.2.2.2.2.2.2.2.2), rfl, ⟨congrArg (fun z => z.1) hx0, congrArg (fun z => z.2) hx0⟩, by show va_P _ _ _ t.heap; rw [ht]; exact hP⟩, hS.F ht⟩) hS.2.2 dX6_learned_23
theorem in_X5_isUnread_X5 : ∀ w ∈ wsX50, w ∈ wsX5_isUnread := by decide +kernel
set_option maxHeartbeats 4000000 in
set_option maxRecDepth 100000 in
theorem c_X5_isUnread (l : Launch) (D : va_G) (cI cJ : ClassId) (q : Nat → Nat) (hq : CUQ q) (F : Nat) (I : Nat → Int32) (J : Nat → Int64) (a : Nat → Nat → Int32) (b : Nat → Nat → Int64) (v1 : Int32) (x0 : Int32) (h : f_X5_isUnread F I J a b v1 = some x0) : Met l yX5_isUnread wsX5_isUnread ({ frames := 1, cells := 0, slots := 0, locals := 21 }) (CUPc D cI cJ q I J a b [.ref (q 1), .int v1]) (va_Qi (fun (r : Int32) (u : Unit) => r = x0) (fun (u : Unit) t => va_P D vwCl (CUW cI cJ q I J a b) t.heap) (CUA q)) 0 0 (CUA q) := by
  refine mt_of (cc := cX5_isUnread) (maxL := 2) (ret := (some .boolean)) (by decide) rfl ?_
  intro p e s m args below meth c s₁ B0 hml hv R Q hR hQ
  obtain ⟨hargs, hP, hK, hN⟩ := hv
  have hx := B0.exec
  have hb := B0.bytes
  have hr := B0.returns
  have hts := atoms_spec (ws := wsX5_isUnread) B0.pre
  have hown : s.vm.findClass RX5 = some m.cls := findClass_of_methodNamed B0.named
  have hlocks := B0.notSynchronized
  have hS : va_S (CUA q) s.heap s.heap [] := va_S.rf
  have hl := lv_entry ([.ref (q 1), .int v1]) (n := 2) (Nat.le_of_ble_eq_true rfl)
  rw [hargs, lg_entry_eq]
  rw [← hargs]
  generalize (lg_sl ([.ref (q 1), .int v1]) ++ List.replicate (2 - (lg_sl ([.ref (q 1), .int v1])).length) Slot.unset).toArray = ls at hl ⊢
  have hl : lv_has ls 2 [(0, .ref (q 1)), (1, .int v1)] := hl
  unfold f_X5_isUnread at h
  refine lv_aload_n hx hb dX5_isUnread_0 rfl (lv_at hl 0 rfl) ?_
  refine lv_iload_n hx hb dX5_isUnread_1 rfl (lv_at hl 1 rfl) ?_
  obtain ⟨x_1, hx_1, h⟩ := ob_some h
  refine va_calli (va_runV (As := [.int v1]) (rest := []) ⟨hx, hb, hml, hown, hts⟩ (c_X5_stands l D cI cJ q hq F I J a b v1 x_1 hx_1) (cwV 1 hts gX5_isUnread_X5_stands rfl rfl rfl (by decide +kernel) (by rw [hR]; exact ⟨Nat.le_of_ble_eq_true rfl, Nat.le_of_ble_eq_true rfl⟩)) ⟨CUPc_blind, va_recv hK hP (ci := 5) (q0 := 1) rfl rfl, fun U hU hW => ⟨rfl, by rw [hU]; exact hP, va_K.moved hW.alike hK, va_Nw.warmM hW hN⟩⟩ rfl rfl hl.1 rfl (lv_room (Nat.le_of_ble_eq_true rfl)) dX5_isUnread_2 ⟨Nat.zero_le _, Nat.zero_le _⟩) hS (fun _ _ h => h) (fun _ h => h) (fun r u t H1 locs ht hvm hw hB hz1 hk1 hS => ?_)
  obtain rfl := hw.symm
  rw [ht] at hB
  have hP : va_P D vwCl (CUW cI cJ q I J a b) H1 := hB
  clear hB hz1 hk1 ht hvm
  generalize H1 = H at hP hS ⊢
  refine lv_if_eq (tgt := 25) hx hb dX5_isUnread_5 (by decide) (fun c_2 => ?_) (fun c_2 => ?_)
  · have h := if_t c_2 h
    refine lv_iconst (v := 0) hx hb dX5_isUnread_25 (by decide) ?_
    have hx0 := Option.some.inj h
    rw [hQ]
    exact W.zret (v := 0) hx hb hr (rfl) (fun t ht hW => ⟨⟨0, (), rfl, hx0, by show va_P _ _ _ t.heap; rw [ht]; exact hP⟩, hS.F ht⟩) hS.2.2 dX5_isUnread_26
  · have h := if_f c_2 h
    refine lv_aload_n hx hb dX5_isUnread_8 rfl (lv_at hl 0 rfl) ?_
    refine va_get (D := D) (ci := 5) (v := .long (J 2)) (C := RX5) (T := TX5) (N := 9) hx hb hts in_X5_isUnread_X5 hown hK hP 1 rfl rfl 4 (by decide) (hts (.fieldLink RX5 32 "LearnedReasons$Things" "unread" "J") (by decide +kernel)) (fun _ h9 => h9) rfl dX5_isUnread_9 ?_
    refine lv_iload_n hx hb dX5_isUnread_12 rfl (lv_at hl 1 rfl) ?_
    refine lv_lshr hx hb dX5_isUnread_13 rfl ?_
    refine lv_lconst (v := 1) hx hb dX5_isUnread_14 (by decide) ?_
    refine lv_land hx hb dX5_isUnread_15 ?_
    refine lv_lconst (v := 1) hx hb dX5_isUnread_16 (by decide) ?_
    refine W.lcmp hx hb dX5_isUnread_17 ?_
    refine lv_if_ne (tgt := 25) hx hb dX5_isUnread_18 (by decide) (fun c_3 => ?_) (fun c_3 => ?_)
    · have h := if_f c_3 h
      refine lv_iconst (v := 0) hx hb dX5_isUnread_25 (by decide) ?_
      have hx0 := Option.some.inj h
      rw [hQ]
      exact W.zret (v := 0) hx hb hr (rfl) (fun t ht hW => ⟨⟨0, (), rfl, hx0, by show va_P _ _ _ t.heap; rw [ht]; exact hP⟩, hS.F ht⟩) hS.2.2 dX5_isUnread_26
    · have h := if_t c_3 h
      refine lv_iconst (v := 1) hx hb dX5_isUnread_21 (by decide) ?_
      refine lv_goto (tgt := 26) hx hb dX5_isUnread_22 (by decide) ?_
      have hx0 := Option.some.inj h
      rw [hQ]
      exact W.zret (v := 1) hx hb hr (rfl) (fun t ht hW => ⟨⟨1, (), rfl, hx0, by show va_P _ _ _ t.heap; rw [ht]; exact hP⟩, hS.F ht⟩) hS.2.2 dX5_isUnread_26
set_option maxHeartbeats 4000000 in
set_option maxRecDepth 100000 in
theorem c_X3_widen_c17 (l : Launch) (D : va_G) (cI cJ : ClassId) (q : Nat → Nat) (hq : CUQ q) (F : Nat) (I : Nat → Int32) (J : Nat → Int64) (a : Nat → Nat → Int32) (b : Nat → Nat → Int64) (v1 : Int32) (v2 : Int32) (x0 : (Nat → Int32)) (h : f_X3_widen_c17 F I J a b v1 v2 = some x0) : Met l yX3_widen wsX3_widen ({ frames := 0, cells := 0, slots := 0, locals := 0 }) (CUPc D cI cJ q I J a b [.ref (q 17), .int v1, .int v2]) (va_Qv (fun (u : (Nat → Int32)) => u = x0) (fun (u : (Nat → Int32)) t => va_P D vwCl (CUW cI cJ q I J (fu a 9 u) b) t.heap) (CUA q)) 0 0 (CUA q) := by
  refine mt_of (cc := cX3_widen) (maxL := 5) (ret := none) (by decide) rfl ?_
  intro p e s m args below meth c s₁ B0 hml hv R Q hR hQ
  obtain ⟨hargs, hP, hK, hN⟩ := hv
  have hx := B0.exec
  have hb := B0.bytes
  have hr := B0.returns
  have hts := atoms_spec (ws := wsX3_widen) B0.pre
  have hown : s.vm.findClass RX3 = some m.cls := findClass_of_methodNamed B0.named
  have hlocks := B0.notSynchronized
  have hS : va_S (CUA q) s.heap s.heap [] := va_S.rf
  have hl := lv_entry ([.ref (q 17), .int v1, .int v2]) (n := 5) (Nat.le_of_ble_eq_true rfl)
  rw [hargs, lg_entry_eq]
  rw [← hargs]
  generalize (lg_sl ([.ref (q 17), .int v1, .int v2]) ++ List.replicate (5 - (lg_sl ([.ref (q 17), .int v1, .int v2])).length) Slot.unset).toArray = ls at hl ⊢
  have hl : lv_has ls 5 [(0, .ref (q 17)), (1, .int v1), (2, .int v2)] := hl
  unfold f_X3_widen_c17 at h
  have C7 : ∀ (n7 : Nat) (v2 : Int32) (v3 : Int32) (v4 : Int32) (a9 : Nat → Int32), k_X3_widen_c17_7 F I J a b n7 v2 v3 v4 a9 = some x0 → ∀ (H : Heap) (locs : List Loc), va_P D vwCl (CUW cI cJ q I J (fu a 9 a9) b) H → va_S (CUA q) s.heap H locs → ∀ ls : Array Slot, lv_has ls 5 [(0, .ref (q 17)), (2, .int v2), (3, .int v3), (4, .int v4)] → W p l e R s m args below meth c H locs 0 0 Q (F0 m 7 ls []) := by
    intro n7
    induction n7 with
    | zero => intro v2 v3 v4 a9 h; rw [k_X3_widen_c17_7] at h; cases h
    | succ n7 ih7 =>
      intro v2 v3 v4 a9 h H locs hP hS ls hl
      rw [k_X3_widen_c17_7] at h
      refine lv_iload hx hb dX3_widen_7 (lv_at hl 3 rfl) ?_
      refine lv_iload_n hx hb dX3_widen_9 rfl (lv_at hl 2 rfl) ?_
      refine lv_icmp_ge (tgt := 31) hx hb dX3_widen_10 (by decide) (fun c_1 => ?_) (fun c_1 => ?_)
      · have h := if_t c_1 h
        have hx0 := Option.some.inj h
        rw [hQ]
        exact W.vret hx hb hr (fun t ht hW => ⟨⟨a9, rfl, hx0, by show va_P _ _ _ t.heap; rw [ht]; exact hP⟩, hS.F ht⟩) hS.2.2 dX3_widen_31
      · have h := if_f c_1 h
        refine lv_aload_n hx hb dX3_widen_13 rfl (lv_at hl 0 rfl) ?_
        refine lv_iload hx hb dX3_widen_14 (lv_at hl 3 rfl) ?_
        refine lv_iload_n hx hb dX3_widen_16 rfl (lv_at hl 2 rfl) ?_
        refine lv_ior hx hb dX3_widen_17 ?_
        refine lv_aload_n hx hb dX3_widen_18 rfl (lv_at hl 0 rfl) ?_
        refine lv_iload hx hb dX3_widen_19 (lv_at hl 3 rfl) ?_
        obtain ⟨g_2, h⟩ := gd_some h
        refine va_iald hx hb hK hP 17 0 rfl rfl g_2 dX3_widen_21 ?_
        refine lv_iload_n hx hb dX3_widen_22 rfl (lv_at hl 1 rfl) ?_
        refine lv_iadd hx hb dX3_widen_23 ?_
        obtain ⟨g_3, h⟩ := gd_some h
        refine va_iast hx hb hK hP (CUW_D hq) hS 17 0 rfl rfl g_3 dX3_widen_24 (fun H locs hP _ hS => ?_)
        have hP : va_P D vwCl (CUW cI cJ q I J (fu a 9 (upd a9 (v4 ||| v3).toNatClampNeg ((a9 v4.toNatClampNeg) + v2))) b) H := hP
        refine lv_iinc (v := v4 + 1) (lv' := [(4, .int (v4 + 1)), (0, .ref (q 17)), (2, .int v2), (3, .int v3)]) hx hb dX3_widen_25 hl (k := 3) rfl rfl (by decide) rfl (fun ls hl => ?_)
        refine lv_goto (tgt := 7) hx hb dX3_widen_28 (by decide) ?_
        exact ih7 v2 v3 (v4 + 1) (upd a9 (v4 ||| v3).toNatClampNeg ((a9 v4.toNatClampNeg) + v2)) h _ _ hP hS ls (lv_sub hl [1, 2, 3, 0] rfl)
  refine lv_iconst (v := 1) hx hb dX3_widen_0 (by decide) ?_
  refine lv_iload_n hx hb dX3_widen_1 rfl (lv_at hl 1 rfl) ?_
  refine lv_ishl hx hb dX3_widen_2 ?_
  refine lv_topi (fun v_4 ev_4 => ?_)
  have h := nmI_at ev_4 h
  refine lv_istore_n (lv' := [(3, .int v_4), (0, .ref (q 17)), (1, .int v1), (2, .int v2)]) hx hb dX3_widen_3 rfl hl (by decide) rfl (fun ls hl => ?_)
  refine lv_iconst (v := 0) hx hb dX3_widen_4 (by decide) ?_
  refine lv_istore (lv' := [(4, .int 0), (3, .int v_4), (0, .ref (q 17)), (1, .int v1), (2, .int v2)]) hx hb dX3_widen_5 hl (by decide) rfl (fun ls hl => ?_)
  exact C7 F v2 v_4 0 (a 9) h _ _ hP hS ls (lv_sub hl [2, 4, 1, 0] rfl)
set_option maxHeartbeats 4000000 in
set_option maxRecDepth 100000 in
theorem c_X3_widen_c18 (l : Launch) (D : va_G) (cI cJ : ClassId) (q : Nat → Nat) (hq : CUQ q) (F : Nat) (I : Nat → Int32) (J : Nat → Int64) (a : Nat → Nat → Int32) (b : Nat → Nat → Int64) (v1 : Int32) (v2 : Int32) (x0 : (Nat → Int32)) (h : f_X3_widen_c18 F I J a b v1 v2 = some x0) : Met l yX3_widen wsX3_widen ({ frames := 0, cells := 0, slots := 0, locals := 0 }) (CUPc D cI cJ q I J a b [.ref (q 18), .int v1, .int v2]) (va_Qv (fun (u : (Nat → Int32)) => u = x0) (fun (u : (Nat → Int32)) t => va_P D vwCl (CUW cI cJ q I J (fu a 10 u) b) t.heap) (CUA q)) 0 0 (CUA q) := by
  refine mt_of (cc := cX3_widen) (maxL := 5) (ret := none) (by decide) rfl ?_
  intro p e s m args below meth c s₁ B0 hml hv R Q hR hQ
  obtain ⟨hargs, hP, hK, hN⟩ := hv
  have hx := B0.exec
  have hb := B0.bytes
  have hr := B0.returns
  have hts := atoms_spec (ws := wsX3_widen) B0.pre
  have hown : s.vm.findClass RX3 = some m.cls := findClass_of_methodNamed B0.named
  have hlocks := B0.notSynchronized
  have hS : va_S (CUA q) s.heap s.heap [] := va_S.rf
  have hl := lv_entry ([.ref (q 18), .int v1, .int v2]) (n := 5) (Nat.le_of_ble_eq_true rfl)
  rw [hargs, lg_entry_eq]
  rw [← hargs]
  generalize (lg_sl ([.ref (q 18), .int v1, .int v2]) ++ List.replicate (5 - (lg_sl ([.ref (q 18), .int v1, .int v2])).length) Slot.unset).toArray = ls at hl ⊢
  have hl : lv_has ls 5 [(0, .ref (q 18)), (1, .int v1), (2, .int v2)] := hl
  unfold f_X3_widen_c18 at h
  have C7 : ∀ (n7 : Nat) (v2 : Int32) (v3 : Int32) (v4 : Int32) (a10 : Nat → Int32), k_X3_widen_c18_7 F I J a b n7 v2 v3 v4 a10 = some x0 → ∀ (H : Heap) (locs : List Loc), va_P D vwCl (CUW cI cJ q I J (fu a 10 a10) b) H → va_S (CUA q) s.heap H locs → ∀ ls : Array Slot, lv_has ls 5 [(0, .ref (q 18)), (2, .int v2), (3, .int v3), (4, .int v4)] → W p l e R s m args below meth c H locs 0 0 Q (F0 m 7 ls []) := by
    intro n7
    induction n7 with
    | zero => intro v2 v3 v4 a10 h; rw [k_X3_widen_c18_7] at h; cases h
    | succ n7 ih7 =>
      intro v2 v3 v4 a10 h H locs hP hS ls hl
      rw [k_X3_widen_c18_7] at h
      refine lv_iload hx hb dX3_widen_7 (lv_at hl 3 rfl) ?_
      refine lv_iload_n hx hb dX3_widen_9 rfl (lv_at hl 2 rfl) ?_
      refine lv_icmp_ge (tgt := 31) hx hb dX3_widen_10 (by decide) (fun c_1 => ?_) (fun c_1 => ?_)
      · have h := if_t c_1 h
        have hx0 := Option.some.inj h
        rw [hQ]
        exact W.vret hx hb hr (fun t ht hW => ⟨⟨a10, rfl, hx0, by show va_P _ _ _ t.heap; rw [ht]; exact hP⟩, hS.F ht⟩) hS.2.2 dX3_widen_31
      · have h := if_f c_1 h
        refine lv_aload_n hx hb dX3_widen_13 rfl (lv_at hl 0 rfl) ?_
        refine lv_iload hx hb dX3_widen_14 (lv_at hl 3 rfl) ?_
        refine lv_iload_n hx hb dX3_widen_16 rfl (lv_at hl 2 rfl) ?_
        refine lv_ior hx hb dX3_widen_17 ?_
        refine lv_aload_n hx hb dX3_widen_18 rfl (lv_at hl 0 rfl) ?_
        refine lv_iload hx hb dX3_widen_19 (lv_at hl 3 rfl) ?_
        obtain ⟨g_2, h⟩ := gd_some h
        refine va_iald hx hb hK hP 18 0 rfl rfl g_2 dX3_widen_21 ?_
        refine lv_iload_n hx hb dX3_widen_22 rfl (lv_at hl 1 rfl) ?_
        refine lv_iadd hx hb dX3_widen_23 ?_
        obtain ⟨g_3, h⟩ := gd_some h
        refine va_iast hx hb hK hP (CUW_D hq) hS 18 0 rfl rfl g_3 dX3_widen_24 (fun H locs hP _ hS => ?_)
        have hP : va_P D vwCl (CUW cI cJ q I J (fu a 10 (upd a10 (v4 ||| v3).toNatClampNeg ((a10 v4.toNatClampNeg) + v2))) b) H := hP
        refine lv_iinc (v := v4 + 1) (lv' := [(4, .int (v4 + 1)), (0, .ref (q 18)), (2, .int v2), (3, .int v3)]) hx hb dX3_widen_25 hl (k := 3) rfl rfl (by decide) rfl (fun ls hl => ?_)
        refine lv_goto (tgt := 7) hx hb dX3_widen_28 (by decide) ?_
        exact ih7 v2 v3 (v4 + 1) (upd a10 (v4 ||| v3).toNatClampNeg ((a10 v4.toNatClampNeg) + v2)) h _ _ hP hS ls (lv_sub hl [1, 2, 3, 0] rfl)
  refine lv_iconst (v := 1) hx hb dX3_widen_0 (by decide) ?_
  refine lv_iload_n hx hb dX3_widen_1 rfl (lv_at hl 1 rfl) ?_
  refine lv_ishl hx hb dX3_widen_2 ?_
  refine lv_topi (fun v_4 ev_4 => ?_)
  have h := nmI_at ev_4 h
  refine lv_istore_n (lv' := [(3, .int v_4), (0, .ref (q 18)), (1, .int v1), (2, .int v2)]) hx hb dX3_widen_3 rfl hl (by decide) rfl (fun ls hl => ?_)
  refine lv_iconst (v := 0) hx hb dX3_widen_4 (by decide) ?_
  refine lv_istore (lv' := [(4, .int 0), (3, .int v_4), (0, .ref (q 18)), (1, .int v1), (2, .int v2)]) hx hb dX3_widen_5 hl (by decide) rfl (fun ls hl => ?_)
  exact C7 F v2 v_4 0 (a 10) h _ _ hP hS ls (lv_sub hl [2, 4, 1, 0] rfl)
theorem in_X3_sumOf_X3 : ∀ w ∈ wsX30, w ∈ wsX3_sumOf := by decide +kernel
set_option maxHeartbeats 4000000 in
set_option maxRecDepth 100000 in
theorem c_X3_sumOf (l : Launch) (D : va_G) (cI cJ : ClassId) (q : Nat → Nat) (hq : CUQ q) (F : Nat) (I : Nat → Int32) (J : Nat → Int64) (a : Nat → Nat → Int32) (b : Nat → Nat → Int64) (v1 : Int32) (x0 : Int32) (h : f_X3_sumOf F I J a b v1 = some x0) : Met l yX3_sumOf wsX3_sumOf ({ frames := 0, cells := 0, slots := 0, locals := 0 }) (CUPc D cI cJ q I J a b [.ref (q 6), .int v1]) (va_Qi (fun (r : Int32) (u : Unit) => r = x0) (fun (u : Unit) t => va_P D vwCl (CUW cI cJ q I J a b) t.heap) (CUA q)) 0 0 (CUA q) := by
  refine mt_of (cc := cX3_sumOf) (maxL := 2) (ret := (some .int)) (by decide) rfl ?_
  intro p e s m args below meth c s₁ B0 hml hv R Q hR hQ
  obtain ⟨hargs, hP, hK, hN⟩ := hv
  have hx := B0.exec
  have hb := B0.bytes
  have hr := B0.returns
  have hts := atoms_spec (ws := wsX3_sumOf) B0.pre
  have hown : s.vm.findClass RX3 = some m.cls := findClass_of_methodNamed B0.named
  have hlocks := B0.notSynchronized
  have hS : va_S (CUA q) s.heap s.heap [] := va_S.rf
  have hl := lv_entry ([.ref (q 6), .int v1]) (n := 2) (Nat.le_of_ble_eq_true rfl)
  rw [hargs, lg_entry_eq]
  rw [← hargs]
  generalize (lg_sl ([.ref (q 6), .int v1]) ++ List.replicate (2 - (lg_sl ([.ref (q 6), .int v1])).length) Slot.unset).toArray = ls at hl ⊢
  have hl : lv_has ls 2 [(0, .ref (q 6)), (1, .int v1)] := hl
  unfold f_X3_sumOf at h
  refine lv_aload_n hx hb dX3_sumOf_0 rfl (lv_at hl 0 rfl) ?_
  refine va_get (D := D) (ci := 3) (v := .ref (q 17)) (C := RX3) (T := TX3) (N := 13) hx hb hts in_X3_sumOf_X3 hown hK hP 6 rfl rfl 3 (by decide) (hts (.fieldLink RX3 19 "LearnedReasons$Models" "lowSums" "[I") (by decide +kernel)) (fun _ h9 => h9) rfl dX3_sumOf_1 ?_
  refine lv_iload_n hx hb dX3_sumOf_4 rfl (lv_at hl 1 rfl) ?_
  refine lv_bipush (v := 127) hx hb dX3_sumOf_5 (by decide) ?_
  refine lv_iand hx hb dX3_sumOf_7 ?_
  obtain ⟨g_1, h⟩ := gd_some h
  refine va_iald hx hb hK hP 17 0 rfl rfl g_1 dX3_sumOf_8 ?_
  refine lv_aload_n hx hb dX3_sumOf_9 rfl (lv_at hl 0 rfl) ?_
  refine va_get (D := D) (ci := 3) (v := .ref (q 18)) (C := RX3) (T := TX3) (N := 13) hx hb hts in_X3_sumOf_X3 hown hK hP 6 rfl rfl 4 (by decide) (hts (.fieldLink RX3 22 "LearnedReasons$Models" "highSums" "[I") (by decide +kernel)) (fun _ h9 => h9) rfl dX3_sumOf_10 ?_
  refine lv_iload_n hx hb dX3_sumOf_13 rfl (lv_at hl 1 rfl) ?_
  refine lv_bipush (v := 7) hx hb dX3_sumOf_14 (by decide) ?_
  refine lv_ishr hx hb dX3_sumOf_16 ?_
  refine lv_bipush (v := 127) hx hb dX3_sumOf_17 (by decide) ?_
  refine lv_iand hx hb dX3_sumOf_19 ?_
  obtain ⟨g_2, h⟩ := gd_some h
  refine va_iald hx hb hK hP 18 0 rfl rfl g_2 dX3_sumOf_20 ?_
  refine lv_iadd hx hb dX3_sumOf_21 ?_
  have hx0 := Option.some.inj h
  rw [hQ]
  exact W.iret (v := ((a 9) (v1 &&& 127).toNatClampNeg) + ((a 10) ((v1 >>> ((7 : Int32) &&& 31)) &&& 127).toNatClampNeg)) hx hb hr (fun t ht hW => ⟨⟨(((a 9) (v1 &&& 127).toNatClampNeg) + ((a 10) ((v1 >>> ((7 : Int32) &&& 31)) &&& 127).toNatClampNeg)), (), rfl, hx0, by show va_P _ _ _ t.heap; rw [ht]; exact hP⟩, hS.F ht⟩) hS.2.2 dX3_sumOf_22
theorem in_X3_mark_X3 : ∀ w ∈ wsX30, w ∈ wsX3_mark := by decide +kernel
set_option maxHeartbeats 4000000 in
set_option maxRecDepth 100000 in
theorem c_X3_mark (l : Launch) (D : va_G) (cI cJ : ClassId) (q : Nat → Nat) (hq : CUQ q) (F : Nat) (I : Nat → Int32) (J : Nat → Int64) (a : Nat → Nat → Int32) (b : Nat → Nat → Int64) (v1 : Int32) (v2 : Int32) (v3 : Int32) (x0 : (Nat → Int64)) (h : f_X3_mark F I J a b v1 v2 v3 = some x0) : Met l yX3_mark wsX3_mark ({ frames := 0, cells := 0, slots := 0, locals := 0 }) (CUPc D cI cJ q I J a b [.ref (q 6), .int v1, .int v2, .int v3]) (va_Qv (fun (u : (Nat → Int64)) => u = x0) (fun (u : (Nat → Int64)) t => va_P D vwCl (CUW cI cJ q I J a (fu b 0 u)) t.heap) (CUA q)) 0 0 (CUA q) := by
  refine mt_of (cc := cX3_mark) (maxL := 6) (ret := none) (by decide) rfl ?_
  intro p e s m args below meth c s₁ B0 hml hv R Q hR hQ
  obtain ⟨hargs, hP, hK, hN⟩ := hv
  have hx := B0.exec
  have hb := B0.bytes
  have hr := B0.returns
  have hts := atoms_spec (ws := wsX3_mark) B0.pre
  have hown : s.vm.findClass RX3 = some m.cls := findClass_of_methodNamed B0.named
  have hlocks := B0.notSynchronized
  have hS : va_S (CUA q) s.heap s.heap [] := va_S.rf
  have hl := lv_entry ([.ref (q 6), .int v1, .int v2, .int v3]) (n := 6) (Nat.le_of_ble_eq_true rfl)
  rw [hargs, lg_entry_eq]
  rw [← hargs]
  generalize (lg_sl ([.ref (q 6), .int v1, .int v2, .int v3]) ++ List.replicate (6 - (lg_sl ([.ref (q 6), .int v1, .int v2, .int v3])).length) Slot.unset).toArray = ls at hl ⊢
  have hl : lv_has ls 6 [(0, .ref (q 6)), (1, .int v1), (2, .int v2), (3, .int v3)] := hl
  unfold f_X3_mark at h
  refine lv_lconst (v := 1) hx hb dX3_mark_0 (by decide) ?_
  refine lv_iload_n hx hb dX3_mark_1 rfl (lv_at hl 2 rfl) ?_
  refine lv_lshl hx hb dX3_mark_2 rfl ?_
  refine lv_topl (fun w_1 ew_1 => ?_)
  have h := nmJ_at ew_1 h
  refine lv_lstore (lv' := [(4, .long w_1), (0, .ref (q 6)), (1, .int v1), (2, .int v2), (3, .int v3)]) hx hb dX3_mark_3 hl (by decide) rfl (fun ls hl => ?_)
  refine lv_aload_n hx hb dX3_mark_5 rfl (lv_at hl 1 rfl) ?_
  refine va_get (D := D) (ci := 3) (v := .ref (q 15)) (C := RX3) (T := TX3) (N := 13) hx hb hts in_X3_mark_X3 hown hK hP 6 rfl rfl 1 (by decide) (hts (.fieldLink RX3 11 "LearnedReasons$Models" "broken" "[J") (by decide +kernel)) (fun _ h9 => h9) rfl dX3_mark_6 ?_
  refine lv_iload_n hx hb dX3_mark_9 rfl (lv_at hl 2 rfl) ?_
  refine lv_iload_n hx hb dX3_mark_10 rfl (lv_at hl 4 rfl) ?_
  refine lv_if_eq (tgt := 26) hx hb dX3_mark_11 (by decide) (fun c_2 => ?_) (fun c_2 => ?_)
  · have h := if_t c_2 h
    refine lv_aload_n hx hb dX3_mark_26 rfl (lv_at hl 1 rfl) ?_
    refine va_get (D := D) (ci := 3) (v := .ref (q 15)) (C := RX3) (T := TX3) (N := 13) hx hb hts in_X3_mark_X3 hown hK hP 6 rfl rfl 1 (by decide) (hts (.fieldLink RX3 11 "LearnedReasons$Models" "broken" "[J") (by decide +kernel)) (fun _ h9 => h9) rfl dX3_mark_27 ?_
    refine lv_iload_n hx hb dX3_mark_30 rfl (lv_at hl 2 rfl) ?_
    obtain ⟨g_3, h⟩ := gd_some h
    refine va_lald hx hb hK hP 15 1 rfl rfl g_3 dX3_mark_31 ?_
    refine lv_lload hx hb dX3_mark_32 (lv_at hl 0 rfl) ?_
    refine lv_ldc2 (v := (-1)) hx hb hown (hts (.constantLong RX3 78 (-1)) (by decide +kernel)) dX3_mark_34 ?_
    refine lv_lxor hx hb dX3_mark_37 ?_
    refine lv_land hx hb dX3_mark_38 ?_
    obtain ⟨g_4, h⟩ := gd_some h
    refine va_last hx hb hK hP (CUW_D hq) hS 15 1 rfl rfl g_4 dX3_mark_39 (fun H locs hP _ hS => ?_)
    have hP : va_P D vwCl (CUW cI cJ q I J a (fu b 0 (vp_updL (b 0) v1.toNatClampNeg (((b 0) v1.toNatClampNeg) &&& (w_1 ^^^ (-1)))))) H := hP
    have hx0 := Option.some.inj h
    rw [hQ]
    exact W.vret hx hb hr (fun t ht hW => ⟨⟨(vp_updL (b 0) v1.toNatClampNeg (((b 0) v1.toNatClampNeg) &&& (w_1 ^^^ (-1)))), rfl, hx0, by show va_P _ _ _ t.heap; rw [ht]; exact hP⟩, hS.F ht⟩) hS.2.2 dX3_mark_40
  · have h := if_f c_2 h
    refine lv_aload_n hx hb dX3_mark_14 rfl (lv_at hl 1 rfl) ?_
    refine va_get (D := D) (ci := 3) (v := .ref (q 15)) (C := RX3) (T := TX3) (N := 13) hx hb hts in_X3_mark_X3 hown hK hP 6 rfl rfl 1 (by decide) (hts (.fieldLink RX3 11 "LearnedReasons$Models" "broken" "[J") (by decide +kernel)) (fun _ h9 => h9) rfl dX3_mark_15 ?_
    refine lv_iload_n hx hb dX3_mark_18 rfl (lv_at hl 2 rfl) ?_
    obtain ⟨g_5, h⟩ := gd_some h
    refine va_lald hx hb hK hP 15 1 rfl rfl g_5 dX3_mark_19 ?_
    refine lv_lload hx hb dX3_mark_20 (lv_at hl 0 rfl) ?_
    refine lv_lor hx hb dX3_mark_22 ?_
    refine lv_goto (tgt := 39) hx hb dX3_mark_23 (by decide) ?_
    obtain ⟨g_6, h⟩ := gd_some h
    refine va_last hx hb hK hP (CUW_D hq) hS 15 1 rfl rfl g_6 dX3_mark_39 (fun H locs hP _ hS => ?_)
    have hP : va_P D vwCl (CUW cI cJ q I J a (fu b 0 (vp_updL (b 0) v1.toNatClampNeg (((b 0) v1.toNatClampNeg) ||| w_1)))) H := hP
    have hx0 := Option.some.inj h
    rw [hQ]
    exact W.vret hx hb hr (fun t ht hW => ⟨⟨(vp_updL (b 0) v1.toNatClampNeg (((b 0) v1.toNatClampNeg) ||| w_1)), rfl, hx0, by show va_P _ _ _ t.heap; rw [ht]; exact hP⟩, hS.F ht⟩) hS.2.2 dX3_mark_40
