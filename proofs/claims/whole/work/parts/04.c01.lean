theorem in_X5_addClause_X5 : ∀ w ∈ wsX50, w ∈ wsX5_addClause := by decide +kernel
set_option maxHeartbeats 4000000 in
set_option maxRecDepth 100000 in
theorem c_X5_addClause (l : Launch) (D : va_G) (cI cJ : ClassId) (q : Nat → Nat) (hq : CUQ q) (F : Nat) (I : Nat → Int32) (J : Nat → Int64) (a : Nat → Nat → Int32) (b : Nat → Nat → Int64) (v1 : Int32) (v2 : Int32) (x0 : Int32 × Int32 × Int64 × Int64 × (Nat → Int32) × (Nat → Int32)) (h : f_X5_addClause F I J a b v1 v2 = some x0) : Met l yX5_addClause wsX5_addClause ({ frames := 1, cells := 0, slots := 0, locals := 21 }) (CUPc D cI cJ q I J a b [.ref (q 1), .int v1, .int v2]) (va_Qi (fun (r : Int32) (u : Int32 × Int64 × Int64 × (Nat → Int32) × (Nat → Int32)) => r = x0.1 ∧ u = x0.2) (fun (u : Int32 × Int64 × Int64 × (Nat → Int32) × (Nat → Int32)) t => va_P D vwCl (CUW cI cJ q (fu I 5 u.1) (fu (fu J 0 u.2.1) 2 u.2.2.1) (fu (fu a 0 u.2.2.2.1) 1 u.2.2.2.2) b) t.heap) (CUA q)) 0 0 (CUA q) := by
  refine mt_of (cc := cX5_addClause) (maxL := 4) (ret := (some .int)) (by decide) rfl ?_
  intro p e s m args below meth c s₁ B0 hml hv R Q hR hQ
  obtain ⟨hargs, hP, hK, hN⟩ := hv
  have hx := B0.exec
  have hb := B0.bytes
  have hr := B0.returns
  have hts := atoms_spec (ws := wsX5_addClause) B0.pre
  have hown : s.vm.findClass RX5 = some m.cls := findClass_of_methodNamed B0.named
  have hlocks := B0.notSynchronized
  have hS : va_S (CUA q) s.heap s.heap [] := va_S.rf
  have hl := lv_entry ([.ref (q 1), .int v1, .int v2]) (n := 4) (Nat.le_of_ble_eq_true rfl)
  rw [hargs, lg_entry_eq]
  rw [← hargs]
  generalize (lg_sl ([.ref (q 1), .int v1, .int v2]) ++ List.replicate (4 - (lg_sl ([.ref (q 1), .int v1, .int v2])).length) Slot.unset).toArray = ls at hl ⊢
  have hl : lv_has ls 4 [(0, .ref (q 1)), (1, .int v1), (2, .int v2)] := hl
  unfold f_X5_addClause at h
  refine lv_aload_n hx hb dX5_addClause_0 rfl (lv_at hl 0 rfl) ?_
  refine va_get (D := D) (ci := 5) (v := .int (I 5)) (C := RX5) (T := TX5) (N := 9) hx hb hts in_X5_addClause_X5 hown hK hP 1 rfl rfl 1 (by decide) (hts (.fieldLink RX5 35 "LearnedReasons$Things" "numbersGiven" "I") (by decide +kernel)) (fun _ h9 => h9) rfl dX5_addClause_1 ?_
  refine lv_istore_n (lv' := [(3, .int (I 5)), (0, .ref (q 1)), (1, .int v1), (2, .int v2)]) hx hb dX5_addClause_4 rfl hl (by decide) rfl (fun ls hl => ?_)
  refine lv_aload_n hx hb dX5_addClause_5 rfl (lv_at hl 1 rfl) ?_
  refine va_get (D := D) (ci := 5) (v := .ref (q 7)) (C := RX5) (T := TX5) (N := 9) hx hb hts in_X5_addClause_X5 hown hK hP 1 rfl rfl 5 (by decide) (hts (.fieldLink RX5 9 "LearnedReasons$Things" "wantTrue" "[I") (by decide +kernel)) (fun _ h9 => h9) rfl dX5_addClause_6 ?_
  refine lv_iload_n hx hb dX5_addClause_9 rfl (lv_at hl 0 rfl) ?_
  refine lv_iload_n hx hb dX5_addClause_10 rfl (lv_at hl 2 rfl) ?_
  obtain ⟨g_1, h⟩ := gd_some h
  refine va_iast hx hb hK hP (CUW_D hq) hS 7 0 rfl rfl g_1 dX5_addClause_11 (fun H locs hP _ hS => ?_)
  have hP : va_P D vwCl (CUW cI cJ q I J (fu a 0 (upd (a 0) (I 5).toNatClampNeg v1)) b) H := hP
  refine lv_aload_n hx hb dX5_addClause_12 rfl (lv_at hl 1 rfl) ?_
  refine va_get (D := D) (ci := 5) (v := .ref (q 8)) (C := RX5) (T := TX5) (N := 9) hx hb hts in_X5_addClause_X5 hown hK hP 1 rfl rfl 6 (by decide) (hts (.fieldLink RX5 15 "LearnedReasons$Things" "wantFalse" "[I") (by decide +kernel)) (fun _ h9 => h9) rfl dX5_addClause_13 ?_
  refine lv_iload_n hx hb dX5_addClause_16 rfl (lv_at hl 0 rfl) ?_
  refine lv_iload_n hx hb dX5_addClause_17 rfl (lv_at hl 3 rfl) ?_
  obtain ⟨g_2, h⟩ := gd_some h
  refine va_iast hx hb hK hP (CUW_D hq) hS 8 0 rfl rfl g_2 dX5_addClause_18 (fun H locs hP _ hS => ?_)
  have hP : va_P D vwCl (CUW cI cJ q I J (fu (fu a 0 (upd (a 0) (I 5).toNatClampNeg v1)) 1 (upd (a 1) (I 5).toNatClampNeg v2)) b) H := hP
  refine lv_aload_n hx hb dX5_addClause_19 rfl (lv_at hl 1 rfl) ?_
  refine lv_iload_n hx hb dX5_addClause_20 rfl (lv_at hl 0 rfl) ?_
  obtain ⟨x_3, hx_3, h⟩ := ob_some h
  refine va_callv (va_runV (As := [.int (I 5)]) (rest := []) ⟨hx, hb, hml, hown, hts⟩ (c_X5_place l D cI cJ q hq F I J (fu (fu a 0 (upd (a 0) (I 5).toNatClampNeg v1)) 1 (upd (a 1) (I 5).toNatClampNeg v2)) b (I 5) x_3 hx_3) (cwV 1 hts gX5_addClause_X5_place rfl rfl rfl (by decide +kernel) (by rw [hR]; exact ⟨Nat.le_of_ble_eq_true rfl, Nat.le_of_ble_eq_true rfl⟩)) ⟨CUPc_blind, va_recv hK hP (ci := 5) (q0 := 1) rfl rfl, fun U hU hW => ⟨rfl, by rw [hU]; exact hP, va_K.moved hW.alike hK, va_Nw.warmM hW hN⟩⟩ rfl rfl hl.1 rfl (lv_room (Nat.le_of_ble_eq_true rfl)) dX5_addClause_21 ⟨Nat.zero_le _, Nat.zero_le _⟩) hS (fun _ _ h => h) (fun _ h => h) (fun u t H1 locs ht hvm hw hB hz1 hk1 hS => ?_)
  obtain rfl := hw.symm
  rw [ht] at hB
  have hP : va_P D vwCl (CUW cI cJ q (fu I 5 x_3.1) (fu (fu J 0 x_3.2.1) 2 x_3.2.2) (fu (fu a 0 (upd (a 0) (I 5).toNatClampNeg v1)) 1 (upd (a 1) (I 5).toNatClampNeg v2)) b) H1 := hB
  clear hB hz1 hk1 ht hvm
  generalize H1 = H at hP hS ⊢
  refine lv_iload_n hx hb dX5_addClause_24 rfl (lv_at hl 0 rfl) ?_
  have hx0 := Option.some.inj h
  rw [hQ]
  exact W.iret (v := I 5) hx hb hr (fun t ht hW => ⟨⟨(I 5), (x_3.1, x_3.2.1, x_3.2.2, (upd (a 0) (I 5).toNatClampNeg v1), (upd (a 1) (I 5).toNatClampNeg v2)), rfl, ⟨congrArg (fun z => z.1) hx0, congrArg (fun z => z.2) hx0⟩, by show va_P _ _ _ t.heap; rw [ht]; exact hP⟩, hS.F ht⟩) hS.2.2 dX5_addClause_25
theorem in_X6_emptyHand_X6 : ∀ w ∈ wsX60, w ∈ wsX6_emptyHand := by decide +kernel
set_option maxHeartbeats 4000000 in
set_option maxRecDepth 100000 in
theorem c_X6_emptyHand (l : Launch) (D : va_G) (cI cJ : ClassId) (q : Nat → Nat) (hq : CUQ q) (F : Nat) (I : Nat → Int32) (J : Nat → Int64) (a : Nat → Nat → Int32) (b : Nat → Nat → Int64) (x0 : Int32 × Int32) (h : f_X6_emptyHand F I J a b = some x0) : Met l yX6_emptyHand wsX6_emptyHand ({ frames := 0, cells := 0, slots := 0, locals := 0 }) (CUPc D cI cJ q I J a b [.ref (q 0)]) (va_Qv (fun (u : Int32 × Int32) => u = x0) (fun (u : Int32 × Int32) t => va_P D vwCl (CUW cI cJ q (fu (fu I 0 u.1) 1 u.2) J a b) t.heap) (CUA q)) 0 0 (CUA q) := by
  refine mt_of (cc := cX6_emptyHand) (maxL := 1) (ret := none) (by decide) rfl ?_
  intro p e s m args below meth c s₁ B0 hml hv R Q hR hQ
  obtain ⟨hargs, hP, hK, hN⟩ := hv
  have hx := B0.exec
  have hb := B0.bytes
  have hr := B0.returns
  have hts := atoms_spec (ws := wsX6_emptyHand) B0.pre
  have hown : s.vm.findClass RX6 = some m.cls := findClass_of_methodNamed B0.named
  have hlocks := B0.notSynchronized
  have hS : va_S (CUA q) s.heap s.heap [] := va_S.rf
  have hl := lv_entry ([.ref (q 0)]) (n := 1) (Nat.le_of_ble_eq_true rfl)
  rw [hargs, lg_entry_eq]
  rw [← hargs]
  generalize (lg_sl ([.ref (q 0)]) ++ List.replicate (1 - (lg_sl ([.ref (q 0)])).length) Slot.unset).toArray = ls at hl ⊢
  have hl : lv_has ls 1 [(0, .ref (q 0))] := hl
  unfold f_X6_emptyHand at h
  refine lv_aload_n hx hb dX6_emptyHand_0 rfl (lv_at hl 0 rfl) ?_
  refine lv_iconst (v := 0) hx hb dX6_emptyHand_1 (by decide) ?_
  refine va_put (D := D) (ci := 6) (v := .int 0) (ty := .int) (C := RX6) (T := TX6) (N := 9) hx hb hts in_X6_emptyHand_X6 tyX6 tyX6_ok nmX6 hown hK hP (CUW_D hq) hS 0 rfl rfl 5 (by decide) (hts (.fieldLink RX6 67 "LearnedReasons" "handTrue" "I") (by decide +kernel)) (fun _ h9 => h9) rfl (by decide +kernel) rfl rfl (Nat.le_of_ble_eq_true rfl) dX6_emptyHand_2 (fun H locs hP _ hS => ?_)
  have hP : va_P D vwCl (CUW cI cJ q (fu I 0 0) J a b) H := hP
  refine lv_aload_n hx hb dX6_emptyHand_5 rfl (lv_at hl 0 rfl) ?_
  refine lv_iconst (v := 0) hx hb dX6_emptyHand_6 (by decide) ?_
  refine va_put (D := D) (ci := 6) (v := .int 0) (ty := .int) (C := RX6) (T := TX6) (N := 9) hx hb hts in_X6_emptyHand_X6 tyX6 tyX6_ok nmX6 hown hK hP (CUW_D hq) hS 0 rfl rfl 6 (by decide) (hts (.fieldLink RX6 75 "LearnedReasons" "handFalse" "I") (by decide +kernel)) (fun _ h9 => h9) rfl (by decide +kernel) rfl rfl (Nat.le_of_ble_eq_true rfl) dX6_emptyHand_7 (fun H locs hP _ hS => ?_)
  have hP : va_P D vwCl (CUW cI cJ q (fu (fu I 0 0) 1 0) J a b) H := hP
  have hx0 := Option.some.inj h
  rw [hQ]
  exact W.vret hx hb hr (fun t ht hW => ⟨⟨(0, 0), rfl, hx0, by show va_P _ _ _ t.heap; rw [ht]; exact hP⟩, hS.F ht⟩) hS.2.2 dX6_emptyHand_10
theorem in_X6_clause_X6 : ∀ w ∈ wsX60, w ∈ wsX6_clause := by decide +kernel
set_option maxHeartbeats 4000000 in
set_option maxRecDepth 100000 in
theorem c_X6_clause (l : Launch) (D : va_G) (cI cJ : ClassId) (q : Nat → Nat) (hq : CUQ q) (F : Nat) (I : Nat → Int32) (J : Nat → Int64) (a : Nat → Nat → Int32) (b : Nat → Nat → Int64) (x0 : Int32 × Int32 × Int32 × Int32 × Int32 × Int32 × Int32 × Int32 × Int64 × Int64 × (Nat → Int32) × (Nat → Int32)) (h : f_X6_clause F I J a b = some x0) : Met l yX6_clause wsX6_clause ({ frames := 2, cells := 0, slots := 0, locals := 44 }) (CUPc D cI cJ q I J a b [.ref (q 0)]) (va_Qi (fun (r : Int32) (u : Int32 × Int32 × Int32 × Int32 × Int32 × Int32 × Int32 × Int64 × Int64 × (Nat → Int32) × (Nat → Int32)) => r = x0.1 ∧ u = x0.2) (fun (u : Int32 × Int32 × Int32 × Int32 × Int32 × Int32 × Int32 × Int64 × Int64 × (Nat → Int32) × (Nat → Int32)) t => va_P D vwCl (CUW cI cJ q (fu (fu (fu (fu (fu (fu (fu I 0 u.1) 1 u.2.1) 5 u.2.2.1) 6 u.2.2.2.1) 11 u.2.2.2.2.1) 17 u.2.2.2.2.2.1) 18 u.2.2.2.2.2.2.1) (fu (fu J 0 u.2.2.2.2.2.2.2.1) 2 u.2.2.2.2.2.2.2.2.1) (fu (fu a 0 u.2.2.2.2.2.2.2.2.2.1) 1 u.2.2.2.2.2.2.2.2.2.2) b) t.heap) (CUA q)) 0 0 (CUA q) := by
  refine mt_of (cc := cX6_clause) (maxL := 2) (ret := (some .int)) (by decide) rfl ?_
  intro p e s m args below meth c s₁ B0 hml hv R Q hR hQ
  obtain ⟨hargs, hP, hK, hN⟩ := hv
  have hx := B0.exec
  have hb := B0.bytes
  have hr := B0.returns
  have hts := atoms_spec (ws := wsX6_clause) B0.pre
  have hown : s.vm.findClass RX6 = some m.cls := findClass_of_methodNamed B0.named
  have hlocks := B0.notSynchronized
  have hS : va_S (CUA q) s.heap s.heap [] := va_S.rf
  have hl := lv_entry ([.ref (q 0)]) (n := 2) (Nat.le_of_ble_eq_true rfl)
  rw [hargs, lg_entry_eq]
  rw [← hargs]
  generalize (lg_sl ([.ref (q 0)]) ++ List.replicate (2 - (lg_sl ([.ref (q 0)])).length) Slot.unset).toArray = ls at hl ⊢
  have hl : lv_has ls 2 [(0, .ref (q 0))] := hl
  unfold f_X6_clause at h
  refine lv_aload_n hx hb dX6_clause_0 rfl (lv_at hl 0 rfl) ?_
  refine va_get (D := D) (ci := 6) (v := .ref (q 1)) (C := RX6) (T := TX6) (N := 9) hx hb hts in_X6_clause_X6 hown hK hP 0 rfl rfl 0 (by decide) (hts (.fieldLink RX6 10 "LearnedReasons" "things" "LLearnedReasons$Things;") (by decide +kernel)) (fun _ h9 => h9) rfl dX6_clause_1 ?_
  obtain ⟨x_1, hx_1, h⟩ := ob_some h
  refine va_calli (va_runV (As := []) (rest := []) ⟨hx, hb, hml, hown, hts⟩ (c_X5_isFull l D cI cJ q hq F I J a b x_1 hx_1) (cwV 0 hts gX6_clause_X5_isFull rfl rfl rfl (by decide +kernel) (by rw [hR]; exact ⟨Nat.le_of_ble_eq_true rfl, Nat.le_of_ble_eq_true rfl⟩)) ⟨CUPc_blind, va_recv hK hP (ci := 5) (q0 := 1) rfl rfl, fun U hU hW => ⟨rfl, by rw [hU]; exact hP, va_K.moved hW.alike hK, va_Nw.warmM hW hN⟩⟩ rfl rfl hl.1 rfl (lv_room (Nat.le_of_ble_eq_true rfl)) dX6_clause_4 ⟨Nat.zero_le _, Nat.zero_le _⟩) hS (fun _ _ h => h) (fun _ h => h) (fun r u t H1 locs ht hvm hw hB hz1 hk1 hS => ?_)
  obtain rfl := hw.symm
  rw [ht] at hB
  have hP : va_P D vwCl (CUW cI cJ q I J a b) H1 := hB
  clear hB hz1 hk1 ht hvm
  generalize H1 = H at hP hS ⊢
  refine lv_if_eq (tgt := 13) hx hb dX6_clause_7 (by decide) (fun c_2 => ?_) (fun c_2 => ?_)
  · have h := if_t c_2 h
    refine lv_aload_n hx hb dX6_clause_13 rfl (lv_at hl 0 rfl) ?_
    refine va_get (D := D) (ci := 6) (v := .ref (q 1)) (C := RX6) (T := TX6) (N := 9) hx hb hts in_X6_clause_X6 hown hK hP 0 rfl rfl 0 (by decide) (hts (.fieldLink RX6 10 "LearnedReasons" "things" "LLearnedReasons$Things;") (by decide +kernel)) (fun _ h9 => h9) rfl dX6_clause_14 ?_
    refine lv_aload_n hx hb dX6_clause_17 rfl (lv_at hl 0 rfl) ?_
    refine va_get (D := D) (ci := 6) (v := .int (I 0)) (C := RX6) (T := TX6) (N := 9) hx hb hts in_X6_clause_X6 hown hK hP 0 rfl rfl 5 (by decide) (hts (.fieldLink RX6 67 "LearnedReasons" "handTrue" "I") (by decide +kernel)) (fun _ h9 => h9) rfl dX6_clause_18 ?_
    refine lv_aload_n hx hb dX6_clause_21 rfl (lv_at hl 0 rfl) ?_
    refine va_get (D := D) (ci := 6) (v := .int (I 1)) (C := RX6) (T := TX6) (N := 9) hx hb hts in_X6_clause_X6 hown hK hP 0 rfl rfl 6 (by decide) (hts (.fieldLink RX6 75 "LearnedReasons" "handFalse" "I") (by decide +kernel)) (fun _ h9 => h9) rfl dX6_clause_22 ?_
    obtain ⟨x_3, hx_3, h⟩ := ob_some h
    refine va_calli (va_runV (As := [.int (I 0), .int (I 1)]) (rest := []) ⟨hx, hb, hml, hown, hts⟩ (c_X5_addClause l D cI cJ q hq F I J a b (I 0) (I 1) x_3 hx_3) (cwV 2 hts gX6_clause_X5_addClause rfl rfl rfl (by decide +kernel) (by rw [hR]; exact ⟨Nat.le_of_ble_eq_true rfl, Nat.le_of_ble_eq_true rfl⟩)) ⟨CUPc_blind, va_recv hK hP (ci := 5) (q0 := 1) rfl rfl, fun U hU hW => ⟨rfl, by rw [hU]; exact hP, va_K.moved hW.alike hK, va_Nw.warmM hW hN⟩⟩ rfl rfl hl.1 rfl (lv_room (Nat.le_of_ble_eq_true rfl)) dX6_clause_25 ⟨Nat.zero_le _, Nat.zero_le _⟩) hS (fun _ _ h => h) (fun _ h => h) (fun r u t H1 locs ht hvm hw hB hz1 hk1 hS => ?_)
    obtain ⟨rfl, rfl⟩ := hw
    rw [ht] at hB
    have hP : va_P D vwCl (CUW cI cJ q (fu I 5 x_3.2.1) (fu (fu J 0 x_3.2.2.1) 2 x_3.2.2.2.1) (fu (fu a 0 x_3.2.2.2.2.1) 1 x_3.2.2.2.2.2) b) H1 := hB
    clear hB hz1 hk1 ht hvm
    generalize H1 = H at hP hS ⊢
    refine lv_istore_n (lv' := [(1, .int x_3.1), (0, .ref (q 0))]) hx hb dX6_clause_28 rfl hl (by decide) rfl (fun ls hl => ?_)
    refine lv_aload_n hx hb dX6_clause_29 rfl (lv_at hl 1 rfl) ?_
    obtain ⟨x_4, hx_4, h⟩ := ob_some h
    refine va_callv (va_runV (As := []) (rest := []) ⟨hx, hb, hml, hown, hts⟩ (c_X6_emptyHand l D cI cJ q hq F (fu I 5 x_3.2.1) (fu (fu J 0 x_3.2.2.1) 2 x_3.2.2.2.1) (fu (fu a 0 x_3.2.2.2.2.1) 1 x_3.2.2.2.2.2) b x_4 hx_4) (cwV 0 hts gX6_clause_X6_emptyHand rfl rfl rfl (by decide +kernel) (by rw [hR]; exact ⟨Nat.le_of_ble_eq_true rfl, Nat.le_of_ble_eq_true rfl⟩)) ⟨CUPc_blind, va_recv hK hP (ci := 6) (q0 := 0) rfl rfl, fun U hU hW => ⟨rfl, by rw [hU]; exact hP, va_K.moved hW.alike hK, va_Nw.warmM hW hN⟩⟩ rfl rfl hl.1 rfl (lv_room (Nat.le_of_ble_eq_true rfl)) dX6_clause_30 ⟨Nat.zero_le _, Nat.zero_le _⟩) hS (fun _ _ h => h) (fun _ h => h) (fun u t H1 locs ht hvm hw hB hz1 hk1 hS => ?_)
    obtain rfl := hw.symm
    rw [ht] at hB
    have hP : va_P D vwCl (CUW cI cJ q (fu (fu (fu I 0 x_4.1) 1 x_4.2) 5 x_3.2.1) (fu (fu J 0 x_3.2.2.1) 2 x_3.2.2.2.1) (fu (fu a 0 x_3.2.2.2.2.1) 1 x_3.2.2.2.2.2) b) H1 := hB
    clear hB hz1 hk1 ht hvm
    generalize H1 = H at hP hS ⊢
    refine lv_aload_n hx hb dX6_clause_33 rfl (lv_at hl 1 rfl) ?_
    obtain ⟨x_5, hx_5, h⟩ := ob_some h
    refine va_callv (va_runV (As := []) (rest := []) ⟨hx, hb, hml, hown, hts⟩ (c_X6_outdate l D cI cJ q hq F (fu (fu (fu I 0 x_4.1) 1 x_4.2) 5 x_3.2.1) (fu (fu J 0 x_3.2.2.1) 2 x_3.2.2.2.1) (fu (fu a 0 x_3.2.2.2.2.1) 1 x_3.2.2.2.2.2) b x_5 hx_5) (cwV 0 hts gX6_clause_X6_outdate rfl rfl rfl (by decide +kernel) (by rw [hR]; exact ⟨Nat.le_of_ble_eq_true rfl, Nat.le_of_ble_eq_true rfl⟩)) ⟨CUPc_blind, va_recv hK hP (ci := 6) (q0 := 0) rfl rfl, fun U hU hW => ⟨rfl, by rw [hU]; exact hP, va_K.moved hW.alike hK, va_Nw.warmM hW hN⟩⟩ rfl rfl hl.1 rfl (lv_room (Nat.le_of_ble_eq_true rfl)) dX6_clause_34 ⟨Nat.zero_le _, Nat.zero_le _⟩) hS (fun _ _ h => h) (fun _ h => h) (fun u t H1 locs ht hvm hw hB hz1 hk1 hS => ?_)
    obtain rfl := hw.symm
    rw [ht] at hB
    have hP : va_P D vwCl (CUW cI cJ q (fu (fu (fu (fu (fu (fu (fu I 0 x_4.1) 1 x_4.2) 5 x_3.2.1) 6 x_5.1) 11 x_5.2.1) 17 x_5.2.2.1) 18 x_5.2.2.2) (fu (fu J 0 x_3.2.2.1) 2 x_3.2.2.2.1) (fu (fu a 0 x_3.2.2.2.2.1) 1 x_3.2.2.2.2.2) b) H1 := hB
    clear hB hz1 hk1 ht hvm
    generalize H1 = H at hP hS ⊢
    refine lv_iload_n hx hb dX6_clause_37 rfl (lv_at hl 0 rfl) ?_
    have hx0 := Option.some.inj h
    rw [hQ]
    exact W.iret (v := x_3.1) hx hb hr (fun t ht hW => ⟨⟨x_3.1, (x_4.1, x_4.2, x_3.2.1, x_5.1, x_5.2.1, x_5.2.2.1, x_5.2.2.2, x_3.2.2.1, x_3.2.2.2.1, x_3.2.2.2.2.1, x_3.2.2.2.2.2), rfl, ⟨congrArg (fun z => z.1) hx0, congrArg (fun z => z.2) hx0⟩, by show va_P _ _ _ t.heap; rw [ht]; exact hP⟩, hS.F ht⟩) hS.2.2 dX6_clause_38
  · have h := if_f c_2 h
    refine lv_bipush (v := (-4)) hx hb dX6_clause_10 (by decide) ?_
    have hx0 := Option.some.inj h
    rw [hQ]
    exact W.iret (v := (-4)) hx hb hr (fun t ht hW => ⟨⟨(-4), ((I 0), (I 1), (I 5), (I 6), (I 11), (I 17), (I 18), (J 0), (J 2), (a 0), (a 1)), rfl, ⟨congrArg (fun z => z.1) hx0, congrArg (fun z => z.2) hx0⟩, by show va_P _ _ _ t.heap; rw [ht]; exact hP⟩, hS.F ht⟩) hS.2.2 dX6_clause_12
set_option maxHeartbeats 4000000 in
set_option maxRecDepth 100000 in
theorem c_X6_isOutside (l : Launch) (F : Nat) (v0 : Int32) (v1 : Int32) (x0 : Int32) (h : f_X6_isOutside F v0 v1 = some x0) : Met l yX6_isOutside wsX6_isOutside ({ frames := 0, cells := 0, slots := 0, locals := 0 }) (va_Pc [.int v0, .int v1] (fun _ => True)) (va_Qi (fun (r : Int32) (u : Unit) => r = x0) (fun _ _ => True) (fun _ => False)) 0 0 (fun _ => False) := by
  refine mt_of (cc := cX6_isOutside) (maxL := 2) (ret := (some .boolean)) (by decide) rfl ?_
  intro p e s m args below meth c s₁ B0 hml hv R Q hR hQ
  obtain ⟨hargs, -⟩ := hv
  have hx := B0.exec
  have hb := B0.bytes
  have hr := B0.returns
  have hts := atoms_spec (ws := wsX6_isOutside) B0.pre
  have hown : s.vm.findClass RX6 = some m.cls := findClass_of_methodNamed B0.named
  have hlocks := B0.notSynchronized
  have hS : va_S (fun _ => False) s.heap s.heap [] := va_S.rf
  have hl := lv_entry ([.int v0, .int v1]) (n := 2) (Nat.le_of_ble_eq_true rfl)
  rw [hargs, lg_entry_eq]
  rw [← hargs]
  generalize (lg_sl ([.int v0, .int v1]) ++ List.replicate (2 - (lg_sl ([.int v0, .int v1])).length) Slot.unset).toArray = ls at hl ⊢
  have hl : lv_has ls 2 [(0, .int v0), (1, .int v1)] := hl
  unfold f_X6_isOutside at h
  refine lv_iload_n hx hb dX6_isOutside_0 rfl (lv_at hl 0 rfl) ?_
  refine lv_iload_n hx hb dX6_isOutside_1 rfl (lv_at hl 1 rfl) ?_
  refine lv_ineg hx hb dX6_isOutside_2 ?_
  refine lv_icmp_lt (tgt := 11) hx hb dX6_isOutside_3 (by decide) (fun c_1 => ?_) (fun c_1 => ?_)
  · have h := if_t c_1 h
    refine lv_iconst (v := 1) hx hb dX6_isOutside_11 (by decide) ?_
    refine lv_goto (tgt := 16) hx hb dX6_isOutside_12 (by decide) ?_
    have hx0 := Option.some.inj h
    rw [hQ]
    exact W.zret (v := 1) hx hb hr (rfl) (fun t ht hW => ⟨⟨1, (), rfl, hx0, trivial⟩, hS.F ht⟩) hS.2.2 dX6_isOutside_16
  · have h := if_f c_1 h
    refine lv_iload_n hx hb dX6_isOutside_6 rfl (lv_at hl 0 rfl) ?_
    refine lv_iload_n hx hb dX6_isOutside_7 rfl (lv_at hl 1 rfl) ?_
    refine lv_icmp_le (tgt := 15) hx hb dX6_isOutside_8 (by decide) (fun c_2 => ?_) (fun c_2 => ?_)
    · have h := if_t c_2 h
      refine lv_iconst (v := 0) hx hb dX6_isOutside_15 (by decide) ?_
      have hx0 := Option.some.inj h
      rw [hQ]
      exact W.zret (v := 0) hx hb hr (rfl) (fun t ht hW => ⟨⟨0, (), rfl, hx0, trivial⟩, hS.F ht⟩) hS.2.2 dX6_isOutside_16
    · have h := if_f c_2 h
      refine lv_iconst (v := 1) hx hb dX6_isOutside_11 (by decide) ?_
      refine lv_goto (tgt := 16) hx hb dX6_isOutside_12 (by decide) ?_
      have hx0 := Option.some.inj h
      rw [hQ]
      exact W.zret (v := 1) hx hb hr (rfl) (fun t ht hW => ⟨⟨1, (), rfl, hx0, trivial⟩, hS.F ht⟩) hS.2.2 dX6_isOutside_16
theorem in_X5_addRow_X5 : ∀ w ∈ wsX50, w ∈ wsX5_addRow := by decide +kernel
set_option maxHeartbeats 4000000 in
set_option maxRecDepth 100000 in
theorem c_X5_addRow (l : Launch) (D : va_G) (cI cJ : ClassId) (q : Nat → Nat) (hq : CUQ q) (F : Nat) (I : Nat → Int32) (J : Nat → Int64) (a : Nat → Nat → Int32) (b : Nat → Nat → Int64) (v1 : Int32) (x0 : Int32 × Int32 × Int64 × Int64 × Int64 × (Nat → Int32) × (Nat → Int32)) (h : f_X5_addRow F I J a b v1 = some x0) : Met l yX5_addRow wsX5_addRow ({ frames := 1, cells := 0, slots := 0, locals := 21 }) (CUPc D cI cJ q I J a b [.ref (q 1), .int v1]) (va_Qi (fun (r : Int32) (u : Int32 × Int64 × Int64 × Int64 × (Nat → Int32) × (Nat → Int32)) => r = x0.1 ∧ u = x0.2) (fun (u : Int32 × Int64 × Int64 × Int64 × (Nat → Int32) × (Nat → Int32)) t => va_P D vwCl (CUW cI cJ q (fu I 5 u.1) (fu (fu (fu J 0 u.2.1) 1 u.2.2.1) 2 u.2.2.2.1) (fu (fu a 2 u.2.2.2.2.1) 3 u.2.2.2.2.2) b) t.heap) (CUA q)) 0 0 (CUA q) := by
  refine mt_of (cc := cX5_addRow) (maxL := 4) (ret := (some .int)) (by decide) rfl ?_
  intro p e s m args below meth c s₁ B0 hml hv R Q hR hQ
  obtain ⟨hargs, hP, hK, hN⟩ := hv
  have hx := B0.exec
  have hb := B0.bytes
  have hr := B0.returns
  have hts := atoms_spec (ws := wsX5_addRow) B0.pre
  have hown : s.vm.findClass RX5 = some m.cls := findClass_of_methodNamed B0.named
  have hlocks := B0.notSynchronized
  have hS : va_S (CUA q) s.heap s.heap [] := va_S.rf
  have hl := lv_entry ([.ref (q 1), .int v1]) (n := 4) (Nat.le_of_ble_eq_true rfl)
  rw [hargs, lg_entry_eq]
  rw [← hargs]
  generalize (lg_sl ([.ref (q 1), .int v1]) ++ List.replicate (4 - (lg_sl ([.ref (q 1), .int v1])).length) Slot.unset).toArray = ls at hl ⊢
  have hl : lv_has ls 4 [(0, .ref (q 1)), (1, .int v1)] := hl
  unfold f_X5_addRow at h
  have C14 : ∀ (n14 : Nat) (v2 : Int32) (v3 : Int32) (a2 : Nat → Int32) (a3 : Nat → Int32), k_X5_addRow_14 F I J a b n14 v2 v3 a2 a3 = some x0 → ∀ (H : Heap) (locs : List Loc), va_P D vwCl (CUW cI cJ q I J (fu (fu a 2 a2) 3 a3) b) H → va_S (CUA q) s.heap H locs → ∀ ls : Array Slot, lv_has ls 4 [(0, .ref (q 1)), (2, .int v2), (3, .int v3)] → W p l e R s m args below meth c H locs 0 0 Q (F0 m 14 ls []) := by
    intro n14
    induction n14 with
    | zero => intro v2 v3 a2 a3 h; rw [k_X5_addRow_14] at h; cases h
    | succ n14 ih14 =>
      intro v2 v3 a2 a3 h H locs hP hS ls hl
      rw [k_X5_addRow_14] at h
      refine lv_iload_n hx hb dX5_addRow_14 rfl (lv_at hl 2 rfl) ?_
      refine lv_bipush (v := 14) hx hb dX5_addRow_15 (by decide) ?_
      refine lv_icmp_ge (tgt := 38) hx hb dX5_addRow_17 (by decide) (fun c_1 => ?_) (fun c_1 => ?_)
      · have h := if_t c_1 h
        refine lv_aload_n hx hb dX5_addRow_38 rfl (lv_at hl 0 rfl) ?_
        refine lv_dup hx hb dX5_addRow_39 rfl ?_
        refine va_get (D := D) (ci := 5) (v := .long (J 1)) (C := RX5) (T := TX5) (N := 9) hx hb hts in_X5_addRow_X5 hown hK hP 1 rfl rfl 3 (by decide) (hts (.fieldLink RX5 42 "LearnedReasons$Things" "rows" "J") (by decide +kernel)) (fun _ h9 => h9) rfl dX5_addRow_40 ?_
        refine lv_lconst (v := 1) hx hb dX5_addRow_43 (by decide) ?_
        refine lv_iload_n hx hb dX5_addRow_44 rfl (lv_at hl 1 rfl) ?_
        refine lv_lshl hx hb dX5_addRow_45 rfl ?_
        refine lv_lor hx hb dX5_addRow_46 ?_
        refine lv_topl (fun w_2 ew_2 => ?_)
        have h := nmJ_at ew_2 h
        refine va_put (D := D) (ci := 5) (v := .long w_2) (ty := .long) (C := RX5) (T := TX5) (N := 9) hx hb hts in_X5_addRow_X5 tyX5 tyX5_ok nmX5 hown hK hP (CUW_D hq) hS 1 rfl rfl 3 (by decide) (hts (.fieldLink RX5 42 "LearnedReasons$Things" "rows" "J") (by decide +kernel)) (fun _ h9 => h9) rfl (by decide +kernel) rfl rfl (Nat.le_of_ble_eq_true rfl) dX5_addRow_47 (fun H locs hP _ hS => ?_)
        have hP : va_P D vwCl (CUW cI cJ q I (fu J 1 w_2) (fu (fu a 2 a2) 3 a3) b) H := hP
        refine lv_aload_n hx hb dX5_addRow_50 rfl (lv_at hl 0 rfl) ?_
        refine lv_iload_n hx hb dX5_addRow_51 rfl (lv_at hl 1 rfl) ?_
        obtain ⟨x_3, hx_3, h⟩ := ob_some h
        refine va_callv (va_runV (As := [.int v2]) (rest := []) ⟨hx, hb, hml, hown, hts⟩ (c_X5_place l D cI cJ q hq F I (fu J 1 w_2) (fu (fu a 2 a2) 3 a3) b v2 x_3 hx_3) (cwV 1 hts gX5_addRow_X5_place rfl rfl rfl (by decide +kernel) (by rw [hR]; exact ⟨Nat.le_of_ble_eq_true rfl, Nat.le_of_ble_eq_true rfl⟩)) ⟨CUPc_blind, va_recv hK hP (ci := 5) (q0 := 1) rfl rfl, fun U hU hW => ⟨rfl, by rw [hU]; exact hP, va_K.moved hW.alike hK, va_Nw.warmM hW hN⟩⟩ rfl rfl hl.1 rfl (lv_room (Nat.le_of_ble_eq_true rfl)) dX5_addRow_52 ⟨Nat.zero_le _, Nat.zero_le _⟩) hS (fun _ _ h => h) (fun _ h => h) (fun u t H1 locs ht hvm hw hB hz1 hk1 hS => ?_)
        obtain rfl := hw.symm
        rw [ht] at hB
        have hP : va_P D vwCl (CUW cI cJ q (fu I 5 x_3.1) (fu (fu (fu J 0 x_3.2.1) 1 w_2) 2 x_3.2.2) (fu (fu a 2 a2) 3 a3) b) H1 := hB
        clear hB hz1 hk1 ht hvm
        generalize H1 = H at hP hS ⊢
        refine lv_iload_n hx hb dX5_addRow_55 rfl (lv_at hl 1 rfl) ?_
        have hx0 := Option.some.inj h
        rw [hQ]
        exact W.iret (v := v2) hx hb hr (fun t ht hW => ⟨⟨v2, (x_3.1, x_3.2.1, w_2, x_3.2.2, a2, a3), rfl, ⟨congrArg (fun z => z.1) hx0, congrArg (fun z => z.2) hx0⟩, by show va_P _ _ _ t.heap; rw [ht]; exact hP⟩, hS.F ht⟩) hS.2.2 dX5_addRow_56
      · have h := if_f c_1 h
        refine lv_aload_n hx hb dX5_addRow_20 rfl (lv_at hl 0 rfl) ?_
        refine va_get (D := D) (ci := 5) (v := .ref (q 10)) (C := RX5) (T := TX5) (N := 9) hx hb hts in_X5_addRow_X5 hown hK hP 1 rfl rfl 8 (by decide) (hts (.fieldLink RX5 21 "LearnedReasons$Things" "weights" "[I") (by decide +kernel)) (fun _ h9 => h9) rfl dX5_addRow_21 ?_
        refine lv_iload_n hx hb dX5_addRow_24 rfl (lv_at hl 1 rfl) ?_
        refine lv_bipush (v := 14) hx hb dX5_addRow_25 (by decide) ?_
        refine lv_imul hx hb dX5_addRow_27 ?_
        refine lv_iload_n hx hb dX5_addRow_28 rfl (lv_at hl 2 rfl) ?_
        refine lv_iadd hx hb dX5_addRow_29 ?_
        refine lv_iconst (v := 0) hx hb dX5_addRow_30 (by decide) ?_
        obtain ⟨g_4, h⟩ := gd_some h
        refine va_iast hx hb hK hP (CUW_D hq) hS 10 0 rfl rfl g_4 dX5_addRow_31 (fun H locs hP _ hS => ?_)
        have hP : va_P D vwCl (CUW cI cJ q I J (fu (fu a 2 a2) 3 (upd a3 ((v2 * 14) + v3).toNatClampNeg 0)) b) H := hP
        refine lv_iinc (v := v3 + 1) (lv' := [(3, .int (v3 + 1)), (0, .ref (q 1)), (2, .int v2)]) hx hb dX5_addRow_32 hl (k := 2) rfl rfl (by decide) rfl (fun ls hl => ?_)
        refine lv_goto (tgt := 14) hx hb dX5_addRow_35 (by decide) ?_
        exact ih14 v2 (v3 + 1) a2 (upd a3 ((v2 * 14) + v3).toNatClampNeg 0) h _ _ hP hS ls (lv_sub hl [1, 2, 0] rfl)
  refine lv_aload_n hx hb dX5_addRow_0 rfl (lv_at hl 0 rfl) ?_
  refine va_get (D := D) (ci := 5) (v := .int (I 5)) (C := RX5) (T := TX5) (N := 9) hx hb hts in_X5_addRow_X5 hown hK hP 1 rfl rfl 1 (by decide) (hts (.fieldLink RX5 35 "LearnedReasons$Things" "numbersGiven" "I") (by decide +kernel)) (fun _ h9 => h9) rfl dX5_addRow_1 ?_
  refine lv_istore_n (lv' := [(2, .int (I 5)), (0, .ref (q 1)), (1, .int v1)]) hx hb dX5_addRow_4 rfl hl (by decide) rfl (fun ls hl => ?_)
  refine lv_aload_n hx hb dX5_addRow_5 rfl (lv_at hl 1 rfl) ?_
  refine va_get (D := D) (ci := 5) (v := .ref (q 9)) (C := RX5) (T := TX5) (N := 9) hx hb hts in_X5_addRow_X5 hown hK hP 1 rfl rfl 7 (by decide) (hts (.fieldLink RX5 18 "LearnedReasons$Things" "bounds" "[I") (by decide +kernel)) (fun _ h9 => h9) rfl dX5_addRow_6 ?_
  refine lv_iload_n hx hb dX5_addRow_9 rfl (lv_at hl 0 rfl) ?_
  refine lv_iload_n hx hb dX5_addRow_10 rfl (lv_at hl 2 rfl) ?_
  obtain ⟨g_5, h⟩ := gd_some h
  refine va_iast hx hb hK hP (CUW_D hq) hS 9 0 rfl rfl g_5 dX5_addRow_11 (fun H locs hP _ hS => ?_)
  have hP : va_P D vwCl (CUW cI cJ q I J (fu a 2 (upd (a 2) (I 5).toNatClampNeg v1)) b) H := hP
  refine lv_iconst (v := 0) hx hb dX5_addRow_12 (by decide) ?_
  refine lv_istore_n (lv' := [(3, .int 0), (2, .int (I 5)), (0, .ref (q 1)), (1, .int v1)]) hx hb dX5_addRow_13 rfl hl (by decide) rfl (fun ls hl => ?_)
  exact C14 F (I 5) 0 (upd (a 2) (I 5).toNatClampNeg v1) (a 3) h _ _ hP hS ls (lv_sub hl [2, 1, 0] rfl)
theorem in_X6_row_X6 : ∀ w ∈ wsX60, w ∈ wsX6_row := by decide +kernel
set_option maxHeartbeats 4000000 in
set_option maxRecDepth 100000 in
theorem c_X6_row (l : Launch) (D : va_G) (cI cJ : ClassId) (q : Nat → Nat) (hq : CUQ q) (F : Nat) (I : Nat → Int32) (J : Nat → Int64) (a : Nat → Nat → Int32) (b : Nat → Nat → Int64) (v1 : Int32) (x0 : Int32 × Int32 × Int32 × Int32 × Int32 × Int32 × Int64 × Int64 × Int64 × (Nat → Int32) × (Nat → Int32)) (h : f_X6_row F I J a b v1 = some x0) : Met l yX6_row wsX6_row ({ frames := 2, cells := 0, slots := 0, locals := 44 }) (CUPc D cI cJ q I J a b [.ref (q 0), .int v1]) (va_Qi (fun (r : Int32) (u : Int32 × Int32 × Int32 × Int32 × Int32 × Int64 × Int64 × Int64 × (Nat → Int32) × (Nat → Int32)) => r = x0.1 ∧ u = x0.2) (fun (u : Int32 × Int32 × Int32 × Int32 × Int32 × Int64 × Int64 × Int64 × (Nat → Int32) × (Nat → Int32)) t => va_P D vwCl (CUW cI cJ q (fu (fu (fu (fu (fu I 5 u.1) 6 u.2.1) 11 u.2.2.1) 17 u.2.2.2.1) 18 u.2.2.2.2.1) (fu (fu (fu J 0 u.2.2.2.2.2.1) 1 u.2.2.2.2.2.2.1) 2 u.2.2.2.2.2.2.2.1) (fu (fu a 2 u.2.2.2.2.2.2.2.2.1) 3 u.2.2.2.2.2.2.2.2.2) b) t.heap) (CUA q)) 0 0 (CUA q) := by
  refine mt_of (cc := cX6_row) (maxL := 2) (ret := (some .int)) (by decide) rfl ?_
  intro p e s m args below meth c s₁ B0 hml hv R Q hR hQ
  obtain ⟨hargs, hP, hK, hN⟩ := hv
  have hx := B0.exec
  have hb := B0.bytes
  have hr := B0.returns
  have hts := atoms_spec (ws := wsX6_row) B0.pre
  have hown : s.vm.findClass RX6 = some m.cls := findClass_of_methodNamed B0.named
  have hlocks := B0.notSynchronized
  have hS : va_S (CUA q) s.heap s.heap [] := va_S.rf
  have hl := lv_entry ([.ref (q 0), .int v1]) (n := 2) (Nat.le_of_ble_eq_true rfl)
  rw [hargs, lg_entry_eq]
  rw [← hargs]
  generalize (lg_sl ([.ref (q 0), .int v1]) ++ List.replicate (2 - (lg_sl ([.ref (q 0), .int v1])).length) Slot.unset).toArray = ls at hl ⊢
  have hl : lv_has ls 2 [(0, .ref (q 0)), (1, .int v1)] := hl
  unfold f_X6_row at h
  refine lv_iload_n hx hb dX6_row_0 rfl (lv_at hl 1 rfl) ?_
  refine lv_sipush (v := 200) hx hb dX6_row_1 (by decide) ?_
  obtain ⟨x_1, hx_1, h⟩ := ob_some h
  refine va_calli (va_runS (As := [.int v1, .int 200]) (rest := []) ⟨hx, hb, hml, hown, hts⟩ (c_X6_isOutside l F v1 200 x_1 hx_1) (va_cwS 2 hts gX6_row_X6_isOutside rfl rfl rfl (by decide +kernel) (by rw [hR]; exact ⟨Nat.le_of_ble_eq_true rfl, Nat.le_of_ble_eq_true rfl⟩)) ⟨fun _ _ _ _ h => h, fun U hU hW => ⟨rfl, trivial⟩⟩ rfl rfl hl.1 rfl (lv_room (Nat.le_of_ble_eq_true rfl)) dX6_row_4 ⟨Nat.zero_le _, Nat.zero_le _⟩) hS (fun _ _ h => h.elim) (fun _ h => h.elim) (fun r u t H1 locs ht hvm hw hB hz1 hk1 hS => ?_)
  obtain rfl := hw.symm
  have hP := hP.kept (fun k x hx => hk1 x.1 (hP k x hx).lt (fun h => h))
  clear hB hz1 hk1 ht hvm
  generalize H1 = H at hP hS ⊢
  refine lv_if_eq (tgt := 13) hx hb dX6_row_7 (by decide) (fun c_2 => ?_) (fun c_2 => ?_)
  · have h := if_t c_2 h
    refine lv_aload_n hx hb dX6_row_13 rfl (lv_at hl 0 rfl) ?_
    refine va_get (D := D) (ci := 6) (v := .ref (q 1)) (C := RX6) (T := TX6) (N := 9) hx hb hts in_X6_row_X6 hown hK hP 0 rfl rfl 0 (by decide) (hts (.fieldLink RX6 10 "LearnedReasons" "things" "LLearnedReasons$Things;") (by decide +kernel)) (fun _ h9 => h9) rfl dX6_row_14 ?_
    obtain ⟨x_3, hx_3, h⟩ := ob_some h
    refine va_calli (va_runV (As := []) (rest := []) ⟨hx, hb, hml, hown, hts⟩ (c_X5_isFull l D cI cJ q hq F I J a b x_3 hx_3) (cwV 0 hts gX6_row_X5_isFull rfl rfl rfl (by decide +kernel) (by rw [hR]; exact ⟨Nat.le_of_ble_eq_true rfl, Nat.le_of_ble_eq_true rfl⟩)) ⟨CUPc_blind, va_recv hK hP (ci := 5) (q0 := 1) rfl rfl, fun U hU hW => ⟨rfl, by rw [hU]; exact hP, va_K.moved hW.alike hK, va_Nw.warmM hW hN⟩⟩ rfl rfl hl.1 rfl (lv_room (Nat.le_of_ble_eq_true rfl)) dX6_row_17 ⟨Nat.zero_le _, Nat.zero_le _⟩) hS (fun _ _ h => h) (fun _ h => h) (fun r u t H1 locs ht hvm hw hB hz1 hk1 hS => ?_)
    obtain rfl := hw.symm
    rw [ht] at hB
    have hP : va_P D vwCl (CUW cI cJ q I J a b) H1 := hB
    clear hB hz1 hk1 ht hvm
    generalize H1 = H at hP hS ⊢
    refine lv_if_eq (tgt := 26) hx hb dX6_row_20 (by decide) (fun c_4 => ?_) (fun c_4 => ?_)
    · have h := if_t c_4 h
      refine lv_aload_n hx hb dX6_row_26 rfl (lv_at hl 0 rfl) ?_
      obtain ⟨x_5, hx_5, h⟩ := ob_some h
      refine va_callv (va_runV (As := []) (rest := []) ⟨hx, hb, hml, hown, hts⟩ (c_X6_outdate l D cI cJ q hq F I J a b x_5 hx_5) (cwV 0 hts gX6_row_X6_outdate rfl rfl rfl (by decide +kernel) (by rw [hR]; exact ⟨Nat.le_of_ble_eq_true rfl, Nat.le_of_ble_eq_true rfl⟩)) ⟨CUPc_blind, va_recv hK hP (ci := 6) (q0 := 0) rfl rfl, fun U hU hW => ⟨rfl, by rw [hU]; exact hP, va_K.moved hW.alike hK, va_Nw.warmM hW hN⟩⟩ rfl rfl hl.1 rfl (lv_room (Nat.le_of_ble_eq_true rfl)) dX6_row_27 ⟨Nat.zero_le _, Nat.zero_le _⟩) hS (fun _ _ h => h) (fun _ h => h) (fun u t H1 locs ht hvm hw hB hz1 hk1 hS => ?_)
      obtain rfl := hw.symm
      rw [ht] at hB
      have hP : va_P D vwCl (CUW cI cJ q (fu (fu (fu (fu I 6 x_5.1) 11 x_5.2.1) 17 x_5.2.2.1) 18 x_5.2.2.2) J a b) H1 := hB
      clear hB hz1 hk1 ht hvm
      generalize H1 = H at hP hS ⊢
      refine lv_aload_n hx hb dX6_row_30 rfl (lv_at hl 0 rfl) ?_
      refine va_get (D := D) (ci := 6) (v := .ref (q 1)) (C := RX6) (T := TX6) (N := 9) hx hb hts in_X6_row_X6 hown hK hP 0 rfl rfl 0 (by decide) (hts (.fieldLink RX6 10 "LearnedReasons" "things" "LLearnedReasons$Things;") (by decide +kernel)) (fun _ h9 => h9) rfl dX6_row_31 ?_
      refine lv_iload_n hx hb dX6_row_34 rfl (lv_at hl 1 rfl) ?_
      obtain ⟨x_6, hx_6, h⟩ := ob_some h
      refine va_calli (va_runV (As := [.int v1]) (rest := []) ⟨hx, hb, hml, hown, hts⟩ (c_X5_addRow l D cI cJ q hq F (fu (fu (fu (fu I 6 x_5.1) 11 x_5.2.1) 17 x_5.2.2.1) 18 x_5.2.2.2) J a b v1 x_6 hx_6) (cwV 1 hts gX6_row_X5_addRow rfl rfl rfl (by decide +kernel) (by rw [hR]; exact ⟨Nat.le_of_ble_eq_true rfl, Nat.le_of_ble_eq_true rfl⟩)) ⟨CUPc_blind, va_recv hK hP (ci := 5) (q0 := 1) rfl rfl, fun U hU hW => ⟨rfl, by rw [hU]; exact hP, va_K.moved hW.alike hK, va_Nw.warmM hW hN⟩⟩ rfl rfl hl.1 rfl (lv_room (Nat.le_of_ble_eq_true rfl)) dX6_row_35 ⟨Nat.zero_le _, Nat.zero_le _⟩) hS (fun _ _ h => h) (fun _ h => h) (fun r u t H1 locs ht hvm hw hB hz1 hk1 hS => ?_)
      obtain ⟨rfl, rfl⟩ := hw
      rw [ht] at hB
      have hP : va_P D vwCl (CUW cI cJ q (fu (fu (fu (fu (fu I 5 x_6.2.1) 6 x_5.1) 11 x_5.2.1) 17 x_5.2.2.1) 18 x_5.2.2.2) (fu (fu (fu J 0 x_6.2.2.1) 1 x_6.2.2.2.1) 2 x_6.2.2.2.2.1) (fu (fu a 2 x_6.2.2.2.2.2.1) 3 x_6.2.2.2.2.2.2) b) H1 := hB
      clear hB hz1 hk1 ht hvm
      generalize H1 = H at hP hS ⊢
      have hx0 := Option.some.inj h
      rw [hQ]
      exact W.iret (v := x_6.1) hx hb hr (fun t ht hW => ⟨⟨x_6.1, (x_6.2.1, x_5.1, x_5.2.1, x_5.2.2.1, x_5.2.2.2, x_6.2.2.1, x_6.2.2.2.1, x_6.2.2.2.2.1, x_6.2.2.2.2.2.1, x_6.2.2.2.2.2.2), rfl, ⟨congrArg (fun z => z.1) hx0, congrArg (fun z => z.2) hx0⟩, by show va_P _ _ _ t.heap; rw [ht]; exact hP⟩, hS.F ht⟩) hS.2.2 dX6_row_38
    · have h := if_f c_4 h
      refine lv_bipush (v := (-4)) hx hb dX6_row_23 (by decide) ?_
      have hx0 := Option.some.inj h
      rw [hQ]
      exact W.iret (v := (-4)) hx hb hr (fun t ht hW => ⟨⟨(-4), ((I 5), (I 6), (I 11), (I 17), (I 18), (J 0), (J 1), (J 2), (a 2), (a 3)), rfl, ⟨congrArg (fun z => z.1) hx0, congrArg (fun z => z.2) hx0⟩, by show va_P _ _ _ t.heap; rw [ht]; exact hP⟩, hS.F ht⟩) hS.2.2 dX6_row_25
  · have h := if_f c_2 h
    refine lv_bipush (v := (-2)) hx hb dX6_row_10 (by decide) ?_
    have hx0 := Option.some.inj h
    rw [hQ]
    exact W.iret (v := (-2)) hx hb hr (fun t ht hW => ⟨⟨(-2), ((I 5), (I 6), (I 11), (I 17), (I 18), (J 0), (J 1), (J 2), (a 2), (a 3)), rfl, ⟨congrArg (fun z => z.1) hx0, congrArg (fun z => z.2) hx0⟩, by show va_P _ _ _ t.heap; rw [ht]; exact hP⟩, hS.F ht⟩) hS.2.2 dX6_row_12
theorem in_X5_stands_X5 : ∀ w ∈ wsX50, w ∈ wsX5_stands := by decide +kernel
set_option maxHeartbeats 4000000 in
set_option maxRecDepth 100000 in
theorem c_X5_stands (l : Launch) (D : va_G) (cI cJ : ClassId) (q : Nat → Nat) (hq : CUQ q) (F : Nat) (I : Nat → Int32) (J : Nat → Int64) (a : Nat → Nat → Int32) (b : Nat → Nat → Int64) (v1 : Int32) (x0 : Int32) (h : f_X5_stands F I J a b v1 = some x0) : Met l yX5_stands wsX5_stands ({ frames := 0, cells := 0, slots := 0, locals := 0 }) (CUPc D cI cJ q I J a b [.ref (q 1), .int v1]) (va_Qi (fun (r : Int32) (u : Unit) => r = x0) (fun (u : Unit) t => va_P D vwCl (CUW cI cJ q I J a b) t.heap) (CUA q)) 0 0 (CUA q) := by
  refine mt_of (cc := cX5_stands) (maxL := 2) (ret := (some .boolean)) (by decide) rfl ?_
  intro p e s m args below meth c s₁ B0 hml hv R Q hR hQ
  obtain ⟨hargs, hP, hK, hN⟩ := hv
  have hx := B0.exec
  have hb := B0.bytes
  have hr := B0.returns
  have hts := atoms_spec (ws := wsX5_stands) B0.pre
  have hown : s.vm.findClass RX5 = some m.cls := findClass_of_methodNamed B0.named
  have hlocks := B0.notSynchronized
  have hS : va_S (CUA q) s.heap s.heap [] := va_S.rf
  have hl := lv_entry ([.ref (q 1), .int v1]) (n := 2) (Nat.le_of_ble_eq_true rfl)
  rw [hargs, lg_entry_eq]
  rw [← hargs]
  generalize (lg_sl ([.ref (q 1), .int v1]) ++ List.replicate (2 - (lg_sl ([.ref (q 1), .int v1])).length) Slot.unset).toArray = ls at hl ⊢
  have hl : lv_has ls 2 [(0, .ref (q 1)), (1, .int v1)] := hl
  unfold f_X5_stands at h
  refine lv_iload_n hx hb dX5_stands_0 rfl (lv_at hl 1 rfl) ?_
  refine lv_if_lt (tgt := 29) hx hb dX5_stands_1 (by decide) (fun c_1 => ?_) (fun c_1 => ?_)
  · have h := if_t c_1 h
    refine lv_iconst (v := 0) hx hb dX5_stands_29 (by decide) ?_
    have hx0 := Option.some.inj h
    rw [hQ]
    exact W.zret (v := 0) hx hb hr (rfl) (fun t ht hW => ⟨⟨0, (), rfl, hx0, by show va_P _ _ _ t.heap; rw [ht]; exact hP⟩, hS.F ht⟩) hS.2.2 dX5_stands_30
  · have h := if_f c_1 h
    refine lv_iload_n hx hb dX5_stands_4 rfl (lv_at hl 1 rfl) ?_
    refine lv_aload_n hx hb dX5_stands_5 rfl (lv_at hl 0 rfl) ?_
    refine va_get (D := D) (ci := 5) (v := .int (I 5)) (C := RX5) (T := TX5) (N := 9) hx hb hts in_X5_stands_X5 hown hK hP 1 rfl rfl 1 (by decide) (hts (.fieldLink RX5 35 "LearnedReasons$Things" "numbersGiven" "I") (by decide +kernel)) (fun _ h9 => h9) rfl dX5_stands_6 ?_
    refine lv_icmp_ge (tgt := 29) hx hb dX5_stands_9 (by decide) (fun c_2 => ?_) (fun c_2 => ?_)
    · have h := if_t c_2 h
      refine lv_iconst (v := 0) hx hb dX5_stands_29 (by decide) ?_
      have hx0 := Option.some.inj h
      rw [hQ]
      exact W.zret (v := 0) hx hb hr (rfl) (fun t ht hW => ⟨⟨0, (), rfl, hx0, by show va_P _ _ _ t.heap; rw [ht]; exact hP⟩, hS.F ht⟩) hS.2.2 dX5_stands_30
    · have h := if_f c_2 h
      refine lv_aload_n hx hb dX5_stands_12 rfl (lv_at hl 0 rfl) ?_
      refine va_get (D := D) (ci := 5) (v := .long (J 0)) (C := RX5) (T := TX5) (N := 9) hx hb hts in_X5_stands_X5 hown hK hP 1 rfl rfl 2 (by decide) (hts (.fieldLink RX5 28 "LearnedReasons$Things" "standing" "J") (by decide +kernel)) (fun _ h9 => h9) rfl dX5_stands_13 ?_
      refine lv_iload_n hx hb dX5_stands_16 rfl (lv_at hl 1 rfl) ?_
      refine lv_lshr hx hb dX5_stands_17 rfl ?_
      refine lv_lconst (v := 1) hx hb dX5_stands_18 (by decide) ?_
      refine lv_land hx hb dX5_stands_19 ?_
      refine lv_lconst (v := 1) hx hb dX5_stands_20 (by decide) ?_
      refine W.lcmp hx hb dX5_stands_21 ?_
      refine lv_if_ne (tgt := 29) hx hb dX5_stands_22 (by decide) (fun c_3 => ?_) (fun c_3 => ?_)
      · have h := if_f c_3 h
        refine lv_iconst (v := 0) hx hb dX5_stands_29 (by decide) ?_
        have hx0 := Option.some.inj h
        rw [hQ]
        exact W.zret (v := 0) hx hb hr (rfl) (fun t ht hW => ⟨⟨0, (), rfl, hx0, by show va_P _ _ _ t.heap; rw [ht]; exact hP⟩, hS.F ht⟩) hS.2.2 dX5_stands_30
      · have h := if_t c_3 h
        refine lv_iconst (v := 1) hx hb dX5_stands_25 (by decide) ?_
        refine lv_goto (tgt := 30) hx hb dX5_stands_26 (by decide) ?_
        have hx0 := Option.some.inj h
        rw [hQ]
        exact W.zret (v := 1) hx hb hr (rfl) (fun t ht hW => ⟨⟨1, (), rfl, hx0, by show va_P _ _ _ t.heap; rw [ht]; exact hP⟩, hS.F ht⟩) hS.2.2 dX5_stands_30
theorem in_X5_isRow_X5 : ∀ w ∈ wsX50, w ∈ wsX5_isRow := by decide +kernel
set_option maxHeartbeats 4000000 in
set_option maxRecDepth 100000 in
theorem c_X5_isRow (l : Launch) (D : va_G) (cI cJ : ClassId) (q : Nat → Nat) (hq : CUQ q) (F : Nat) (I : Nat → Int32) (J : Nat → Int64) (a : Nat → Nat → Int32) (b : Nat → Nat → Int64) (v1 : Int32) (x0 : Int32) (h : f_X5_isRow F I J a b v1 = some x0) : Met l yX5_isRow wsX5_isRow ({ frames := 1, cells := 0, slots := 0, locals := 21 }) (CUPc D cI cJ q I J a b [.ref (q 1), .int v1]) (va_Qi (fun (r : Int32) (u : Unit) => r = x0) (fun (u : Unit) t => va_P D vwCl (CUW cI cJ q I J a b) t.heap) (CUA q)) 0 0 (CUA q) := by
  refine mt_of (cc := cX5_isRow) (maxL := 2) (ret := (some .boolean)) (by decide) rfl ?_
  intro p e s m args below meth c s₁ B0 hml hv R Q hR hQ
  obtain ⟨hargs, hP, hK, hN⟩ := hv
  have hx := B0.exec
  have hb := B0.bytes
  have hr := B0.returns
  have hts := atoms_spec (ws := wsX5_isRow) B0.pre
  have hown : s.vm.findClass RX5 = some m.cls := findClass_of_methodNamed B0.named
  have hlocks := B0.notSynchronized
  have hS : va_S (CUA q) s.heap s.heap [] := va_S.rf
  have hl := lv_entry ([.ref (q 1), .int v1]) (n := 2) (Nat.le_of_ble_eq_true rfl)
  rw [hargs, lg_entry_eq]
  rw [← hargs]
  generalize (lg_sl ([.ref (q 1), .int v1]) ++ List.replicate (2 - (lg_sl ([.ref (q 1), .int v1])).length) Slot.unset).toArray = ls at hl ⊢
  have hl : lv_has ls 2 [(0, .ref (q 1)), (1, .int v1)] := hl
  unfold f_X5_isRow at h
  refine lv_aload_n hx hb dX5_isRow_0 rfl (lv_at hl 0 rfl) ?_
  refine lv_iload_n hx hb dX5_isRow_1 rfl (lv_at hl 1 rfl) ?_
  obtain ⟨x_1, hx_1, h⟩ := ob_some h
  refine va_calli (va_runV (As := [.int v1]) (rest := []) ⟨hx, hb, hml, hown, hts⟩ (c_X5_stands l D cI cJ q hq F I J a b v1 x_1 hx_1) (cwV 1 hts gX5_isRow_X5_stands rfl rfl rfl (by decide +kernel) (by rw [hR]; exact ⟨Nat.le_of_ble_eq_true rfl, Nat.le_of_ble_eq_true rfl⟩)) ⟨CUPc_blind, va_recv hK hP (ci := 5) (q0 := 1) rfl rfl, fun U hU hW => ⟨rfl, by rw [hU]; exact hP, va_K.moved hW.alike hK, va_Nw.warmM hW hN⟩⟩ rfl rfl hl.1 rfl (lv_room (Nat.le_of_ble_eq_true rfl)) dX5_isRow_2 ⟨Nat.zero_le _, Nat.zero_le _⟩) hS (fun _ _ h => h) (fun _ h => h) (fun r u t H1 locs ht hvm hw hB hz1 hk1 hS => ?_)
  obtain rfl := hw.symm
  rw [ht] at hB
  have hP : va_P D vwCl (CUW cI cJ q I J a b) H1 := hB
  clear hB hz1 hk1 ht hvm
  generalize H1 = H at hP hS ⊢
  refine lv_if_eq (tgt := 25) hx hb dX5_isRow_5 (by decide) (fun c_2 => ?_) (fun c_2 => ?_)
  · have h := if_t c_2 h
    refine lv_iconst (v := 0) hx hb dX5_isRow_25 (by decide) ?_
    have hx0 := Option.some.inj h
    rw [hQ]
    exact W.zret (v := 0) hx hb hr (rfl) (fun t ht hW => ⟨⟨0, (), rfl, hx0, by show va_P _ _ _ t.heap; rw [ht]; exact hP⟩, hS.F ht⟩) hS.2.2 dX5_isRow_26
  · have h := if_f c_2 h
    refine lv_aload_n hx hb dX5_isRow_8 rfl (lv_at hl 0 rfl) ?_
    refine va_get (D := D) (ci := 5) (v := .long (J 1)) (C := RX5) (T := TX5) (N := 9) hx hb hts in_X5_isRow_X5 hown hK hP 1 rfl rfl 3 (by decide) (hts (.fieldLink RX5 42 "LearnedReasons$Things" "rows" "J") (by decide +kernel)) (fun _ h9 => h9) rfl dX5_isRow_9 ?_
    refine lv_iload_n hx hb dX5_isRow_12 rfl (lv_at hl 1 rfl) ?_
    refine lv_lshr hx hb dX5_isRow_13 rfl ?_
    refine lv_lconst (v := 1) hx hb dX5_isRow_14 (by decide) ?_
    refine lv_land hx hb dX5_isRow_15 ?_
    refine lv_lconst (v := 1) hx hb dX5_isRow_16 (by decide) ?_
    refine W.lcmp hx hb dX5_isRow_17 ?_
    refine lv_if_ne (tgt := 25) hx hb dX5_isRow_18 (by decide) (fun c_3 => ?_) (fun c_3 => ?_)
    · have h := if_f c_3 h
      refine lv_iconst (v := 0) hx hb dX5_isRow_25 (by decide) ?_
      have hx0 := Option.some.inj h
      rw [hQ]
      exact W.zret (v := 0) hx hb hr (rfl) (fun t ht hW => ⟨⟨0, (), rfl, hx0, by show va_P _ _ _ t.heap; rw [ht]; exact hP⟩, hS.F ht⟩) hS.2.2 dX5_isRow_26
    · have h := if_t c_3 h
      refine lv_iconst (v := 1) hx hb dX5_isRow_21 (by decide) ?_
      refine lv_goto (tgt := 26) hx hb dX5_isRow_22 (by decide) ?_
      have hx0 := Option.some.inj h
      rw [hQ]
      exact W.zret (v := 1) hx hb hr (rfl) (fun t ht hW => ⟨⟨1, (), rfl, hx0, by show va_P _ _ _ t.heap; rw [ht]; exact hP⟩, hS.F ht⟩) hS.2.2 dX5_isRow_26
theorem in_X5_setWeight_X5 : ∀ w ∈ wsX50, w ∈ wsX5_setWeight := by decide +kernel
set_option maxHeartbeats 4000000 in
set_option maxRecDepth 100000 in
theorem c_X5_setWeight (l : Launch) (D : va_G) (cI cJ : ClassId) (q : Nat → Nat) (hq : CUQ q) (F : Nat) (I : Nat → Int32) (J : Nat → Int64) (a : Nat → Nat → Int32) (b : Nat → Nat → Int64) (v1 : Int32) (v2 : Int32) (v3 : Int32) (x0 : Int64 × (Nat → Int32)) (h : f_X5_setWeight F I J a b v1 v2 v3 = some x0) : Met l yX5_setWeight wsX5_setWeight ({ frames := 0, cells := 0, slots := 0, locals := 0 }) (CUPc D cI cJ q I J a b [.ref (q 1), .int v1, .int v2, .int v3]) (va_Qv (fun (u : Int64 × (Nat → Int32)) => u = x0) (fun (u : Int64 × (Nat → Int32)) t => va_P D vwCl (CUW cI cJ q I (fu J 2 u.1) (fu a 3 u.2) b) t.heap) (CUA q)) 0 0 (CUA q) := by
  refine mt_of (cc := cX5_setWeight) (maxL := 4) (ret := none) (by decide) rfl ?_
  intro p e s m args below meth c s₁ B0 hml hv R Q hR hQ
  obtain ⟨hargs, hP, hK, hN⟩ := hv
  have hx := B0.exec
  have hb := B0.bytes
  have hr := B0.returns
  have hts := atoms_spec (ws := wsX5_setWeight) B0.pre
  have hown : s.vm.findClass RX5 = some m.cls := findClass_of_methodNamed B0.named
  have hlocks := B0.notSynchronized
  have hS : va_S (CUA q) s.heap s.heap [] := va_S.rf
  have hl := lv_entry ([.ref (q 1), .int v1, .int v2, .int v3]) (n := 4) (Nat.le_of_ble_eq_true rfl)
  rw [hargs, lg_entry_eq]
  rw [← hargs]
  generalize (lg_sl ([.ref (q 1), .int v1, .int v2, .int v3]) ++ List.replicate (4 - (lg_sl ([.ref (q 1), .int v1, .int v2, .int v3])).length) Slot.unset).toArray = ls at hl ⊢
  have hl : lv_has ls 4 [(0, .ref (q 1)), (1, .int v1), (2, .int v2), (3, .int v3)] := hl
  unfold f_X5_setWeight at h
  refine lv_aload_n hx hb dX5_setWeight_0 rfl (lv_at hl 0 rfl) ?_
  refine va_get (D := D) (ci := 5) (v := .ref (q 10)) (C := RX5) (T := TX5) (N := 9) hx hb hts in_X5_setWeight_X5 hown hK hP 1 rfl rfl 8 (by decide) (hts (.fieldLink RX5 21 "LearnedReasons$Things" "weights" "[I") (by decide +kernel)) (fun _ h9 => h9) rfl dX5_setWeight_1 ?_
  refine lv_iload_n hx hb dX5_setWeight_4 rfl (lv_at hl 1 rfl) ?_
  refine lv_bipush (v := 14) hx hb dX5_setWeight_5 (by decide) ?_
  refine lv_imul hx hb dX5_setWeight_7 ?_
  refine lv_iload_n hx hb dX5_setWeight_8 rfl (lv_at hl 2 rfl) ?_
  refine lv_iadd hx hb dX5_setWeight_9 ?_
  refine lv_iload_n hx hb dX5_setWeight_10 rfl (lv_at hl 3 rfl) ?_
  obtain ⟨g_1, h⟩ := gd_some h
  refine va_iast hx hb hK hP (CUW_D hq) hS 10 0 rfl rfl g_1 dX5_setWeight_11 (fun H locs hP _ hS => ?_)
  have hP : va_P D vwCl (CUW cI cJ q I J (fu a 3 (upd (a 3) ((v1 * 14) + v2).toNatClampNeg v3)) b) H := hP
  refine lv_aload_n hx hb dX5_setWeight_12 rfl (lv_at hl 0 rfl) ?_
  refine lv_dup hx hb dX5_setWeight_13 rfl ?_
  refine va_get (D := D) (ci := 5) (v := .long (J 2)) (C := RX5) (T := TX5) (N := 9) hx hb hts in_X5_setWeight_X5 hown hK hP 1 rfl rfl 4 (by decide) (hts (.fieldLink RX5 32 "LearnedReasons$Things" "unread" "J") (by decide +kernel)) (fun _ h9 => h9) rfl dX5_setWeight_14 ?_
  refine lv_lconst (v := 1) hx hb dX5_setWeight_17 (by decide) ?_
  refine lv_iload_n hx hb dX5_setWeight_18 rfl (lv_at hl 1 rfl) ?_
  refine lv_lshl hx hb dX5_setWeight_19 rfl ?_
  refine lv_lor hx hb dX5_setWeight_20 ?_
  refine lv_topl (fun w_2 ew_2 => ?_)
  have h := nmJ_at ew_2 h
  refine va_put (D := D) (ci := 5) (v := .long w_2) (ty := .long) (C := RX5) (T := TX5) (N := 9) hx hb hts in_X5_setWeight_X5 tyX5 tyX5_ok nmX5 hown hK hP (CUW_D hq) hS 1 rfl rfl 4 (by decide) (hts (.fieldLink RX5 32 "LearnedReasons$Things" "unread" "J") (by decide +kernel)) (fun _ h9 => h9) rfl (by decide +kernel) rfl rfl (Nat.le_of_ble_eq_true rfl) dX5_setWeight_21 (fun H locs hP _ hS => ?_)
  have hP : va_P D vwCl (CUW cI cJ q I (fu J 2 w_2) (fu a 3 (upd (a 3) ((v1 * 14) + v2).toNatClampNeg v3)) b) H := hP
  have hx0 := Option.some.inj h
  rw [hQ]
  exact W.vret hx hb hr (fun t ht hW => ⟨⟨(w_2, (upd (a 3) ((v1 * 14) + v2).toNatClampNeg v3)), rfl, hx0, by show va_P _ _ _ t.heap; rw [ht]; exact hP⟩, hS.F ht⟩) hS.2.2 dX5_setWeight_24
theorem in_X6_weight_X6 : ∀ w ∈ wsX60, w ∈ wsX6_weight := by decide +kernel
set_option maxHeartbeats 4000000 in
set_option maxRecDepth 100000 in
theorem c_X6_weight (l : Launch) (D : va_G) (cI cJ : ClassId) (q : Nat → Nat) (hq : CUQ q) (F : Nat) (I : Nat → Int32) (J : Nat → Int64) (a : Nat → Nat → Int32) (b : Nat → Nat → Int64) (v1 : Int32) (v2 : Int32) (v3 : Int32) (x0 : Int32 × Int32 × Int32 × Int32 × Int32 × Int64 × (Nat → Int32)) (h : f_X6_weight F I J a b v1 v2 v3 = some x0) : Met l yX6_weight wsX6_weight ({ frames := 2, cells := 0, slots := 0, locals := 42 }) (CUPc D cI cJ q I J a b [.ref (q 0), .int v1, .int v2, .int v3]) (va_Qi (fun (r : Int32) (u : Int32 × Int32 × Int32 × Int32 × Int64 × (Nat → Int32)) => r = x0.1 ∧ u = x0.2) (fun (u : Int32 × Int32 × Int32 × Int32 × Int64 × (Nat → Int32)) t => va_P D vwCl (CUW cI cJ q (fu (fu (fu (fu I 6 u.1) 11 u.2.1) 17 u.2.2.1) 18 u.2.2.2.1) (fu J 2 u.2.2.2.2.1) (fu a 3 u.2.2.2.2.2) b) t.heap) (CUA q)) 0 0 (CUA q) := by
  refine mt_of (cc := cX6_weight) (maxL := 4) (ret := (some .int)) (by decide) rfl ?_
  intro p e s m args below meth c s₁ B0 hml hv R Q hR hQ
  obtain ⟨hargs, hP, hK, hN⟩ := hv
  have hx := B0.exec
  have hb := B0.bytes
  have hr := B0.returns
  have hts := atoms_spec (ws := wsX6_weight) B0.pre
  have hown : s.vm.findClass RX6 = some m.cls := findClass_of_methodNamed B0.named
  have hlocks := B0.notSynchronized
  have hS : va_S (CUA q) s.heap s.heap [] := va_S.rf
  have hl := lv_entry ([.ref (q 0), .int v1, .int v2, .int v3]) (n := 4) (Nat.le_of_ble_eq_true rfl)
  rw [hargs, lg_entry_eq]
  rw [← hargs]
  generalize (lg_sl ([.ref (q 0), .int v1, .int v2, .int v3]) ++ List.replicate (4 - (lg_sl ([.ref (q 0), .int v1, .int v2, .int v3])).length) Slot.unset).toArray = ls at hl ⊢
  have hl : lv_has ls 4 [(0, .ref (q 0)), (1, .int v1), (2, .int v2), (3, .int v3)] := hl
  unfold f_X6_weight at h
  refine lv_aload_n hx hb dX6_weight_0 rfl (lv_at hl 0 rfl) ?_
  refine va_get (D := D) (ci := 6) (v := .ref (q 1)) (C := RX6) (T := TX6) (N := 9) hx hb hts in_X6_weight_X6 hown hK hP 0 rfl rfl 0 (by decide) (hts (.fieldLink RX6 10 "LearnedReasons" "things" "LLearnedReasons$Things;") (by decide +kernel)) (fun _ h9 => h9) rfl dX6_weight_1 ?_
  refine lv_iload_n hx hb dX6_weight_4 rfl (lv_at hl 1 rfl) ?_
  obtain ⟨x_1, hx_1, h⟩ := ob_some h
  refine va_calli (va_runV (As := [.int v1]) (rest := []) ⟨hx, hb, hml, hown, hts⟩ (c_X5_isRow l D cI cJ q hq F I J a b v1 x_1 hx_1) (cwV 1 hts gX6_weight_X5_isRow rfl rfl rfl (by decide +kernel) (by rw [hR]; exact ⟨Nat.le_of_ble_eq_true rfl, Nat.le_of_ble_eq_true rfl⟩)) ⟨CUPc_blind, va_recv hK hP (ci := 5) (q0 := 1) rfl rfl, fun U hU hW => ⟨rfl, by rw [hU]; exact hP, va_K.moved hW.alike hK, va_Nw.warmM hW hN⟩⟩ rfl rfl hl.1 rfl (lv_room (Nat.le_of_ble_eq_true rfl)) dX6_weight_5 ⟨Nat.zero_le _, Nat.zero_le _⟩) hS (fun _ _ h => h) (fun _ h => h) (fun r u t H1 locs ht hvm hw hB hz1 hk1 hS => ?_)
  obtain rfl := hw.symm
  rw [ht] at hB
  have hP : va_P D vwCl (CUW cI cJ q I J a b) H1 := hB
  clear hB hz1 hk1 ht hvm
  generalize H1 = H at hP hS ⊢
  refine lv_if_eq (tgt := 22) hx hb dX6_weight_8 (by decide) (fun c_2 => ?_) (fun c_2 => ?_)
  · have h := if_t c_2 h
    refine lv_iconst (v := (-1)) hx hb dX6_weight_22 (by decide) ?_
    have hx0 := Option.some.inj h
    rw [hQ]
    exact W.iret (v := (-1)) hx hb hr (fun t ht hW => ⟨⟨(-1), ((I 6), (I 11), (I 17), (I 18), (J 2), (a 3)), rfl, ⟨congrArg (fun z => z.1) hx0, congrArg (fun z => z.2) hx0⟩, by show va_P _ _ _ t.heap; rw [ht]; exact hP⟩, hS.F ht⟩) hS.2.2 dX6_weight_23
  · have h := if_f c_2 h
    refine lv_aload_n hx hb dX6_weight_11 rfl (lv_at hl 0 rfl) ?_
    refine va_get (D := D) (ci := 6) (v := .ref (q 1)) (C := RX6) (T := TX6) (N := 9) hx hb hts in_X6_weight_X6 hown hK hP 0 rfl rfl 0 (by decide) (hts (.fieldLink RX6 10 "LearnedReasons" "things" "LLearnedReasons$Things;") (by decide +kernel)) (fun _ h9 => h9) rfl dX6_weight_12 ?_
    refine lv_iload_n hx hb dX6_weight_15 rfl (lv_at hl 2 rfl) ?_
    obtain ⟨x_3, hx_3, h⟩ := ob_some h
    refine va_calli (va_runV (As := [.int v2]) (rest := []) ⟨hx, hb, hml, hown, hts⟩ (c_X5_isName l D cI cJ q hq F I J a b v2 x_3 hx_3) (cwV 1 hts gX6_weight_X5_isName rfl rfl rfl (by decide +kernel) (by rw [hR]; exact ⟨Nat.le_of_ble_eq_true rfl, Nat.le_of_ble_eq_true rfl⟩)) ⟨CUPc_blind, va_recv hK hP (ci := 5) (q0 := 1) rfl rfl, fun U hU hW => ⟨rfl, by rw [hU]; exact hP, va_K.moved hW.alike hK, va_Nw.warmM hW hN⟩⟩ rfl rfl hl.1 rfl (lv_room (Nat.le_of_ble_eq_true rfl)) dX6_weight_16 ⟨Nat.zero_le _, Nat.zero_le _⟩) hS (fun _ _ h => h) (fun _ h => h) (fun r u t H1 locs ht hvm hw hB hz1 hk1 hS => ?_)
    obtain rfl := hw.symm
    rw [ht] at hB
    have hP : va_P D vwCl (CUW cI cJ q I J a b) H1 := hB
    clear hB hz1 hk1 ht hvm
    generalize H1 = H at hP hS ⊢
    refine lv_if_ne (tgt := 24) hx hb dX6_weight_19 (by decide) (fun c_4 => ?_) (fun c_4 => ?_)
    · have h := if_f c_4 h
      refine lv_iload_n hx hb dX6_weight_24 rfl (lv_at hl 3 rfl) ?_
      refine lv_bipush (v := 20) hx hb dX6_weight_25 (by decide) ?_
      obtain ⟨x_5, hx_5, h⟩ := ob_some h
      refine va_calli (va_runS (As := [.int v3, .int 20]) (rest := []) ⟨hx, hb, hml, hown, hts⟩ (c_X6_isOutside l F v3 20 x_5 hx_5) (va_cwS 2 hts gX6_weight_X6_isOutside rfl rfl rfl (by decide +kernel) (by rw [hR]; exact ⟨Nat.le_of_ble_eq_true rfl, Nat.le_of_ble_eq_true rfl⟩)) ⟨fun _ _ _ _ h => h, fun U hU hW => ⟨rfl, trivial⟩⟩ rfl rfl hl.1 rfl (lv_room (Nat.le_of_ble_eq_true rfl)) dX6_weight_27 ⟨Nat.zero_le _, Nat.zero_le _⟩) hS (fun _ _ h => h.elim) (fun _ h => h.elim) (fun r u t H1 locs ht hvm hw hB hz1 hk1 hS => ?_)
      obtain rfl := hw.symm
      have hP := hP.kept (fun k x hx => hk1 x.1 (hP k x hx).lt (fun h => h))
      clear hB hz1 hk1 ht hvm
      generalize H1 = H at hP hS ⊢
      refine lv_if_eq (tgt := 36) hx hb dX6_weight_30 (by decide) (fun c_6 => ?_) (fun c_6 => ?_)
      · have h := if_t c_6 h
        refine lv_aload_n hx hb dX6_weight_36 rfl (lv_at hl 0 rfl) ?_
        obtain ⟨x_7, hx_7, h⟩ := ob_some h
        refine va_callv (va_runV (As := []) (rest := []) ⟨hx, hb, hml, hown, hts⟩ (c_X6_outdate l D cI cJ q hq F I J a b x_7 hx_7) (cwV 0 hts gX6_weight_X6_outdate rfl rfl rfl (by decide +kernel) (by rw [hR]; exact ⟨Nat.le_of_ble_eq_true rfl, Nat.le_of_ble_eq_true rfl⟩)) ⟨CUPc_blind, va_recv hK hP (ci := 6) (q0 := 0) rfl rfl, fun U hU hW => ⟨rfl, by rw [hU]; exact hP, va_K.moved hW.alike hK, va_Nw.warmM hW hN⟩⟩ rfl rfl hl.1 rfl (lv_room (Nat.le_of_ble_eq_true rfl)) dX6_weight_37 ⟨Nat.zero_le _, Nat.zero_le _⟩) hS (fun _ _ h => h) (fun _ h => h) (fun u t H1 locs ht hvm hw hB hz1 hk1 hS => ?_)
        obtain rfl := hw.symm
        rw [ht] at hB
        have hP : va_P D vwCl (CUW cI cJ q (fu (fu (fu (fu I 6 x_7.1) 11 x_7.2.1) 17 x_7.2.2.1) 18 x_7.2.2.2) J a b) H1 := hB
        clear hB hz1 hk1 ht hvm
        generalize H1 = H at hP hS ⊢
        refine lv_aload_n hx hb dX6_weight_40 rfl (lv_at hl 0 rfl) ?_
        refine va_get (D := D) (ci := 6) (v := .ref (q 1)) (C := RX6) (T := TX6) (N := 9) hx hb hts in_X6_weight_X6 hown hK hP 0 rfl rfl 0 (by decide) (hts (.fieldLink RX6 10 "LearnedReasons" "things" "LLearnedReasons$Things;") (by decide +kernel)) (fun _ h9 => h9) rfl dX6_weight_41 ?_
        refine lv_iload_n hx hb dX6_weight_44 rfl (lv_at hl 1 rfl) ?_
        refine lv_iload_n hx hb dX6_weight_45 rfl (lv_at hl 2 rfl) ?_
        refine lv_iload_n hx hb dX6_weight_46 rfl (lv_at hl 3 rfl) ?_
        obtain ⟨x_8, hx_8, h⟩ := ob_some h
        refine va_callv (va_runV (As := [.int v1, .int v2, .int v3]) (rest := []) ⟨hx, hb, hml, hown, hts⟩ (c_X5_setWeight l D cI cJ q hq F (fu (fu (fu (fu I 6 x_7.1) 11 x_7.2.1) 17 x_7.2.2.1) 18 x_7.2.2.2) J a b v1 v2 v3 x_8 hx_8) (cwV 3 hts gX6_weight_X5_setWeight rfl rfl rfl (by decide +kernel) (by rw [hR]; exact ⟨Nat.le_of_ble_eq_true rfl, Nat.le_of_ble_eq_true rfl⟩)) ⟨CUPc_blind, va_recv hK hP (ci := 5) (q0 := 1) rfl rfl, fun U hU hW => ⟨rfl, by rw [hU]; exact hP, va_K.moved hW.alike hK, va_Nw.warmM hW hN⟩⟩ rfl rfl hl.1 rfl (lv_room (Nat.le_of_ble_eq_true rfl)) dX6_weight_47 ⟨Nat.zero_le _, Nat.zero_le _⟩) hS (fun _ _ h => h) (fun _ h => h) (fun u t H1 locs ht hvm hw hB hz1 hk1 hS => ?_)
        obtain rfl := hw.symm
        rw [ht] at hB
        have hP : va_P D vwCl (CUW cI cJ q (fu (fu (fu (fu I 6 x_7.1) 11 x_7.2.1) 17 x_7.2.2.1) 18 x_7.2.2.2) (fu J 2 x_8.1) (fu a 3 x_8.2) b) H1 := hB
        clear hB hz1 hk1 ht hvm
        generalize H1 = H at hP hS ⊢
        refine lv_iconst (v := 1) hx hb dX6_weight_50 (by decide) ?_
        have hx0 := Option.some.inj h
        rw [hQ]
        exact W.iret (v := 1) hx hb hr (fun t ht hW => ⟨⟨1, (x_7.1, x_7.2.1, x_7.2.2.1, x_7.2.2.2, x_8.1, x_8.2), rfl, ⟨congrArg (fun z => z.1) hx0, congrArg (fun z => z.2) hx0⟩, by show va_P _ _ _ t.heap; rw [ht]; exact hP⟩, hS.F ht⟩) hS.2.2 dX6_weight_51
      · have h := if_f c_6 h
        refine lv_bipush (v := (-2)) hx hb dX6_weight_33 (by decide) ?_
        have hx0 := Option.some.inj h
        rw [hQ]
        exact W.iret (v := (-2)) hx hb hr (fun t ht hW => ⟨⟨(-2), ((I 6), (I 11), (I 17), (I 18), (J 2), (a 3)), rfl, ⟨congrArg (fun z => z.1) hx0, congrArg (fun z => z.2) hx0⟩, by show va_P _ _ _ t.heap; rw [ht]; exact hP⟩, hS.F ht⟩) hS.2.2 dX6_weight_35
    · have h := if_t c_4 h
      refine lv_iconst (v := (-1)) hx hb dX6_weight_22 (by decide) ?_
      have hx0 := Option.some.inj h
      rw [hQ]
      exact W.iret (v := (-1)) hx hb hr (fun t ht hW => ⟨⟨(-1), ((I 6), (I 11), (I 17), (I 18), (J 2), (a 3)), rfl, ⟨congrArg (fun z => z.1) hx0, congrArg (fun z => z.2) hx0⟩, by show va_P _ _ _ t.heap; rw [ht]; exact hP⟩, hS.F ht⟩) hS.2.2 dX6_weight_23
theorem in_X5_remove_X5 : ∀ w ∈ wsX50, w ∈ wsX5_remove := by decide +kernel
set_option maxHeartbeats 4000000 in
set_option maxRecDepth 100000 in
theorem c_X5_remove (l : Launch) (D : va_G) (cI cJ : ClassId) (q : Nat → Nat) (hq : CUQ q) (F : Nat) (I : Nat → Int32) (J : Nat → Int64) (a : Nat → Nat → Int32) (b : Nat → Nat → Int64) (v1 : Int32) (x0 : Int64) (h : f_X5_remove F I J a b v1 = some x0) : Met l yX5_remove wsX5_remove ({ frames := 0, cells := 0, slots := 0, locals := 0 }) (CUPc D cI cJ q I J a b [.ref (q 1), .int v1]) (va_Qv (fun (u : Int64) => u = x0) (fun (u : Int64) t => va_P D vwCl (CUW cI cJ q I (fu J 0 u) a b) t.heap) (CUA q)) 0 0 (CUA q) := by
  refine mt_of (cc := cX5_remove) (maxL := 2) (ret := none) (by decide) rfl ?_
  intro p e s m args below meth c s₁ B0 hml hv R Q hR hQ
  obtain ⟨hargs, hP, hK, hN⟩ := hv
  have hx := B0.exec
  have hb := B0.bytes
  have hr := B0.returns
  have hts := atoms_spec (ws := wsX5_remove) B0.pre
  have hown : s.vm.findClass RX5 = some m.cls := findClass_of_methodNamed B0.named
  have hlocks := B0.notSynchronized
  have hS : va_S (CUA q) s.heap s.heap [] := va_S.rf
  have hl := lv_entry ([.ref (q 1), .int v1]) (n := 2) (Nat.le_of_ble_eq_true rfl)
  rw [hargs, lg_entry_eq]
  rw [← hargs]
  generalize (lg_sl ([.ref (q 1), .int v1]) ++ List.replicate (2 - (lg_sl ([.ref (q 1), .int v1])).length) Slot.unset).toArray = ls at hl ⊢
  have hl : lv_has ls 2 [(0, .ref (q 1)), (1, .int v1)] := hl
  unfold f_X5_remove at h
  refine lv_aload_n hx hb dX5_remove_0 rfl (lv_at hl 0 rfl) ?_
  refine lv_dup hx hb dX5_remove_1 rfl ?_
  refine va_get (D := D) (ci := 5) (v := .long (J 0)) (C := RX5) (T := TX5) (N := 9) hx hb hts in_X5_remove_X5 hown hK hP 1 rfl rfl 2 (by decide) (hts (.fieldLink RX5 28 "LearnedReasons$Things" "standing" "J") (by decide +kernel)) (fun _ h9 => h9) rfl dX5_remove_2 ?_
  refine lv_lconst (v := 1) hx hb dX5_remove_5 (by decide) ?_
  refine lv_iload_n hx hb dX5_remove_6 rfl (lv_at hl 1 rfl) ?_
  refine lv_lshl hx hb dX5_remove_7 rfl ?_
  refine lv_ldc2 (v := (-1)) hx hb hown (hts (.constantLong RX5 55 (-1)) (by decide +kernel)) dX5_remove_8 ?_
  refine lv_lxor hx hb dX5_remove_11 ?_
  refine lv_land hx hb dX5_remove_12 ?_
  refine lv_topl (fun w_1 ew_1 => ?_)
  have h := nmJ_at ew_1 h
  refine va_put (D := D) (ci := 5) (v := .long w_1) (ty := .long) (C := RX5) (T := TX5) (N := 9) hx hb hts in_X5_remove_X5 tyX5 tyX5_ok nmX5 hown hK hP (CUW_D hq) hS 1 rfl rfl 2 (by decide) (hts (.fieldLink RX5 28 "LearnedReasons$Things" "standing" "J") (by decide +kernel)) (fun _ h9 => h9) rfl (by decide +kernel) rfl rfl (Nat.le_of_ble_eq_true rfl) dX5_remove_13 (fun H locs hP _ hS => ?_)
  have hP : va_P D vwCl (CUW cI cJ q I (fu J 0 w_1) a b) H := hP
  have hx0 := Option.some.inj h
  rw [hQ]
  exact W.vret hx hb hr (fun t ht hW => ⟨⟨w_1, rfl, hx0, by show va_P _ _ _ t.heap; rw [ht]; exact hP⟩, hS.F ht⟩) hS.2.2 dX5_remove_16
