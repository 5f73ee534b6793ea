set_option maxHeartbeats 4000000 in
set_option maxRecDepth 100000 in
theorem law_c_known {p : Program} {l : Launch} {e : Env} {s : State} {m : MethodId} {below : List Frame} {meth : Method} {c : Code} {D : va_G} {cI cJ dI dJ dZ : ClassId} {q r : Nat → Nat} {bb L : Nat} {xs : Nat → Int32} (hL : L ≤ 2048) (C0 : lw_At p s m meth c bb L xs)
    (hq : CUQ q) (hr0 : MUQ r) (hqA : ∀ x, CUA q x → s.heap.size ≤ x) (hrA : ∀ x, MUA r x → s.heap.size ≤ x) (hdis : ∀ x, CUA q x → ¬ MUA r x)
    (hK : va_K D vwCl [(cI, .int), (cJ, .long)] s) (hK2 : va_K D vwCl [(dI, .int), (dJ, .long), (dZ, .boolean)] s) (hN : va_Nw (.methodLinkNest RX0 90 yX6_literalsIn "LearnedReasons") s)
    (F : Nat) (Rel : RelT) (h_known : op_known F Rel) {i : Nat} (hin : i + 4 ≤ L) {ls : Array Slot} (hl : lv_has ls 4 [(0, .ref bb), (1, .ref (q 0)), (2, .ref (r 0)), (3, .int (nI i))]) (NEXT : ∀ (I : Nat → Int32) (J : Nat → Int64) (a : Nat → Nat → Int32) (b : Nat → Nat → Int64) (I2 : Nat → Int32) (J2 : Nat → Int64) (a2 : Nat → Nat → Int32) (b2 : Nat → Nat → Int64), Rel I J a b I2 J2 a2 b2 → ∀ (H : Heap) (locs : List Loc), va_P D vwCl (CUW cI cJ q I J a b) H → va_P D vwCl (MUW dI dJ dZ r I2 J2 a2 b2) H → va_S (fun x : Nat => s.heap.size ≤ x) s.heap H locs → W p l e room_1 s m #[Value.ref bb] below meth c H locs 32 64181 (lw_Z below #[Value.ref bb] s) (F0 m 609 ls [])) : ∀ (I : Nat → Int32) (J : Nat → Int64) (a : Nat → Nat → Int32) (b : Nat → Nat → Int64) (I2 : Nat → Int32) (J2 : Nat → Int64) (a2 : Nat → Nat → Int32) (b2 : Nat → Nat → Int64), Rel I J a b I2 J2 a2 b2 → ∀ (H : Heap) (locs : List Loc), va_P D vwCl (CUW cI cJ q I J a b) H → va_P D vwCl (MUW dI dJ dZ r I2 J2 a2 b2) H → va_S (fun x : Nat => s.heap.size ≤ x) s.heap H locs → W p l e room_1 s m #[Value.ref bb] below meth c H locs 32 64181 (lw_Z below #[Value.ref bb] s) (F0 m 373 ls []) := by
  obtain ⟨hx, hb, hr, hml, hown, hts, hX, hbl, hlocks, hgv⟩ := id C0
  have hown : s.vm.findClass RL = some m.cls := hown
  have hbA : ¬ (fun x : Nat => s.heap.size ≤ x) bb := Nat.not_le.mpr hbl
  have e1 : nI i + 1 = nI (i + 1) := nI_add i 1
  have e2 : nI i + 2 = nI (i + 2) := nI_add i 2
  have e3 : nI i + 3 = nI (i + 3) := nI_add i 3
  have g1 : vp_in (nI i + 1) L := by rw [e1]; exact vp_in_nI (by omega) (by omega)
  have g2 : vp_in (nI i + 2) L := by rw [e2]; exact vp_in_nI (by omega) (by omega)
  have g3 : vp_in (nI i + 3) L := by rw [e3]; exact vp_in_nI (by omega) (by omega)
  intro I J a b I2 J2 a2 b2 hRel H locs hP hP2 hS
  obtain ⟨x, y, hx1, hy1, he, hRel2⟩ := h_known I J a b I2 J2 a2 b2 (xs (nI i + 1).toNatClampNeg) hRel
  refine lv_aload_n hx hb dL_law_373 rfl (lv_at hl 1 rfl) ?_
  refine lv_aload_n hx hb dL_law_374 rfl (lv_at hl 0 rfl) ?_
  refine lv_iload_n hx hb dL_law_375 rfl (lv_at hl 3 rfl) ?_
  refine lv_iconst (v := 1) hx hb dL_law_376 (by decide) ?_
  refine lv_iadd hx hb dL_law_377 ?_
  refine va_sld hx hb hX hbl hbA hS g1 dL_law_378 ?_
  refine va_calli (va_runV (As := [.int (xs (nI i + 1).toNatClampNeg)]) (rest := []) ⟨hx, hb, hml, hown, hts⟩ (c_X6_known l D cI cJ q hq F I J a b (xs (nI i + 1).toNatClampNeg) x hx1) (cwV 1 hts gT_law_X6_known rfl rfl rfl (by decide +kernel) ⟨Nat.le_of_ble_eq_true rfl, Nat.le_of_ble_eq_true rfl⟩) ⟨CUPc_blind, va_recv hK hP (ci := 6) (q0 := 0) rfl rfl, fun U hU hW => ⟨rfl, by rw [hU]; exact hP, va_K.moved hW.alike hK, va_Nw.warmM hW hN⟩⟩ rfl rfl hl.1 rfl (lv_room (Nat.le_of_ble_eq_true rfl)) dL_law_379 ⟨Nat.le_of_ble_eq_true rfl, Nat.le_of_ble_eq_true rfl⟩) hS (fun x _ h => hqA x h) hqA (fun r9 u t H1 locs ht hvm hw hB hz1 hk1 hS => ?_)
  obtain ⟨rfl, rfl⟩ := hw
  rw [ht] at hB
  have hP : va_P D vwCl (CUW cI cJ q (fu (fu (fu I 8 x.2.1) 9 x.2.2.1) 10 x.2.2.2) J a b) H1 := hB
  have hP2 := hP2.kept (fun k z hz => hk1 z.1 (hP2 k z hz).lt (fun h => hdis _ h (by obtain ⟨a1, a2⟩ := MUW_at k z hz; exact ⟨k, a1, a2⟩)))
  clear hB hz1 hk1 ht hvm
  generalize H1 = H at hP hP2 hS ⊢
  refine lv_aload_n hx hb dL_law_382 rfl (lv_at hl 2 rfl) ?_
  refine lv_aload_n hx hb dL_law_383 rfl (lv_at hl 0 rfl) ?_
  refine lv_iload_n hx hb dL_law_384 rfl (lv_at hl 3 rfl) ?_
  refine lv_iconst (v := 1) hx hb dL_law_385 (by decide) ?_
  refine lv_iadd hx hb dL_law_386 ?_
  refine va_sld hx hb hX hbl hbA hS g1 dL_law_387 ?_
  refine va_calli (va_runV (As := [.int (xs (nI i + 1).toNatClampNeg)]) (rest := [.int x.1]) ⟨hx, hb, hml, hown, hts⟩ (c_X7_known l D dI dJ dZ r hr0 F I2 J2 a2 b2 (xs (nI i + 1).toNatClampNeg) y hy1) (cwV 1 hts gT_law_X7_known rfl rfl rfl (by decide +kernel) ⟨Nat.le_of_ble_eq_true rfl, Nat.le_of_ble_eq_true rfl⟩) ⟨MUPc_blind, va_recv hK2 hP2 (ci := 7) (q0 := 0) rfl rfl, fun U hU hW => ⟨rfl, by rw [hU]; exact hP2, va_K.moved hW.alike hK2, trivial⟩⟩ rfl rfl hl.1 rfl (lv_room (Nat.le_of_ble_eq_true rfl)) dL_law_388 ⟨Nat.le_of_ble_eq_true rfl, Nat.le_of_ble_eq_true rfl⟩) hS (fun x _ h => hrA x h) hrA (fun r9 u t H1 locs ht hvm hw hB hz1 hk1 hS => ?_)
  obtain ⟨rfl, rfl⟩ := hw
  rw [ht] at hB
  have hP2 : va_P D vwCl (MUW dI dJ dZ r (fu (fu (fu I2 10 y.2.1) 11 y.2.2.1) 12 y.2.2.2) J2 a2 b2) H1 := hB
  have hP := hP.kept (fun k z hz => hk1 z.1 (hP k z hz).lt (fun h => hdis z.1 (by obtain ⟨a1, a2⟩ := CUW_at k z hz; exact ⟨k, a1, a2⟩) h))
  clear hB hz1 hk1 ht hvm
  generalize H1 = H at hP hP2 hS ⊢
  refine lv_icmp_eq (tgt := 609) hx hb dL_law_391 (by decide) (fun ce => ?_) (fun ce => ?_)
  · exact NEXT (fu (fu (fu I 8 x.2.1) 9 x.2.2.1) 10 x.2.2.2) J a b (fu (fu (fu I2 10 y.2.1) 11 y.2.2.1) 12 y.2.2.2) J2 a2 b2 hRel2 _ _ hP hP2 hS
  · exact absurd he ce
set_option maxHeartbeats 4000000 in
set_option maxRecDepth 100000 in
theorem law_c_lemma {p : Program} {l : Launch} {e : Env} {s : State} {m : MethodId} {below : List Frame} {meth : Method} {c : Code} {D : va_G} {cI cJ dI dJ dZ : ClassId} {q r : Nat → Nat} {bb L : Nat} {xs : Nat → Int32} (hL : L ≤ 2048) (C0 : lw_At p s m meth c bb L xs)
    (hq : CUQ q) (hr0 : MUQ r) (hqA : ∀ x, CUA q x → s.heap.size ≤ x) (hrA : ∀ x, MUA r x → s.heap.size ≤ x) (hdis : ∀ x, CUA q x → ¬ MUA r x)
    (hK : va_K D vwCl [(cI, .int), (cJ, .long)] s) (hK2 : va_K D vwCl [(dI, .int), (dJ, .long), (dZ, .boolean)] s) (hN : va_Nw (.methodLinkNest RX0 90 yX6_literalsIn "LearnedReasons") s)
    (F : Nat) (Rel : RelT) (h_lemma : op_lemma F Rel) {i : Nat} (hin : i + 4 ≤ L) {ls : Array Slot} (hl : lv_has ls 4 [(0, .ref bb), (1, .ref (q 0)), (2, .ref (r 0)), (3, .int (nI i))]) (NEXT : ∀ (I : Nat → Int32) (J : Nat → Int64) (a : Nat → Nat → Int32) (b : Nat → Nat → Int64) (I2 : Nat → Int32) (J2 : Nat → Int64) (a2 : Nat → Nat → Int32) (b2 : Nat → Nat → Int64), Rel I J a b I2 J2 a2 b2 → ∀ (H : Heap) (locs : List Loc), va_P D vwCl (CUW cI cJ q I J a b) H → va_P D vwCl (MUW dI dJ dZ r I2 J2 a2 b2) H → va_S (fun x : Nat => s.heap.size ≤ x) s.heap H locs → W p l e room_1 s m #[Value.ref bb] below meth c H locs 32 64181 (lw_Z below #[Value.ref bb] s) (F0 m 609 ls [])) : ∀ (I : Nat → Int32) (J : Nat → Int64) (a : Nat → Nat → Int32) (b : Nat → Nat → Int64) (I2 : Nat → Int32) (J2 : Nat → Int64) (a2 : Nat → Nat → Int32) (b2 : Nat → Nat → Int64), Rel I J a b I2 J2 a2 b2 → ∀ (H : Heap) (locs : List Loc), va_P D vwCl (CUW cI cJ q I J a b) H → va_P D vwCl (MUW dI dJ dZ r I2 J2 a2 b2) H → va_S (fun x : Nat => s.heap.size ≤ x) s.heap H locs → W p l e room_1 s m #[Value.ref bb] below meth c H locs 32 64181 (lw_Z below #[Value.ref bb] s) (F0 m 396 ls []) := by
  obtain ⟨hx, hb, hr, hml, hown, hts, hX, hbl, hlocks, hgv⟩ := id C0
  have hown : s.vm.findClass RL = some m.cls := hown
  have hbA : ¬ (fun x : Nat => s.heap.size ≤ x) bb := Nat.not_le.mpr hbl
  have e1 : nI i + 1 = nI (i + 1) := nI_add i 1
  have e2 : nI i + 2 = nI (i + 2) := nI_add i 2
  have e3 : nI i + 3 = nI (i + 3) := nI_add i 3
  have g1 : vp_in (nI i + 1) L := by rw [e1]; exact vp_in_nI (by omega) (by omega)
  have g2 : vp_in (nI i + 2) L := by rw [e2]; exact vp_in_nI (by omega) (by omega)
  have g3 : vp_in (nI i + 3) L := by rw [e3]; exact vp_in_nI (by omega) (by omega)
  intro I J a b I2 J2 a2 b2 hRel H locs hP hP2 hS
  obtain ⟨x, y, hx1, hy1, he, hRel2⟩ := h_lemma I J a b I2 J2 a2 b2 hRel
  refine lv_aload_n hx hb dL_law_396 rfl (lv_at hl 1 rfl) ?_
  refine va_calli (va_runV (As := []) (rest := []) ⟨hx, hb, hml, hown, hts⟩ (c_X6_lemma l D cI cJ q hq F I J a b x hx1) (cwV 0 hts gT_law_X6_lemma rfl rfl rfl (by decide +kernel) ⟨Nat.le_of_ble_eq_true rfl, Nat.le_of_ble_eq_true rfl⟩) ⟨CUPc_blind, va_recv hK hP (ci := 6) (q0 := 0) rfl rfl, fun U hU hW => ⟨rfl, by rw [hU]; exact hP, va_K.moved hW.alike hK, va_Nw.warmM hW hN⟩⟩ rfl rfl hl.1 rfl (lv_room (Nat.le_of_ble_eq_true rfl)) dL_law_397 ⟨Nat.le_of_ble_eq_true rfl, Nat.le_of_ble_eq_true rfl⟩) hS (fun x _ h => hqA x h) hqA (fun r9 u t H1 locs ht hvm hw hB hz1 hk1 hS => ?_)
  obtain ⟨rfl, rfl⟩ := hw
  rw [ht] at hB
  have hP : va_P D vwCl (CUW cI cJ q (fu (fu (fu (fu (fu (fu I 0 x.2.1) 1 x.2.2.1) 6 x.2.2.2.1) 8 x.2.2.2.2.1) 9 x.2.2.2.2.2.1) 10 x.2.2.2.2.2.2.1) J (fu (fu a 4 x.2.2.2.2.2.2.2.1) 5 x.2.2.2.2.2.2.2.2) b) H1 := hB
  have hP2 := hP2.kept (fun k z hz => hk1 z.1 (hP2 k z hz).lt (fun h => hdis _ h (by obtain ⟨a1, a2⟩ := MUW_at k z hz; exact ⟨k, a1, a2⟩)))
  clear hB hz1 hk1 ht hvm
  generalize H1 = H at hP hP2 hS ⊢
  refine lv_aload_n hx hb dL_law_400 rfl (lv_at hl 2 rfl) ?_
  refine va_calli (va_runV (As := []) (rest := [.int x.1]) ⟨hx, hb, hml, hown, hts⟩ (c_X7_lemma l D dI dJ dZ r hr0 F I2 J2 a2 b2 y hy1) (cwV 0 hts gT_law_X7_lemma rfl rfl rfl (by decide +kernel) ⟨Nat.le_of_ble_eq_true rfl, Nat.le_of_ble_eq_true rfl⟩) ⟨MUPc_blind, va_recv hK2 hP2 (ci := 7) (q0 := 0) rfl rfl, fun U hU hW => ⟨rfl, by rw [hU]; exact hP2, va_K.moved hW.alike hK2, trivial⟩⟩ rfl rfl hl.1 rfl (lv_room (Nat.le_of_ble_eq_true rfl)) dL_law_401 ⟨Nat.le_of_ble_eq_true rfl, Nat.le_of_ble_eq_true rfl⟩) hS (fun x _ h => hrA x h) hrA (fun r9 u t H1 locs ht hvm hw hB hz1 hk1 hS => ?_)
  obtain ⟨rfl, rfl⟩ := hw
  rw [ht] at hB
  have hP2 : va_P D vwCl (MUW dI dJ dZ r (fu (fu (fu (fu (fu (fu (fu I2 2 y.2.1) 3 y.2.2.1) 4 y.2.2.2.1) 7 y.2.2.2.2.1) 10 y.2.2.2.2.2.1) 11 y.2.2.2.2.2.2.1) 12 y.2.2.2.2.2.2.2.1) J2 (fu (fu a2 7 y.2.2.2.2.2.2.2.2.1) 8 y.2.2.2.2.2.2.2.2.2) b2) H1 := hB
  have hP := hP.kept (fun k z hz => hk1 z.1 (hP k z hz).lt (fun h => hdis z.1 (by obtain ⟨a1, a2⟩ := CUW_at k z hz; exact ⟨k, a1, a2⟩) h))
  clear hB hz1 hk1 ht hvm
  generalize H1 = H at hP hP2 hS ⊢
  refine lv_icmp_eq (tgt := 609) hx hb dL_law_404 (by decide) (fun ce => ?_) (fun ce => ?_)
  · exact NEXT (fu (fu (fu (fu (fu (fu I 0 x.2.1) 1 x.2.2.1) 6 x.2.2.2.1) 8 x.2.2.2.2.1) 9 x.2.2.2.2.2.1) 10 x.2.2.2.2.2.2.1) J (fu (fu a 4 x.2.2.2.2.2.2.2.1) 5 x.2.2.2.2.2.2.2.2) b (fu (fu (fu (fu (fu (fu (fu I2 2 y.2.1) 3 y.2.2.1) 4 y.2.2.2.1) 7 y.2.2.2.2.1) 10 y.2.2.2.2.2.1) 11 y.2.2.2.2.2.2.1) 12 y.2.2.2.2.2.2.2.1) J2 (fu (fu a2 7 y.2.2.2.2.2.2.2.2.1) 8 y.2.2.2.2.2.2.2.2.2) b2 hRel2 _ _ hP hP2 hS
  · exact absurd he ce
set_option maxHeartbeats 4000000 in
set_option maxRecDepth 100000 in
theorem law_c_lemmas {p : Program} {l : Launch} {e : Env} {s : State} {m : MethodId} {below : List Frame} {meth : Method} {c : Code} {D : va_G} {cI cJ dI dJ dZ : ClassId} {q r : Nat → Nat} {bb L : Nat} {xs : Nat → Int32} (hL : L ≤ 2048) (C0 : lw_At p s m meth c bb L xs)
    (hq : CUQ q) (hr0 : MUQ r) (hqA : ∀ x, CUA q x → s.heap.size ≤ x) (hrA : ∀ x, MUA r x → s.heap.size ≤ x) (hdis : ∀ x, CUA q x → ¬ MUA r x)
    (hK : va_K D vwCl [(cI, .int), (cJ, .long)] s) (hK2 : va_K D vwCl [(dI, .int), (dJ, .long), (dZ, .boolean)] s) (hN : va_Nw (.methodLinkNest RX0 90 yX6_literalsIn "LearnedReasons") s)
    (F : Nat) (Rel : RelT) (h_lemmas : op_lemmas F Rel) {i : Nat} (hin : i + 4 ≤ L) {ls : Array Slot} (hl : lv_has ls 4 [(0, .ref bb), (1, .ref (q 0)), (2, .ref (r 0)), (3, .int (nI i))]) (NEXT : ∀ (I : Nat → Int32) (J : Nat → Int64) (a : Nat → Nat → Int32) (b : Nat → Nat → Int64) (I2 : Nat → Int32) (J2 : Nat → Int64) (a2 : Nat → Nat → Int32) (b2 : Nat → Nat → Int64), Rel I J a b I2 J2 a2 b2 → ∀ (H : Heap) (locs : List Loc), va_P D vwCl (CUW cI cJ q I J a b) H → va_P D vwCl (MUW dI dJ dZ r I2 J2 a2 b2) H → va_S (fun x : Nat => s.heap.size ≤ x) s.heap H locs → W p l e room_1 s m #[Value.ref bb] below meth c H locs 32 64181 (lw_Z below #[Value.ref bb] s) (F0 m 609 ls [])) : ∀ (I : Nat → Int32) (J : Nat → Int64) (a : Nat → Nat → Int32) (b : Nat → Nat → Int64) (I2 : Nat → Int32) (J2 : Nat → Int64) (a2 : Nat → Nat → Int32) (b2 : Nat → Nat → Int64), Rel I J a b I2 J2 a2 b2 → ∀ (H : Heap) (locs : List Loc), va_P D vwCl (CUW cI cJ q I J a b) H → va_P D vwCl (MUW dI dJ dZ r I2 J2 a2 b2) H → va_S (fun x : Nat => s.heap.size ≤ x) s.heap H locs → W p l e room_1 s m #[Value.ref bb] below meth c H locs 32 64181 (lw_Z below #[Value.ref bb] s) (F0 m 409 ls []) := by
  obtain ⟨hx, hb, hr, hml, hown, hts, hX, hbl, hlocks, hgv⟩ := id C0
  have hown : s.vm.findClass RL = some m.cls := hown
  have hbA : ¬ (fun x : Nat => s.heap.size ≤ x) bb := Nat.not_le.mpr hbl
  have e1 : nI i + 1 = nI (i + 1) := nI_add i 1
  have e2 : nI i + 2 = nI (i + 2) := nI_add i 2
  have e3 : nI i + 3 = nI (i + 3) := nI_add i 3
  have g1 : vp_in (nI i + 1) L := by rw [e1]; exact vp_in_nI (by omega) (by omega)
  have g2 : vp_in (nI i + 2) L := by rw [e2]; exact vp_in_nI (by omega) (by omega)
  have g3 : vp_in (nI i + 3) L := by rw [e3]; exact vp_in_nI (by omega) (by omega)
  intro I J a b I2 J2 a2 b2 hRel H locs hP hP2 hS
  obtain ⟨x, y, hx1, hy1, he, hRel2⟩ := h_lemmas I J a b I2 J2 a2 b2 hRel
  refine lv_aload_n hx hb dL_law_409 rfl (lv_at hl 1 rfl) ?_
  refine va_calli (va_runV (As := []) (rest := []) ⟨hx, hb, hml, hown, hts⟩ (c_X6_lemmas l D cI cJ q hq F I J a b x hx1) (cwV 0 hts gT_law_X6_lemmas rfl rfl rfl (by decide +kernel) ⟨Nat.le_of_ble_eq_true rfl, Nat.le_of_ble_eq_true rfl⟩) ⟨CUPc_blind, va_recv hK hP (ci := 6) (q0 := 0) rfl rfl, fun U hU hW => ⟨rfl, by rw [hU]; exact hP, va_K.moved hW.alike hK, va_Nw.warmM hW hN⟩⟩ rfl rfl hl.1 rfl (lv_room (Nat.le_of_ble_eq_true rfl)) dL_law_410 ⟨Nat.le_of_ble_eq_true rfl, Nat.le_of_ble_eq_true rfl⟩) hS (fun x _ h => hqA x h) hqA (fun r9 u t H1 locs ht hvm hw hB hz1 hk1 hS => ?_)
  obtain rfl := hw.symm
  rw [ht] at hB
  have hP : va_P D vwCl (CUW cI cJ q I J a b) H1 := hB
  have hP2 := hP2.kept (fun k z hz => hk1 z.1 (hP2 k z hz).lt (fun h => hdis _ h (by obtain ⟨a1, a2⟩ := MUW_at k z hz; exact ⟨k, a1, a2⟩)))
  clear hB hz1 hk1 ht hvm
  generalize H1 = H at hP hP2 hS ⊢
  refine lv_aload_n hx hb dL_law_413 rfl (lv_at hl 2 rfl) ?_
  refine va_calli (va_runV (As := []) (rest := [.int x]) ⟨hx, hb, hml, hown, hts⟩ (c_X7_lemmas l D dI dJ dZ r hr0 F I2 J2 a2 b2 y hy1) (cwV 0 hts gT_law_X7_lemmas rfl rfl rfl (by decide +kernel) ⟨Nat.le_of_ble_eq_true rfl, Nat.le_of_ble_eq_true rfl⟩) ⟨MUPc_blind, va_recv hK2 hP2 (ci := 7) (q0 := 0) rfl rfl, fun U hU hW => ⟨rfl, by rw [hU]; exact hP2, va_K.moved hW.alike hK2, trivial⟩⟩ rfl rfl hl.1 rfl (lv_room (Nat.le_of_ble_eq_true rfl)) dL_law_414 ⟨Nat.le_of_ble_eq_true rfl, Nat.le_of_ble_eq_true rfl⟩) hS (fun x _ h => hrA x h) hrA (fun r9 u t H1 locs ht hvm hw hB hz1 hk1 hS => ?_)
  obtain rfl := hw.symm
  rw [ht] at hB
  have hP2 : va_P D vwCl (MUW dI dJ dZ r I2 J2 a2 b2) H1 := hB
  have hP := hP.kept (fun k z hz => hk1 z.1 (hP k z hz).lt (fun h => hdis z.1 (by obtain ⟨a1, a2⟩ := CUW_at k z hz; exact ⟨k, a1, a2⟩) h))
  clear hB hz1 hk1 ht hvm
  generalize H1 = H at hP hP2 hS ⊢
  refine lv_icmp_eq (tgt := 609) hx hb dL_law_417 (by decide) (fun ce => ?_) (fun ce => ?_)
  · exact NEXT I J a b I2 J2 a2 b2 hRel2 _ _ hP hP2 hS
  · exact absurd he ce
set_option maxHeartbeats 4000000 in
set_option maxRecDepth 100000 in
theorem law_c_search {p : Program} {l : Launch} {e : Env} {s : State} {m : MethodId} {below : List Frame} {meth : Method} {c : Code} {D : va_G} {cI cJ dI dJ dZ : ClassId} {q r : Nat → Nat} {bb L : Nat} {xs : Nat → Int32} (hL : L ≤ 2048) (C0 : lw_At p s m meth c bb L xs)
    (hq : CUQ q) (hr0 : MUQ r) (hqA : ∀ x, CUA q x → s.heap.size ≤ x) (hrA : ∀ x, MUA r x → s.heap.size ≤ x) (hdis : ∀ x, CUA q x → ¬ MUA r x)
    (hK : va_K D vwCl [(cI, .int), (cJ, .long)] s) (hK2 : va_K D vwCl [(dI, .int), (dJ, .long), (dZ, .boolean)] s) (hN : va_Nw (.methodLinkNest RX0 90 yX6_literalsIn "LearnedReasons") s)
    (F : Nat) (Rel : RelT) (h_search : op_search F Rel) {i : Nat} (hin : i + 4 ≤ L) {ls : Array Slot} (hl : lv_has ls 4 [(0, .ref bb), (1, .ref (q 0)), (2, .ref (r 0)), (3, .int (nI i))]) (NEXT : ∀ (I : Nat → Int32) (J : Nat → Int64) (a : Nat → Nat → Int32) (b : Nat → Nat → Int64) (I2 : Nat → Int32) (J2 : Nat → Int64) (a2 : Nat → Nat → Int32) (b2 : Nat → Nat → Int64), Rel I J a b I2 J2 a2 b2 → ∀ (H : Heap) (locs : List Loc), va_P D vwCl (CUW cI cJ q I J a b) H → va_P D vwCl (MUW dI dJ dZ r I2 J2 a2 b2) H → va_S (fun x : Nat => s.heap.size ≤ x) s.heap H locs → W p l e room_1 s m #[Value.ref bb] below meth c H locs 32 64181 (lw_Z below #[Value.ref bb] s) (F0 m 609 ls [])) : ∀ (I : Nat → Int32) (J : Nat → Int64) (a : Nat → Nat → Int32) (b : Nat → Nat → Int64) (I2 : Nat → Int32) (J2 : Nat → Int64) (a2 : Nat → Nat → Int32) (b2 : Nat → Nat → Int64), Rel I J a b I2 J2 a2 b2 → ∀ (H : Heap) (locs : List Loc), va_P D vwCl (CUW cI cJ q I J a b) H → va_P D vwCl (MUW dI dJ dZ r I2 J2 a2 b2) H → va_S (fun x : Nat => s.heap.size ≤ x) s.heap H locs → W p l e room_1 s m #[Value.ref bb] below meth c H locs 32 64181 (lw_Z below #[Value.ref bb] s) (F0 m 422 ls []) := by
  obtain ⟨hx, hb, hr, hml, hown, hts, hX, hbl, hlocks, hgv⟩ := id C0
  have hown : s.vm.findClass RL = some m.cls := hown
  have hbA : ¬ (fun x : Nat => s.heap.size ≤ x) bb := Nat.not_le.mpr hbl
  have e1 : nI i + 1 = nI (i + 1) := nI_add i 1
  have e2 : nI i + 2 = nI (i + 2) := nI_add i 2
  have e3 : nI i + 3 = nI (i + 3) := nI_add i 3
  have g1 : vp_in (nI i + 1) L := by rw [e1]; exact vp_in_nI (by omega) (by omega)
  have g2 : vp_in (nI i + 2) L := by rw [e2]; exact vp_in_nI (by omega) (by omega)
  have g3 : vp_in (nI i + 3) L := by rw [e3]; exact vp_in_nI (by omega) (by omega)
  intro I J a b I2 J2 a2 b2 hRel H locs hP hP2 hS
  obtain ⟨x, y, hx1, hy1, he, hRel2⟩ := h_search I J a b I2 J2 a2 b2 hRel
  refine lv_aload_n hx hb dL_law_422 rfl (lv_at hl 1 rfl) ?_
  refine va_calli (va_runV (As := []) (rest := []) ⟨hx, hb, hml, hown, hts⟩ (c_X6_search l D cI cJ q hq F I J a b x hx1) (cwV 0 hts gT_law_X6_search rfl rfl rfl (by decide +kernel) ⟨Nat.le_of_ble_eq_true rfl, Nat.le_of_ble_eq_true rfl⟩) ⟨CUPc_blind, va_recv hK hP (ci := 6) (q0 := 0) rfl rfl, fun U hU hW => ⟨rfl, by rw [hU]; exact hP, va_K.moved hW.alike hK, va_Nw.warmM hW hN⟩⟩ rfl rfl hl.1 rfl (lv_room (Nat.le_of_ble_eq_true rfl)) dL_law_423 ⟨Nat.le_of_ble_eq_true rfl, Nat.le_of_ble_eq_true rfl⟩) hS (fun x _ h => hqA x h) hqA (fun r9 u t H1 locs ht hvm hw hB hz1 hk1 hS => ?_)
  obtain ⟨rfl, rfl⟩ := hw
  rw [ht] at hB
  have hP : va_P D vwCl (CUW cI cJ q (fu (fu (fu (fu (fu (fu (fu (fu (fu (fu I 7 x.2.1) 8 x.2.2.1) 9 x.2.2.2.1) 10 x.2.2.2.2.1) 11 x.2.2.2.2.2.1) 12 x.2.2.2.2.2.2.1) 13 x.2.2.2.2.2.2.2.1) 14 x.2.2.2.2.2.2.2.2.1) 15 x.2.2.2.2.2.2.2.2.2.1) 16 x.2.2.2.2.2.2.2.2.2.2.1) J (fu (fu a 6 x.2.2.2.2.2.2.2.2.2.2.2.1) 7 x.2.2.2.2.2.2.2.2.2.2.2.2) b) H1 := hB
  have hP2 := hP2.kept (fun k z hz => hk1 z.1 (hP2 k z hz).lt (fun h => hdis _ h (by obtain ⟨a1, a2⟩ := MUW_at k z hz; exact ⟨k, a1, a2⟩)))
  clear hB hz1 hk1 ht hvm
  generalize H1 = H at hP hP2 hS ⊢
  refine lv_aload_n hx hb dL_law_426 rfl (lv_at hl 2 rfl) ?_
  refine va_calli (va_runV (As := []) (rest := [.int x.1]) ⟨hx, hb, hml, hown, hts⟩ (c_X7_search l D dI dJ dZ r hr0 F I2 J2 a2 b2 y hy1) (cwV 0 hts gT_law_X7_search rfl rfl rfl (by decide +kernel) ⟨Nat.le_of_ble_eq_true rfl, Nat.le_of_ble_eq_true rfl⟩) ⟨MUPc_blind, va_recv hK2 hP2 (ci := 7) (q0 := 0) rfl rfl, fun U hU hW => ⟨rfl, by rw [hU]; exact hP2, va_K.moved hW.alike hK2, trivial⟩⟩ rfl rfl hl.1 rfl (lv_room (Nat.le_of_ble_eq_true rfl)) dL_law_427 ⟨Nat.le_of_ble_eq_true rfl, Nat.le_of_ble_eq_true rfl⟩) hS (fun x _ h => hrA x h) hrA (fun r9 u t H1 locs ht hvm hw hB hz1 hk1 hS => ?_)
  obtain ⟨rfl, rfl⟩ := hw
  rw [ht] at hB
  have hP2 : va_P D vwCl (MUW dI dJ dZ r (fu (fu (fu (fu (fu (fu (fu (fu (fu (fu I2 9 y.2.1) 10 y.2.2.1) 11 y.2.2.2.1) 12 y.2.2.2.2.1) 13 y.2.2.2.2.2.1) 14 y.2.2.2.2.2.2.1) 15 y.2.2.2.2.2.2.2.1) 16 y.2.2.2.2.2.2.2.2.1) 17 y.2.2.2.2.2.2.2.2.2.1) 18 y.2.2.2.2.2.2.2.2.2.2.1) J2 (fu (fu a2 9 y.2.2.2.2.2.2.2.2.2.2.2.1) 10 y.2.2.2.2.2.2.2.2.2.2.2.2) b2) H1 := hB
  have hP := hP.kept (fun k z hz => hk1 z.1 (hP k z hz).lt (fun h => hdis z.1 (by obtain ⟨a1, a2⟩ := CUW_at k z hz; exact ⟨k, a1, a2⟩) h))
  clear hB hz1 hk1 ht hvm
  generalize H1 = H at hP hP2 hS ⊢
  refine lv_icmp_eq (tgt := 609) hx hb dL_law_430 (by decide) (fun ce => ?_) (fun ce => ?_)
  · exact NEXT (fu (fu (fu (fu (fu (fu (fu (fu (fu (fu I 7 x.2.1) 8 x.2.2.1) 9 x.2.2.2.1) 10 x.2.2.2.2.1) 11 x.2.2.2.2.2.1) 12 x.2.2.2.2.2.2.1) 13 x.2.2.2.2.2.2.2.1) 14 x.2.2.2.2.2.2.2.2.1) 15 x.2.2.2.2.2.2.2.2.2.1) 16 x.2.2.2.2.2.2.2.2.2.2.1) J (fu (fu a 6 x.2.2.2.2.2.2.2.2.2.2.2.1) 7 x.2.2.2.2.2.2.2.2.2.2.2.2) b (fu (fu (fu (fu (fu (fu (fu (fu (fu (fu I2 9 y.2.1) 10 y.2.2.1) 11 y.2.2.2.1) 12 y.2.2.2.2.1) 13 y.2.2.2.2.2.1) 14 y.2.2.2.2.2.2.1) 15 y.2.2.2.2.2.2.2.1) 16 y.2.2.2.2.2.2.2.2.1) 17 y.2.2.2.2.2.2.2.2.2.1) 18 y.2.2.2.2.2.2.2.2.2.2.1) J2 (fu (fu a2 9 y.2.2.2.2.2.2.2.2.2.2.2.1) 10 y.2.2.2.2.2.2.2.2.2.2.2.2) b2 hRel2 _ _ hP hP2 hS
  · exact absurd he ce
set_option maxHeartbeats 4000000 in
set_option maxRecDepth 100000 in
theorem law_c_value {p : Program} {l : Launch} {e : Env} {s : State} {m : MethodId} {below : List Frame} {meth : Method} {c : Code} {D : va_G} {cI cJ dI dJ dZ : ClassId} {q r : Nat → Nat} {bb L : Nat} {xs : Nat → Int32} (hL : L ≤ 2048) (C0 : lw_At p s m meth c bb L xs)
    (hq : CUQ q) (hr0 : MUQ r) (hqA : ∀ x, CUA q x → s.heap.size ≤ x) (hrA : ∀ x, MUA r x → s.heap.size ≤ x) (hdis : ∀ x, CUA q x → ¬ MUA r x)
    (hK : va_K D vwCl [(cI, .int), (cJ, .long)] s) (hK2 : va_K D vwCl [(dI, .int), (dJ, .long), (dZ, .boolean)] s) (hN : va_Nw (.methodLinkNest RX0 90 yX6_literalsIn "LearnedReasons") s)
    (F : Nat) (Rel : RelT) (h_value : op_value F Rel) {i : Nat} (hin : i + 4 ≤ L) {ls : Array Slot} (hl : lv_has ls 4 [(0, .ref bb), (1, .ref (q 0)), (2, .ref (r 0)), (3, .int (nI i))]) (NEXT : ∀ (I : Nat → Int32) (J : Nat → Int64) (a : Nat → Nat → Int32) (b : Nat → Nat → Int64) (I2 : Nat → Int32) (J2 : Nat → Int64) (a2 : Nat → Nat → Int32) (b2 : Nat → Nat → Int64), Rel I J a b I2 J2 a2 b2 → ∀ (H : Heap) (locs : List Loc), va_P D vwCl (CUW cI cJ q I J a b) H → va_P D vwCl (MUW dI dJ dZ r I2 J2 a2 b2) H → va_S (fun x : Nat => s.heap.size ≤ x) s.heap H locs → W p l e room_1 s m #[Value.ref bb] below meth c H locs 32 64181 (lw_Z below #[Value.ref bb] s) (F0 m 609 ls [])) : ∀ (I : Nat → Int32) (J : Nat → Int64) (a : Nat → Nat → Int32) (b : Nat → Nat → Int64) (I2 : Nat → Int32) (J2 : Nat → Int64) (a2 : Nat → Nat → Int32) (b2 : Nat → Nat → Int64), Rel I J a b I2 J2 a2 b2 → ∀ (H : Heap) (locs : List Loc), va_P D vwCl (CUW cI cJ q I J a b) H → va_P D vwCl (MUW dI dJ dZ r I2 J2 a2 b2) H → va_S (fun x : Nat => s.heap.size ≤ x) s.heap H locs → W p l e room_1 s m #[Value.ref bb] below meth c H locs 32 64181 (lw_Z below #[Value.ref bb] s) (F0 m 435 ls []) := by
  obtain ⟨hx, hb, hr, hml, hown, hts, hX, hbl, hlocks, hgv⟩ := id C0
  have hown : s.vm.findClass RL = some m.cls := hown
  have hbA : ¬ (fun x : Nat => s.heap.size ≤ x) bb := Nat.not_le.mpr hbl
  have e1 : nI i + 1 = nI (i + 1) := nI_add i 1
  have e2 : nI i + 2 = nI (i + 2) := nI_add i 2
  have e3 : nI i + 3 = nI (i + 3) := nI_add i 3
  have g1 : vp_in (nI i + 1) L := by rw [e1]; exact vp_in_nI (by omega) (by omega)
  have g2 : vp_in (nI i + 2) L := by rw [e2]; exact vp_in_nI (by omega) (by omega)
  have g3 : vp_in (nI i + 3) L := by rw [e3]; exact vp_in_nI (by omega) (by omega)
  intro I J a b I2 J2 a2 b2 hRel H locs hP hP2 hS
  obtain ⟨x, y, hx1, hy1, he, hRel2⟩ := h_value I J a b I2 J2 a2 b2 (xs (nI i + 1).toNatClampNeg) hRel
  refine lv_aload_n hx hb dL_law_435 rfl (lv_at hl 1 rfl) ?_
  refine lv_aload_n hx hb dL_law_436 rfl (lv_at hl 0 rfl) ?_
  refine lv_iload_n hx hb dL_law_437 rfl (lv_at hl 3 rfl) ?_
  refine lv_iconst (v := 1) hx hb dL_law_438 (by decide) ?_
  refine lv_iadd hx hb dL_law_439 ?_
  refine va_sld hx hb hX hbl hbA hS g1 dL_law_440 ?_
  refine va_calli (va_runV (As := [.int (xs (nI i + 1).toNatClampNeg)]) (rest := []) ⟨hx, hb, hml, hown, hts⟩ (c_X6_value l D cI cJ q hq F I J a b (xs (nI i + 1).toNatClampNeg) x hx1) (cwV 1 hts gT_law_X6_value rfl rfl rfl (by decide +kernel) ⟨Nat.le_of_ble_eq_true rfl, Nat.le_of_ble_eq_true rfl⟩) ⟨CUPc_blind, va_recv hK hP (ci := 6) (q0 := 0) rfl rfl, fun U hU hW => ⟨rfl, by rw [hU]; exact hP, va_K.moved hW.alike hK, va_Nw.warmM hW hN⟩⟩ rfl rfl hl.1 rfl (lv_room (Nat.le_of_ble_eq_true rfl)) dL_law_441 ⟨Nat.le_of_ble_eq_true rfl, Nat.le_of_ble_eq_true rfl⟩) hS (fun x _ h => hqA x h) hqA (fun r9 u t H1 locs ht hvm hw hB hz1 hk1 hS => ?_)
  obtain ⟨rfl, rfl⟩ := hw
  rw [ht] at hB
  have hP : va_P D vwCl (CUW cI cJ q (fu (fu (fu (fu (fu (fu (fu (fu (fu (fu I 7 x.2.1) 8 x.2.2.1) 9 x.2.2.2.1) 10 x.2.2.2.2.1) 11 x.2.2.2.2.2.1) 12 x.2.2.2.2.2.2.1) 13 x.2.2.2.2.2.2.2.1) 14 x.2.2.2.2.2.2.2.2.1) 15 x.2.2.2.2.2.2.2.2.2.1) 16 x.2.2.2.2.2.2.2.2.2.2.1) J (fu (fu a 6 x.2.2.2.2.2.2.2.2.2.2.2.1) 7 x.2.2.2.2.2.2.2.2.2.2.2.2) b) H1 := hB
  have hP2 := hP2.kept (fun k z hz => hk1 z.1 (hP2 k z hz).lt (fun h => hdis _ h (by obtain ⟨a1, a2⟩ := MUW_at k z hz; exact ⟨k, a1, a2⟩)))
  clear hB hz1 hk1 ht hvm
  generalize H1 = H at hP hP2 hS ⊢
  refine lv_aload_n hx hb dL_law_444 rfl (lv_at hl 2 rfl) ?_
  refine lv_aload_n hx hb dL_law_445 rfl (lv_at hl 0 rfl) ?_
  refine lv_iload_n hx hb dL_law_446 rfl (lv_at hl 3 rfl) ?_
  refine lv_iconst (v := 1) hx hb dL_law_447 (by decide) ?_
  refine lv_iadd hx hb dL_law_448 ?_
  refine va_sld hx hb hX hbl hbA hS g1 dL_law_449 ?_
  refine va_calli (va_runV (As := [.int (xs (nI i + 1).toNatClampNeg)]) (rest := [.int x.1]) ⟨hx, hb, hml, hown, hts⟩ (c_X7_value l D dI dJ dZ r hr0 F I2 J2 a2 b2 (xs (nI i + 1).toNatClampNeg) y hy1) (cwV 1 hts gT_law_X7_value rfl rfl rfl (by decide +kernel) ⟨Nat.le_of_ble_eq_true rfl, Nat.le_of_ble_eq_true rfl⟩) ⟨MUPc_blind, va_recv hK2 hP2 (ci := 7) (q0 := 0) rfl rfl, fun U hU hW => ⟨rfl, by rw [hU]; exact hP2, va_K.moved hW.alike hK2, trivial⟩⟩ rfl rfl hl.1 rfl (lv_room (Nat.le_of_ble_eq_true rfl)) dL_law_450 ⟨Nat.le_of_ble_eq_true rfl, Nat.le_of_ble_eq_true rfl⟩) hS (fun x _ h => hrA x h) hrA (fun r9 u t H1 locs ht hvm hw hB hz1 hk1 hS => ?_)
  obtain ⟨rfl, rfl⟩ := hw
  rw [ht] at hB
  have hP2 : va_P D vwCl (MUW dI dJ dZ r (fu (fu (fu (fu (fu (fu (fu I2 8 y.2.1) 19 y.2.2.1) 20 y.2.2.2.1) 21 y.2.2.2.2.1) 22 y.2.2.2.2.2.1) 23 y.2.2.2.2.2.2.1) 24 y.2.2.2.2.2.2.2.1) (fu J2 0 y.2.2.2.2.2.2.2.2.1) a2 (fu b2 0 y.2.2.2.2.2.2.2.2.2)) H1 := hB
  have hP := hP.kept (fun k z hz => hk1 z.1 (hP k z hz).lt (fun h => hdis z.1 (by obtain ⟨a1, a2⟩ := CUW_at k z hz; exact ⟨k, a1, a2⟩) h))
  clear hB hz1 hk1 ht hvm
  generalize H1 = H at hP hP2 hS ⊢
  refine lv_icmp_eq (tgt := 609) hx hb dL_law_453 (by decide) (fun ce => ?_) (fun ce => ?_)
  · exact NEXT (fu (fu (fu (fu (fu (fu (fu (fu (fu (fu I 7 x.2.1) 8 x.2.2.1) 9 x.2.2.2.1) 10 x.2.2.2.2.1) 11 x.2.2.2.2.2.1) 12 x.2.2.2.2.2.2.1) 13 x.2.2.2.2.2.2.2.1) 14 x.2.2.2.2.2.2.2.2.1) 15 x.2.2.2.2.2.2.2.2.2.1) 16 x.2.2.2.2.2.2.2.2.2.2.1) J (fu (fu a 6 x.2.2.2.2.2.2.2.2.2.2.2.1) 7 x.2.2.2.2.2.2.2.2.2.2.2.2) b (fu (fu (fu (fu (fu (fu (fu I2 8 y.2.1) 19 y.2.2.1) 20 y.2.2.2.1) 21 y.2.2.2.2.1) 22 y.2.2.2.2.2.1) 23 y.2.2.2.2.2.2.1) 24 y.2.2.2.2.2.2.2.1) (fu J2 0 y.2.2.2.2.2.2.2.2.1) a2 (fu b2 0 y.2.2.2.2.2.2.2.2.2) hRel2 _ _ hP hP2 hS
  · exact absurd he ce
set_option maxHeartbeats 4000000 in
set_option maxRecDepth 100000 in
theorem law_c_told {p : Program} {l : Launch} {e : Env} {s : State} {m : MethodId} {below : List Frame} {meth : Method} {c : Code} {D : va_G} {cI cJ dI dJ dZ : ClassId} {q r : Nat → Nat} {bb L : Nat} {xs : Nat → Int32} (hL : L ≤ 2048) (C0 : lw_At p s m meth c bb L xs)
    (hq : CUQ q) (hr0 : MUQ r) (hqA : ∀ x, CUA q x → s.heap.size ≤ x) (hrA : ∀ x, MUA r x → s.heap.size ≤ x) (hdis : ∀ x, CUA q x → ¬ MUA r x)
    (hK : va_K D vwCl [(cI, .int), (cJ, .long)] s) (hK2 : va_K D vwCl [(dI, .int), (dJ, .long), (dZ, .boolean)] s) (hN : va_Nw (.methodLinkNest RX0 90 yX6_literalsIn "LearnedReasons") s)
    (F : Nat) (Rel : RelT) (h_told : op_told F Rel) {i : Nat} (hin : i + 4 ≤ L) {ls : Array Slot} (hl : lv_has ls 4 [(0, .ref bb), (1, .ref (q 0)), (2, .ref (r 0)), (3, .int (nI i))]) (NEXT : ∀ (I : Nat → Int32) (J : Nat → Int64) (a : Nat → Nat → Int32) (b : Nat → Nat → Int64) (I2 : Nat → Int32) (J2 : Nat → Int64) (a2 : Nat → Nat → Int32) (b2 : Nat → Nat → Int64), Rel I J a b I2 J2 a2 b2 → ∀ (H : Heap) (locs : List Loc), va_P D vwCl (CUW cI cJ q I J a b) H → va_P D vwCl (MUW dI dJ dZ r I2 J2 a2 b2) H → va_S (fun x : Nat => s.heap.size ≤ x) s.heap H locs → W p l e room_1 s m #[Value.ref bb] below meth c H locs 32 64181 (lw_Z below #[Value.ref bb] s) (F0 m 609 ls [])) : ∀ (I : Nat → Int32) (J : Nat → Int64) (a : Nat → Nat → Int32) (b : Nat → Nat → Int64) (I2 : Nat → Int32) (J2 : Nat → Int64) (a2 : Nat → Nat → Int32) (b2 : Nat → Nat → Int64), Rel I J a b I2 J2 a2 b2 → ∀ (H : Heap) (locs : List Loc), va_P D vwCl (CUW cI cJ q I J a b) H → va_P D vwCl (MUW dI dJ dZ r I2 J2 a2 b2) H → va_S (fun x : Nat => s.heap.size ≤ x) s.heap H locs → W p l e room_1 s m #[Value.ref bb] below meth c H locs 32 64181 (lw_Z below #[Value.ref bb] s) (F0 m 458 ls []) := by
  obtain ⟨hx, hb, hr, hml, hown, hts, hX, hbl, hlocks, hgv⟩ := id C0
  have hown : s.vm.findClass RL = some m.cls := hown
  have hbA : ¬ (fun x : Nat => s.heap.size ≤ x) bb := Nat.not_le.mpr hbl
  have e1 : nI i + 1 = nI (i + 1) := nI_add i 1
  have e2 : nI i + 2 = nI (i + 2) := nI_add i 2
  have e3 : nI i + 3 = nI (i + 3) := nI_add i 3
  have g1 : vp_in (nI i + 1) L := by rw [e1]; exact vp_in_nI (by omega) (by omega)
  have g2 : vp_in (nI i + 2) L := by rw [e2]; exact vp_in_nI (by omega) (by omega)
  have g3 : vp_in (nI i + 3) L := by rw [e3]; exact vp_in_nI (by omega) (by omega)
  intro I J a b I2 J2 a2 b2 hRel H locs hP hP2 hS
  obtain ⟨x, y, hx1, hy1, he, hRel2⟩ := h_told I J a b I2 J2 a2 b2 (xs (nI i + 1).toNatClampNeg) hRel
  refine lv_aload_n hx hb dL_law_458 rfl (lv_at hl 1 rfl) ?_
  refine lv_aload_n hx hb dL_law_459 rfl (lv_at hl 0 rfl) ?_
  refine lv_iload_n hx hb dL_law_460 rfl (lv_at hl 3 rfl) ?_
  refine lv_iconst (v := 1) hx hb dL_law_461 (by decide) ?_
  refine lv_iadd hx hb dL_law_462 ?_
  refine va_sld hx hb hX hbl hbA hS g1 dL_law_463 ?_
  refine va_calli (va_runV (As := [.int (xs (nI i + 1).toNatClampNeg)]) (rest := []) ⟨hx, hb, hml, hown, hts⟩ (c_X6_told l D cI cJ q hq F I J a b (xs (nI i + 1).toNatClampNeg) x hx1) (cwV 1 hts gT_law_X6_told rfl rfl rfl (by decide +kernel) ⟨Nat.le_of_ble_eq_true rfl, Nat.le_of_ble_eq_true rfl⟩) ⟨CUPc_blind, va_recv hK hP (ci := 6) (q0 := 0) rfl rfl, fun U hU hW => ⟨rfl, by rw [hU]; exact hP, va_K.moved hW.alike hK, va_Nw.warmM hW hN⟩⟩ rfl rfl hl.1 rfl (lv_room (Nat.le_of_ble_eq_true rfl)) dL_law_464 ⟨Nat.le_of_ble_eq_true rfl, Nat.le_of_ble_eq_true rfl⟩) hS (fun x _ h => hqA x h) hqA (fun r9 u t H1 locs ht hvm hw hB hz1 hk1 hS => ?_)
  obtain ⟨rfl, rfl⟩ := hw
  rw [ht] at hB
  have hP : va_P D vwCl (CUW cI cJ q (fu (fu (fu (fu (fu (fu (fu (fu (fu (fu I 7 x.2.1) 8 x.2.2.1) 9 x.2.2.2.1) 10 x.2.2.2.2.1) 11 x.2.2.2.2.2.1) 12 x.2.2.2.2.2.2.1) 13 x.2.2.2.2.2.2.2.1) 14 x.2.2.2.2.2.2.2.2.1) 15 x.2.2.2.2.2.2.2.2.2.1) 16 x.2.2.2.2.2.2.2.2.2.2.1) J (fu (fu a 6 x.2.2.2.2.2.2.2.2.2.2.2.1) 7 x.2.2.2.2.2.2.2.2.2.2.2.2) b) H1 := hB
  have hP2 := hP2.kept (fun k z hz => hk1 z.1 (hP2 k z hz).lt (fun h => hdis _ h (by obtain ⟨a1, a2⟩ := MUW_at k z hz; exact ⟨k, a1, a2⟩)))
  clear hB hz1 hk1 ht hvm
  generalize H1 = H at hP hP2 hS ⊢
  refine lv_aload_n hx hb dL_law_467 rfl (lv_at hl 2 rfl) ?_
  refine lv_aload_n hx hb dL_law_468 rfl (lv_at hl 0 rfl) ?_
  refine lv_iload_n hx hb dL_law_469 rfl (lv_at hl 3 rfl) ?_
  refine lv_iconst (v := 1) hx hb dL_law_470 (by decide) ?_
  refine lv_iadd hx hb dL_law_471 ?_
  refine va_sld hx hb hX hbl hbA hS g1 dL_law_472 ?_
  refine va_calli (va_runV (As := [.int (xs (nI i + 1).toNatClampNeg)]) (rest := [.int x.1]) ⟨hx, hb, hml, hown, hts⟩ (c_X7_told l D dI dJ dZ r hr0 F I2 J2 a2 b2 (xs (nI i + 1).toNatClampNeg) y hy1) (cwV 1 hts gT_law_X7_told rfl rfl rfl (by decide +kernel) ⟨Nat.le_of_ble_eq_true rfl, Nat.le_of_ble_eq_true rfl⟩) ⟨MUPc_blind, va_recv hK2 hP2 (ci := 7) (q0 := 0) rfl rfl, fun U hU hW => ⟨rfl, by rw [hU]; exact hP2, va_K.moved hW.alike hK2, trivial⟩⟩ rfl rfl hl.1 rfl (lv_room (Nat.le_of_ble_eq_true rfl)) dL_law_473 ⟨Nat.le_of_ble_eq_true rfl, Nat.le_of_ble_eq_true rfl⟩) hS (fun x _ h => hrA x h) hrA (fun r9 u t H1 locs ht hvm hw hB hz1 hk1 hS => ?_)
  obtain ⟨rfl, rfl⟩ := hw
  rw [ht] at hB
  have hP2 : va_P D vwCl (MUW dI dJ dZ r (fu (fu (fu (fu (fu (fu (fu (fu (fu (fu I2 9 y.2.1) 10 y.2.2.1) 11 y.2.2.2.1) 12 y.2.2.2.2.1) 13 y.2.2.2.2.2.1) 14 y.2.2.2.2.2.2.1) 15 y.2.2.2.2.2.2.2.1) 16 y.2.2.2.2.2.2.2.2.1) 17 y.2.2.2.2.2.2.2.2.2.1) 18 y.2.2.2.2.2.2.2.2.2.2.1) J2 (fu (fu a2 9 y.2.2.2.2.2.2.2.2.2.2.2.1) 10 y.2.2.2.2.2.2.2.2.2.2.2.2) b2) H1 := hB
  have hP := hP.kept (fun k z hz => hk1 z.1 (hP k z hz).lt (fun h => hdis z.1 (by obtain ⟨a1, a2⟩ := CUW_at k z hz; exact ⟨k, a1, a2⟩) h))
  clear hB hz1 hk1 ht hvm
  generalize H1 = H at hP hP2 hS ⊢
  refine lv_icmp_eq (tgt := 609) hx hb dL_law_476 (by decide) (fun ce => ?_) (fun ce => ?_)
  · exact NEXT (fu (fu (fu (fu (fu (fu (fu (fu (fu (fu I 7 x.2.1) 8 x.2.2.1) 9 x.2.2.2.1) 10 x.2.2.2.2.1) 11 x.2.2.2.2.2.1) 12 x.2.2.2.2.2.2.1) 13 x.2.2.2.2.2.2.2.1) 14 x.2.2.2.2.2.2.2.2.1) 15 x.2.2.2.2.2.2.2.2.2.1) 16 x.2.2.2.2.2.2.2.2.2.2.1) J (fu (fu a 6 x.2.2.2.2.2.2.2.2.2.2.2.1) 7 x.2.2.2.2.2.2.2.2.2.2.2.2) b (fu (fu (fu (fu (fu (fu (fu (fu (fu (fu I2 9 y.2.1) 10 y.2.2.1) 11 y.2.2.2.1) 12 y.2.2.2.2.1) 13 y.2.2.2.2.2.1) 14 y.2.2.2.2.2.2.1) 15 y.2.2.2.2.2.2.2.1) 16 y.2.2.2.2.2.2.2.2.1) 17 y.2.2.2.2.2.2.2.2.2.1) 18 y.2.2.2.2.2.2.2.2.2.2.1) J2 (fu (fu a2 9 y.2.2.2.2.2.2.2.2.2.2.2.1) 10 y.2.2.2.2.2.2.2.2.2.2.2.2) b2 hRel2 _ _ hP hP2 hS
  · exact absurd he ce
set_option maxHeartbeats 4000000 in
set_option maxRecDepth 100000 in
theorem law_c_learned {p : Program} {l : Launch} {e : Env} {s : State} {m : MethodId} {below : List Frame} {meth : Method} {c : Code} {D : va_G} {cI cJ dI dJ dZ : ClassId} {q r : Nat → Nat} {bb L : Nat} {xs : Nat → Int32} (hL : L ≤ 2048) (C0 : lw_At p s m meth c bb L xs)
    (hq : CUQ q) (hr0 : MUQ r) (hqA : ∀ x, CUA q x → s.heap.size ≤ x) (hrA : ∀ x, MUA r x → s.heap.size ≤ x) (hdis : ∀ x, CUA q x → ¬ MUA r x)
    (hK : va_K D vwCl [(cI, .int), (cJ, .long)] s) (hK2 : va_K D vwCl [(dI, .int), (dJ, .long), (dZ, .boolean)] s) (hN : va_Nw (.methodLinkNest RX0 90 yX6_literalsIn "LearnedReasons") s)
    (F : Nat) (Rel : RelT) (h_learned : op_learned F Rel) {i : Nat} (hin : i + 4 ≤ L) {ls : Array Slot} (hl : lv_has ls 4 [(0, .ref bb), (1, .ref (q 0)), (2, .ref (r 0)), (3, .int (nI i))]) (NEXT : ∀ (I : Nat → Int32) (J : Nat → Int64) (a : Nat → Nat → Int32) (b : Nat → Nat → Int64) (I2 : Nat → Int32) (J2 : Nat → Int64) (a2 : Nat → Nat → Int32) (b2 : Nat → Nat → Int64), Rel I J a b I2 J2 a2 b2 → ∀ (H : Heap) (locs : List Loc), va_P D vwCl (CUW cI cJ q I J a b) H → va_P D vwCl (MUW dI dJ dZ r I2 J2 a2 b2) H → va_S (fun x : Nat => s.heap.size ≤ x) s.heap H locs → W p l e room_1 s m #[Value.ref bb] below meth c H locs 32 64181 (lw_Z below #[Value.ref bb] s) (F0 m 609 ls [])) : ∀ (I : Nat → Int32) (J : Nat → Int64) (a : Nat → Nat → Int32) (b : Nat → Nat → Int64) (I2 : Nat → Int32) (J2 : Nat → Int64) (a2 : Nat → Nat → Int32) (b2 : Nat → Nat → Int64), Rel I J a b I2 J2 a2 b2 → ∀ (H : Heap) (locs : List Loc), va_P D vwCl (CUW cI cJ q I J a b) H → va_P D vwCl (MUW dI dJ dZ r I2 J2 a2 b2) H → va_S (fun x : Nat => s.heap.size ≤ x) s.heap H locs → W p l e room_1 s m #[Value.ref bb] below meth c H locs 32 64181 (lw_Z below #[Value.ref bb] s) (F0 m 481 ls []) := by
  obtain ⟨hx, hb, hr, hml, hown, hts, hX, hbl, hlocks, hgv⟩ := id C0
  have hown : s.vm.findClass RL = some m.cls := hown
  have hbA : ¬ (fun x : Nat => s.heap.size ≤ x) bb := Nat.not_le.mpr hbl
  have e1 : nI i + 1 = nI (i + 1) := nI_add i 1
  have e2 : nI i + 2 = nI (i + 2) := nI_add i 2
  have e3 : nI i + 3 = nI (i + 3) := nI_add i 3
  have g1 : vp_in (nI i + 1) L := by rw [e1]; exact vp_in_nI (by omega) (by omega)
  have g2 : vp_in (nI i + 2) L := by rw [e2]; exact vp_in_nI (by omega) (by omega)
  have g3 : vp_in (nI i + 3) L := by rw [e3]; exact vp_in_nI (by omega) (by omega)
  intro I J a b I2 J2 a2 b2 hRel H locs hP hP2 hS
  obtain ⟨x, y, hx1, hy1, he, hRel2⟩ := h_learned I J a b I2 J2 a2 b2 (xs (nI i + 1).toNatClampNeg) (xs (nI i + 2).toNatClampNeg) hRel
  refine lv_aload_n hx hb dL_law_481 rfl (lv_at hl 1 rfl) ?_
  refine lv_aload_n hx hb dL_law_482 rfl (lv_at hl 0 rfl) ?_
  refine lv_iload_n hx hb dL_law_483 rfl (lv_at hl 3 rfl) ?_
  refine lv_iconst (v := 1) hx hb dL_law_484 (by decide) ?_
  refine lv_iadd hx hb dL_law_485 ?_
  refine va_sld hx hb hX hbl hbA hS g1 dL_law_486 ?_
  refine lv_aload_n hx hb dL_law_487 rfl (lv_at hl 0 rfl) ?_
  refine lv_iload_n hx hb dL_law_488 rfl (lv_at hl 3 rfl) ?_
  refine lv_iconst (v := 2) hx hb dL_law_489 (by decide) ?_
  refine lv_iadd hx hb dL_law_490 ?_
  refine va_sld hx hb hX hbl hbA hS g2 dL_law_491 ?_
  refine va_calli (va_runV (As := [.int (xs (nI i + 1).toNatClampNeg), .int (xs (nI i + 2).toNatClampNeg)]) (rest := []) ⟨hx, hb, hml, hown, hts⟩ (c_X6_learned l D cI cJ q hq F I J a b (xs (nI i + 1).toNatClampNeg) (xs (nI i + 2).toNatClampNeg) x hx1) (cwV 2 hts gT_law_X6_learned rfl rfl rfl (by decide +kernel) ⟨Nat.le_of_ble_eq_true rfl, Nat.le_of_ble_eq_true rfl⟩) ⟨CUPc_blind, va_recv hK hP (ci := 6) (q0 := 0) rfl rfl, fun U hU hW => ⟨rfl, by rw [hU]; exact hP, va_K.moved hW.alike hK, va_Nw.warmM hW hN⟩⟩ rfl rfl hl.1 rfl (lv_room (Nat.le_of_ble_eq_true rfl)) dL_law_492 ⟨Nat.le_of_ble_eq_true rfl, Nat.le_of_ble_eq_true rfl⟩) hS (fun x _ h => hqA x h) hqA (fun r9 u t H1 locs ht hvm hw hB hz1 hk1 hS => ?_)
  obtain ⟨rfl, rfl⟩ := hw
  rw [ht] at hB
  have hP : va_P D vwCl (CUW cI cJ q (fu (fu (fu (fu (fu (fu (fu (fu (fu (fu I 7 x.2.1) 8 x.2.2.1) 9 x.2.2.2.1) 10 x.2.2.2.2.1) 11 x.2.2.2.2.2.1) 12 x.2.2.2.2.2.2.1) 13 x.2.2.2.2.2.2.2.1) 14 x.2.2.2.2.2.2.2.2.1) 15 x.2.2.2.2.2.2.2.2.2.1) 16 x.2.2.2.2.2.2.2.2.2.2.1) J (fu (fu a 6 x.2.2.2.2.2.2.2.2.2.2.2.1) 7 x.2.2.2.2.2.2.2.2.2.2.2.2) b) H1 := hB
  have hP2 := hP2.kept (fun k z hz => hk1 z.1 (hP2 k z hz).lt (fun h => hdis _ h (by obtain ⟨a1, a2⟩ := MUW_at k z hz; exact ⟨k, a1, a2⟩)))
  clear hB hz1 hk1 ht hvm
  generalize H1 = H at hP hP2 hS ⊢
  refine lv_aload_n hx hb dL_law_495 rfl (lv_at hl 2 rfl) ?_
  refine lv_aload_n hx hb dL_law_496 rfl (lv_at hl 0 rfl) ?_
  refine lv_iload_n hx hb dL_law_497 rfl (lv_at hl 3 rfl) ?_
  refine lv_iconst (v := 1) hx hb dL_law_498 (by decide) ?_
  refine lv_iadd hx hb dL_law_499 ?_
  refine va_sld hx hb hX hbl hbA hS g1 dL_law_500 ?_
  refine lv_aload_n hx hb dL_law_501 rfl (lv_at hl 0 rfl) ?_
  refine lv_iload_n hx hb dL_law_502 rfl (lv_at hl 3 rfl) ?_
  refine lv_iconst (v := 2) hx hb dL_law_503 (by decide) ?_
  refine lv_iadd hx hb dL_law_504 ?_
  refine va_sld hx hb hX hbl hbA hS g2 dL_law_505 ?_
  refine va_calli (va_runV (As := [.int (xs (nI i + 1).toNatClampNeg), .int (xs (nI i + 2).toNatClampNeg)]) (rest := [.int x.1]) ⟨hx, hb, hml, hown, hts⟩ (c_X7_learned l D dI dJ dZ r hr0 F I2 J2 a2 b2 (xs (nI i + 1).toNatClampNeg) (xs (nI i + 2).toNatClampNeg) y hy1) (cwV 2 hts gT_law_X7_learned rfl rfl rfl (by decide +kernel) ⟨Nat.le_of_ble_eq_true rfl, Nat.le_of_ble_eq_true rfl⟩) ⟨MUPc_blind, va_recv hK2 hP2 (ci := 7) (q0 := 0) rfl rfl, fun U hU hW => ⟨rfl, by rw [hU]; exact hP2, va_K.moved hW.alike hK2, trivial⟩⟩ rfl rfl hl.1 rfl (lv_room (Nat.le_of_ble_eq_true rfl)) dL_law_506 ⟨Nat.le_of_ble_eq_true rfl, Nat.le_of_ble_eq_true rfl⟩) hS (fun x _ h => hrA x h) hrA (fun r9 u t H1 locs ht hvm hw hB hz1 hk1 hS => ?_)
  obtain ⟨rfl, rfl⟩ := hw
  rw [ht] at hB
  have hP2 : va_P D vwCl (MUW dI dJ dZ r (fu (fu (fu (fu (fu (fu (fu (fu (fu (fu I2 9 y.2.1) 10 y.2.2.1) 11 y.2.2.2.1) 12 y.2.2.2.2.1) 13 y.2.2.2.2.2.1) 14 y.2.2.2.2.2.2.1) 15 y.2.2.2.2.2.2.2.1) 16 y.2.2.2.2.2.2.2.2.1) 17 y.2.2.2.2.2.2.2.2.2.1) 18 y.2.2.2.2.2.2.2.2.2.2.1) J2 (fu (fu a2 9 y.2.2.2.2.2.2.2.2.2.2.2.1) 10 y.2.2.2.2.2.2.2.2.2.2.2.2) b2) H1 := hB
  have hP := hP.kept (fun k z hz => hk1 z.1 (hP k z hz).lt (fun h => hdis z.1 (by obtain ⟨a1, a2⟩ := CUW_at k z hz; exact ⟨k, a1, a2⟩) h))
  clear hB hz1 hk1 ht hvm
  generalize H1 = H at hP hP2 hS ⊢
  refine lv_icmp_eq (tgt := 609) hx hb dL_law_509 (by decide) (fun ce => ?_) (fun ce => ?_)
  · exact NEXT (fu (fu (fu (fu (fu (fu (fu (fu (fu (fu I 7 x.2.1) 8 x.2.2.1) 9 x.2.2.2.1) 10 x.2.2.2.2.1) 11 x.2.2.2.2.2.1) 12 x.2.2.2.2.2.2.1) 13 x.2.2.2.2.2.2.2.1) 14 x.2.2.2.2.2.2.2.2.1) 15 x.2.2.2.2.2.2.2.2.2.1) 16 x.2.2.2.2.2.2.2.2.2.2.1) J (fu (fu a 6 x.2.2.2.2.2.2.2.2.2.2.2.1) 7 x.2.2.2.2.2.2.2.2.2.2.2.2) b (fu (fu (fu (fu (fu (fu (fu (fu (fu (fu I2 9 y.2.1) 10 y.2.2.1) 11 y.2.2.2.1) 12 y.2.2.2.2.1) 13 y.2.2.2.2.2.1) 14 y.2.2.2.2.2.2.1) 15 y.2.2.2.2.2.2.2.1) 16 y.2.2.2.2.2.2.2.2.1) 17 y.2.2.2.2.2.2.2.2.2.1) 18 y.2.2.2.2.2.2.2.2.2.2.1) J2 (fu (fu a2 9 y.2.2.2.2.2.2.2.2.2.2.2.1) 10 y.2.2.2.2.2.2.2.2.2.2.2.2) b2 hRel2 _ _ hP hP2 hS
  · exact absurd he ce
set_option maxHeartbeats 4000000 in
set_option maxRecDepth 100000 in
theorem law_c_count {p : Program} {l : Launch} {e : Env} {s : State} {m : MethodId} {below : List Frame} {meth : Method} {c : Code} {D : va_G} {cI cJ dI dJ dZ : ClassId} {q r : Nat → Nat} {bb L : Nat} {xs : Nat → Int32} (hL : L ≤ 2048) (C0 : lw_At p s m meth c bb L xs)
    (hq : CUQ q) (hr0 : MUQ r) (hqA : ∀ x, CUA q x → s.heap.size ≤ x) (hrA : ∀ x, MUA r x → s.heap.size ≤ x) (hdis : ∀ x, CUA q x → ¬ MUA r x)
    (hK : va_K D vwCl [(cI, .int), (cJ, .long)] s) (hK2 : va_K D vwCl [(dI, .int), (dJ, .long), (dZ, .boolean)] s) (hN : va_Nw (.methodLinkNest RX0 90 yX6_literalsIn "LearnedReasons") s)
    (F : Nat) (Rel : RelT) (h_count : op_count F Rel) {i : Nat} (hin : i + 4 ≤ L) {ls : Array Slot} (hl : lv_has ls 4 [(0, .ref bb), (1, .ref (q 0)), (2, .ref (r 0)), (3, .int (nI i))]) (NEXT : ∀ (I : Nat → Int32) (J : Nat → Int64) (a : Nat → Nat → Int32) (b : Nat → Nat → Int64) (I2 : Nat → Int32) (J2 : Nat → Int64) (a2 : Nat → Nat → Int32) (b2 : Nat → Nat → Int64), Rel I J a b I2 J2 a2 b2 → ∀ (H : Heap) (locs : List Loc), va_P D vwCl (CUW cI cJ q I J a b) H → va_P D vwCl (MUW dI dJ dZ r I2 J2 a2 b2) H → va_S (fun x : Nat => s.heap.size ≤ x) s.heap H locs → W p l e room_1 s m #[Value.ref bb] below meth c H locs 32 64181 (lw_Z below #[Value.ref bb] s) (F0 m 609 ls [])) : ∀ (I : Nat → Int32) (J : Nat → Int64) (a : Nat → Nat → Int32) (b : Nat → Nat → Int64) (I2 : Nat → Int32) (J2 : Nat → Int64) (a2 : Nat → Nat → Int32) (b2 : Nat → Nat → Int64), Rel I J a b I2 J2 a2 b2 → ∀ (H : Heap) (locs : List Loc), va_P D vwCl (CUW cI cJ q I J a b) H → va_P D vwCl (MUW dI dJ dZ r I2 J2 a2 b2) H → va_S (fun x : Nat => s.heap.size ≤ x) s.heap H locs → W p l e room_1 s m #[Value.ref bb] below meth c H locs 32 64181 (lw_Z below #[Value.ref bb] s) (F0 m 514 ls []) := by
  obtain ⟨hx, hb, hr, hml, hown, hts, hX, hbl, hlocks, hgv⟩ := id C0
  have hown : s.vm.findClass RL = some m.cls := hown
  have hbA : ¬ (fun x : Nat => s.heap.size ≤ x) bb := Nat.not_le.mpr hbl
  have e1 : nI i + 1 = nI (i + 1) := nI_add i 1
  have e2 : nI i + 2 = nI (i + 2) := nI_add i 2
  have e3 : nI i + 3 = nI (i + 3) := nI_add i 3
  have g1 : vp_in (nI i + 1) L := by rw [e1]; exact vp_in_nI (by omega) (by omega)
  have g2 : vp_in (nI i + 2) L := by rw [e2]; exact vp_in_nI (by omega) (by omega)
  have g3 : vp_in (nI i + 3) L := by rw [e3]; exact vp_in_nI (by omega) (by omega)
  intro I J a b I2 J2 a2 b2 hRel H locs hP hP2 hS
  obtain ⟨x, y, hx1, hy1, he, hRel2⟩ := h_count I J a b I2 J2 a2 b2 hRel
  refine lv_aload_n hx hb dL_law_514 rfl (lv_at hl 1 rfl) ?_
  refine va_calli (va_runV (As := []) (rest := []) ⟨hx, hb, hml, hown, hts⟩ (c_X6_count l D cI cJ q hq F I J a b x hx1) (cwV 0 hts gT_law_X6_count rfl rfl rfl (by decide +kernel) ⟨Nat.le_of_ble_eq_true rfl, Nat.le_of_ble_eq_true rfl⟩) ⟨CUPc_blind, va_recv hK hP (ci := 6) (q0 := 0) rfl rfl, fun U hU hW => ⟨rfl, by rw [hU]; exact hP, va_K.moved hW.alike hK, va_Nw.warmM hW hN⟩⟩ rfl rfl hl.1 rfl (lv_room (Nat.le_of_ble_eq_true rfl)) dL_law_515 ⟨Nat.le_of_ble_eq_true rfl, Nat.le_of_ble_eq_true rfl⟩) hS (fun x _ h => hqA x h) hqA (fun r9 u t H1 locs ht hvm hw hB hz1 hk1 hS => ?_)
  obtain ⟨rfl, rfl⟩ := hw
  rw [ht] at hB
  have hP : va_P D vwCl (CUW cI cJ q (fu (fu (fu (fu (fu (fu I 17 x.2.1) 19 x.2.2.1) 20 x.2.2.2.1) 21 x.2.2.2.2.1) 22 x.2.2.2.2.2.1) 23 x.2.2.2.2.2.2.1) (fu J 2 x.2.2.2.2.2.2.2.1) (fu (fu a 9 x.2.2.2.2.2.2.2.2.1) 10 x.2.2.2.2.2.2.2.2.2.1) (fu b 0 x.2.2.2.2.2.2.2.2.2.2)) H1 := hB
  have hP2 := hP2.kept (fun k z hz => hk1 z.1 (hP2 k z hz).lt (fun h => hdis _ h (by obtain ⟨a1, a2⟩ := MUW_at k z hz; exact ⟨k, a1, a2⟩)))
  clear hB hz1 hk1 ht hvm
  generalize H1 = H at hP hP2 hS ⊢
  refine lv_aload_n hx hb dL_law_518 rfl (lv_at hl 2 rfl) ?_
  refine va_calli (va_runV (As := []) (rest := [.int x.1]) ⟨hx, hb, hml, hown, hts⟩ (c_X7_count l D dI dJ dZ r hr0 F I2 J2 a2 b2 y hy1) (cwV 0 hts gT_law_X7_count rfl rfl rfl (by decide +kernel) ⟨Nat.le_of_ble_eq_true rfl, Nat.le_of_ble_eq_true rfl⟩) ⟨MUPc_blind, va_recv hK2 hP2 (ci := 7) (q0 := 0) rfl rfl, fun U hU hW => ⟨rfl, by rw [hU]; exact hP2, va_K.moved hW.alike hK2, trivial⟩⟩ rfl rfl hl.1 rfl (lv_room (Nat.le_of_ble_eq_true rfl)) dL_law_519 ⟨Nat.le_of_ble_eq_true rfl, Nat.le_of_ble_eq_true rfl⟩) hS (fun x _ h => hrA x h) hrA (fun r9 u t H1 locs ht hvm hw hB hz1 hk1 hS => ?_)
  obtain ⟨rfl, rfl⟩ := hw
  rw [ht] at hB
  have hP2 : va_P D vwCl (MUW dI dJ dZ r (fu (fu (fu (fu (fu (fu (fu I2 8 y.2.1) 19 y.2.2.1) 20 y.2.2.2.1) 21 y.2.2.2.2.1) 22 y.2.2.2.2.2.1) 23 y.2.2.2.2.2.2.1) 24 y.2.2.2.2.2.2.2.1) (fu J2 0 y.2.2.2.2.2.2.2.2.1) a2 (fu b2 0 y.2.2.2.2.2.2.2.2.2)) H1 := hB
  have hP := hP.kept (fun k z hz => hk1 z.1 (hP k z hz).lt (fun h => hdis z.1 (by obtain ⟨a1, a2⟩ := CUW_at k z hz; exact ⟨k, a1, a2⟩) h))
  clear hB hz1 hk1 ht hvm
  generalize H1 = H at hP hP2 hS ⊢
  refine lv_icmp_eq (tgt := 609) hx hb dL_law_522 (by decide) (fun ce => ?_) (fun ce => ?_)
  · exact NEXT (fu (fu (fu (fu (fu (fu I 17 x.2.1) 19 x.2.2.1) 20 x.2.2.2.1) 21 x.2.2.2.2.1) 22 x.2.2.2.2.2.1) 23 x.2.2.2.2.2.2.1) (fu J 2 x.2.2.2.2.2.2.2.1) (fu (fu a 9 x.2.2.2.2.2.2.2.2.1) 10 x.2.2.2.2.2.2.2.2.2.1) (fu b 0 x.2.2.2.2.2.2.2.2.2.2) (fu (fu (fu (fu (fu (fu (fu I2 8 y.2.1) 19 y.2.2.1) 20 y.2.2.2.1) 21 y.2.2.2.2.1) 22 y.2.2.2.2.2.1) 23 y.2.2.2.2.2.2.1) 24 y.2.2.2.2.2.2.2.1) (fu J2 0 y.2.2.2.2.2.2.2.2.1) a2 (fu b2 0 y.2.2.2.2.2.2.2.2.2) hRel2 _ _ hP hP2 hS
  · exact absurd he ce
set_option maxHeartbeats 4000000 in
set_option maxRecDepth 100000 in
theorem law_c_fixed {p : Program} {l : Launch} {e : Env} {s : State} {m : MethodId} {below : List Frame} {meth : Method} {c : Code} {D : va_G} {cI cJ dI dJ dZ : ClassId} {q r : Nat → Nat} {bb L : Nat} {xs : Nat → Int32} (hL : L ≤ 2048) (C0 : lw_At p s m meth c bb L xs)
    (hq : CUQ q) (hr0 : MUQ r) (hqA : ∀ x, CUA q x → s.heap.size ≤ x) (hrA : ∀ x, MUA r x → s.heap.size ≤ x) (hdis : ∀ x, CUA q x → ¬ MUA r x)
    (hK : va_K D vwCl [(cI, .int), (cJ, .long)] s) (hK2 : va_K D vwCl [(dI, .int), (dJ, .long), (dZ, .boolean)] s) (hN : va_Nw (.methodLinkNest RX0 90 yX6_literalsIn "LearnedReasons") s)
    (F : Nat) (Rel : RelT) (h_fixed : op_fixed F Rel) {i : Nat} (hin : i + 4 ≤ L) {ls : Array Slot} (hl : lv_has ls 4 [(0, .ref bb), (1, .ref (q 0)), (2, .ref (r 0)), (3, .int (nI i))]) (NEXT : ∀ (I : Nat → Int32) (J : Nat → Int64) (a : Nat → Nat → Int32) (b : Nat → Nat → Int64) (I2 : Nat → Int32) (J2 : Nat → Int64) (a2 : Nat → Nat → Int32) (b2 : Nat → Nat → Int64), Rel I J a b I2 J2 a2 b2 → ∀ (H : Heap) (locs : List Loc), va_P D vwCl (CUW cI cJ q I J a b) H → va_P D vwCl (MUW dI dJ dZ r I2 J2 a2 b2) H → va_S (fun x : Nat => s.heap.size ≤ x) s.heap H locs → W p l e room_1 s m #[Value.ref bb] below meth c H locs 32 64181 (lw_Z below #[Value.ref bb] s) (F0 m 609 ls [])) : ∀ (I : Nat → Int32) (J : Nat → Int64) (a : Nat → Nat → Int32) (b : Nat → Nat → Int64) (I2 : Nat → Int32) (J2 : Nat → Int64) (a2 : Nat → Nat → Int32) (b2 : Nat → Nat → Int64), Rel I J a b I2 J2 a2 b2 → ∀ (H : Heap) (locs : List Loc), va_P D vwCl (CUW cI cJ q I J a b) H → va_P D vwCl (MUW dI dJ dZ r I2 J2 a2 b2) H → va_S (fun x : Nat => s.heap.size ≤ x) s.heap H locs → W p l e room_1 s m #[Value.ref bb] below meth c H locs 32 64181 (lw_Z below #[Value.ref bb] s) (F0 m 527 ls []) := by
  obtain ⟨hx, hb, hr, hml, hown, hts, hX, hbl, hlocks, hgv⟩ := id C0
  have hown : s.vm.findClass RL = some m.cls := hown
  have hbA : ¬ (fun x : Nat => s.heap.size ≤ x) bb := Nat.not_le.mpr hbl
  have e1 : nI i + 1 = nI (i + 1) := nI_add i 1
  have e2 : nI i + 2 = nI (i + 2) := nI_add i 2
  have e3 : nI i + 3 = nI (i + 3) := nI_add i 3
  have g1 : vp_in (nI i + 1) L := by rw [e1]; exact vp_in_nI (by omega) (by omega)
  have g2 : vp_in (nI i + 2) L := by rw [e2]; exact vp_in_nI (by omega) (by omega)
  have g3 : vp_in (nI i + 3) L := by rw [e3]; exact vp_in_nI (by omega) (by omega)
  intro I J a b I2 J2 a2 b2 hRel H locs hP hP2 hS
  obtain ⟨x, y, hx1, hy1, he, hRel2⟩ := h_fixed I J a b I2 J2 a2 b2 (xs (nI i + 1).toNatClampNeg) hRel
  refine lv_aload_n hx hb dL_law_527 rfl (lv_at hl 1 rfl) ?_
  refine lv_aload_n hx hb dL_law_528 rfl (lv_at hl 0 rfl) ?_
  refine lv_iload_n hx hb dL_law_529 rfl (lv_at hl 3 rfl) ?_
  refine lv_iconst (v := 1) hx hb dL_law_530 (by decide) ?_
  refine lv_iadd hx hb dL_law_531 ?_
  refine va_sld hx hb hX hbl hbA hS g1 dL_law_532 ?_
  refine va_calli (va_runV (As := [.int (xs (nI i + 1).toNatClampNeg)]) (rest := []) ⟨hx, hb, hml, hown, hts⟩ (c_X6_fixed l D cI cJ q hq F I J a b (xs (nI i + 1).toNatClampNeg) x hx1) (cwV 1 hts gT_law_X6_fixed rfl rfl rfl (by decide +kernel) ⟨Nat.le_of_ble_eq_true rfl, Nat.le_of_ble_eq_true rfl⟩) ⟨CUPc_blind, va_recv hK hP (ci := 6) (q0 := 0) rfl rfl, fun U hU hW => ⟨rfl, by rw [hU]; exact hP, va_K.moved hW.alike hK, va_Nw.warmM hW hN⟩⟩ rfl rfl hl.1 rfl (lv_room (Nat.le_of_ble_eq_true rfl)) dL_law_533 ⟨Nat.le_of_ble_eq_true rfl, Nat.le_of_ble_eq_true rfl⟩) hS (fun x _ h => hqA x h) hqA (fun r9 u t H1 locs ht hvm hw hB hz1 hk1 hS => ?_)
  obtain ⟨rfl, rfl⟩ := hw
  rw [ht] at hB
  have hP : va_P D vwCl (CUW cI cJ q (fu (fu (fu (fu (fu (fu I 17 x.2.1) 19 x.2.2.1) 20 x.2.2.2.1) 21 x.2.2.2.2.1) 22 x.2.2.2.2.2.1) 23 x.2.2.2.2.2.2.1) (fu J 2 x.2.2.2.2.2.2.2.1) (fu (fu a 9 x.2.2.2.2.2.2.2.2.1) 10 x.2.2.2.2.2.2.2.2.2.1) (fu b 0 x.2.2.2.2.2.2.2.2.2.2)) H1 := hB
  have hP2 := hP2.kept (fun k z hz => hk1 z.1 (hP2 k z hz).lt (fun h => hdis _ h (by obtain ⟨a1, a2⟩ := MUW_at k z hz; exact ⟨k, a1, a2⟩)))
  clear hB hz1 hk1 ht hvm
  generalize H1 = H at hP hP2 hS ⊢
  refine lv_aload_n hx hb dL_law_536 rfl (lv_at hl 2 rfl) ?_
  refine lv_aload_n hx hb dL_law_537 rfl (lv_at hl 0 rfl) ?_
  refine lv_iload_n hx hb dL_law_538 rfl (lv_at hl 3 rfl) ?_
  refine lv_iconst (v := 1) hx hb dL_law_539 (by decide) ?_
  refine lv_iadd hx hb dL_law_540 ?_
  refine va_sld hx hb hX hbl hbA hS g1 dL_law_541 ?_
  refine va_calli (va_runV (As := [.int (xs (nI i + 1).toNatClampNeg)]) (rest := [.int x.1]) ⟨hx, hb, hml, hown, hts⟩ (c_X7_fixed l D dI dJ dZ r hr0 F I2 J2 a2 b2 (xs (nI i + 1).toNatClampNeg) y hy1) (cwV 1 hts gT_law_X7_fixed rfl rfl rfl (by decide +kernel) ⟨Nat.le_of_ble_eq_true rfl, Nat.le_of_ble_eq_true rfl⟩) ⟨MUPc_blind, va_recv hK2 hP2 (ci := 7) (q0 := 0) rfl rfl, fun U hU hW => ⟨rfl, by rw [hU]; exact hP2, va_K.moved hW.alike hK2, trivial⟩⟩ rfl rfl hl.1 rfl (lv_room (Nat.le_of_ble_eq_true rfl)) dL_law_542 ⟨Nat.le_of_ble_eq_true rfl, Nat.le_of_ble_eq_true rfl⟩) hS (fun x _ h => hrA x h) hrA (fun r9 u t H1 locs ht hvm hw hB hz1 hk1 hS => ?_)
  obtain ⟨rfl, rfl⟩ := hw
  rw [ht] at hB
  have hP2 : va_P D vwCl (MUW dI dJ dZ r (fu (fu (fu (fu (fu (fu (fu I2 8 y.2.1) 19 y.2.2.1) 20 y.2.2.2.1) 21 y.2.2.2.2.1) 22 y.2.2.2.2.2.1) 23 y.2.2.2.2.2.2.1) 24 y.2.2.2.2.2.2.2.1) (fu J2 0 y.2.2.2.2.2.2.2.2.1) a2 (fu b2 0 y.2.2.2.2.2.2.2.2.2)) H1 := hB
  have hP := hP.kept (fun k z hz => hk1 z.1 (hP k z hz).lt (fun h => hdis z.1 (by obtain ⟨a1, a2⟩ := CUW_at k z hz; exact ⟨k, a1, a2⟩) h))
  clear hB hz1 hk1 ht hvm
  generalize H1 = H at hP hP2 hS ⊢
  refine lv_icmp_eq (tgt := 609) hx hb dL_law_545 (by decide) (fun ce => ?_) (fun ce => ?_)
  · exact NEXT (fu (fu (fu (fu (fu (fu I 17 x.2.1) 19 x.2.2.1) 20 x.2.2.2.1) 21 x.2.2.2.2.1) 22 x.2.2.2.2.2.1) 23 x.2.2.2.2.2.2.1) (fu J 2 x.2.2.2.2.2.2.2.1) (fu (fu a 9 x.2.2.2.2.2.2.2.2.1) 10 x.2.2.2.2.2.2.2.2.2.1) (fu b 0 x.2.2.2.2.2.2.2.2.2.2) (fu (fu (fu (fu (fu (fu (fu I2 8 y.2.1) 19 y.2.2.1) 20 y.2.2.2.1) 21 y.2.2.2.2.1) 22 y.2.2.2.2.2.1) 23 y.2.2.2.2.2.2.1) 24 y.2.2.2.2.2.2.2.1) (fu J2 0 y.2.2.2.2.2.2.2.2.1) a2 (fu b2 0 y.2.2.2.2.2.2.2.2.2) hRel2 _ _ hP hP2 hS
  · exact absurd he ce
set_option maxHeartbeats 4000000 in
set_option maxRecDepth 100000 in
theorem law_c_best {p : Program} {l : Launch} {e : Env} {s : State} {m : MethodId} {below : List Frame} {meth : Method} {c : Code} {D : va_G} {cI cJ dI dJ dZ : ClassId} {q r : Nat → Nat} {bb L : Nat} {xs : Nat → Int32} (hL : L ≤ 2048) (C0 : lw_At p s m meth c bb L xs)
    (hq : CUQ q) (hr0 : MUQ r) (hqA : ∀ x, CUA q x → s.heap.size ≤ x) (hrA : ∀ x, MUA r x → s.heap.size ≤ x) (hdis : ∀ x, CUA q x → ¬ MUA r x)
    (hK : va_K D vwCl [(cI, .int), (cJ, .long)] s) (hK2 : va_K D vwCl [(dI, .int), (dJ, .long), (dZ, .boolean)] s) (hN : va_Nw (.methodLinkNest RX0 90 yX6_literalsIn "LearnedReasons") s)
    (F : Nat) (Rel : RelT) (h_best : op_best F Rel) {i : Nat} (hin : i + 4 ≤ L) {ls : Array Slot} (hl : lv_has ls 4 [(0, .ref bb), (1, .ref (q 0)), (2, .ref (r 0)), (3, .int (nI i))]) (NEXT : ∀ (I : Nat → Int32) (J : Nat → Int64) (a : Nat → Nat → Int32) (b : Nat → Nat → Int64) (I2 : Nat → Int32) (J2 : Nat → Int64) (a2 : Nat → Nat → Int32) (b2 : Nat → Nat → Int64), Rel I J a b I2 J2 a2 b2 → ∀ (H : Heap) (locs : List Loc), va_P D vwCl (CUW cI cJ q I J a b) H → va_P D vwCl (MUW dI dJ dZ r I2 J2 a2 b2) H → va_S (fun x : Nat => s.heap.size ≤ x) s.heap H locs → W p l e room_1 s m #[Value.ref bb] below meth c H locs 32 64181 (lw_Z below #[Value.ref bb] s) (F0 m 609 ls [])) : ∀ (I : Nat → Int32) (J : Nat → Int64) (a : Nat → Nat → Int32) (b : Nat → Nat → Int64) (I2 : Nat → Int32) (J2 : Nat → Int64) (a2 : Nat → Nat → Int32) (b2 : Nat → Nat → Int64), Rel I J a b I2 J2 a2 b2 → ∀ (H : Heap) (locs : List Loc), va_P D vwCl (CUW cI cJ q I J a b) H → va_P D vwCl (MUW dI dJ dZ r I2 J2 a2 b2) H → va_S (fun x : Nat => s.heap.size ≤ x) s.heap H locs → W p l e room_1 s m #[Value.ref bb] below meth c H locs 32 64181 (lw_Z below #[Value.ref bb] s) (F0 m 550 ls []) := by
  obtain ⟨hx, hb, hr, hml, hown, hts, hX, hbl, hlocks, hgv⟩ := id C0
  have hown : s.vm.findClass RL = some m.cls := hown
  have hbA : ¬ (fun x : Nat => s.heap.size ≤ x) bb := Nat.not_le.mpr hbl
  have e1 : nI i + 1 = nI (i + 1) := nI_add i 1
  have e2 : nI i + 2 = nI (i + 2) := nI_add i 2
  have e3 : nI i + 3 = nI (i + 3) := nI_add i 3
  have g1 : vp_in (nI i + 1) L := by rw [e1]; exact vp_in_nI (by omega) (by omega)
  have g2 : vp_in (nI i + 2) L := by rw [e2]; exact vp_in_nI (by omega) (by omega)
  have g3 : vp_in (nI i + 3) L := by rw [e3]; exact vp_in_nI (by omega) (by omega)
  intro I J a b I2 J2 a2 b2 hRel H locs hP hP2 hS
  obtain ⟨x, y, hx1, hy1, he, hRel2⟩ := h_best I J a b I2 J2 a2 b2 hRel
  refine lv_aload_n hx hb dL_law_550 rfl (lv_at hl 1 rfl) ?_
  refine va_calli (va_runV (As := []) (rest := []) ⟨hx, hb, hml, hown, hts⟩ (c_X6_best l D cI cJ q hq F I J a b x hx1) (cwV 0 hts gT_law_X6_best rfl rfl rfl (by decide +kernel) ⟨Nat.le_of_ble_eq_true rfl, Nat.le_of_ble_eq_true rfl⟩) ⟨CUPc_blind, va_recv hK hP (ci := 6) (q0 := 0) rfl rfl, fun U hU hW => ⟨rfl, by rw [hU]; exact hP, va_K.moved hW.alike hK, va_Nw.warmM hW hN⟩⟩ rfl rfl hl.1 rfl (lv_room (Nat.le_of_ble_eq_true rfl)) dL_law_551 ⟨Nat.le_of_ble_eq_true rfl, Nat.le_of_ble_eq_true rfl⟩) hS (fun x _ h => hqA x h) hqA (fun r9 u t H1 locs ht hvm hw hB hz1 hk1 hS => ?_)
  obtain ⟨rfl, rfl⟩ := hw
  rw [ht] at hB
  have hP : va_P D vwCl (CUW cI cJ q (fu (fu (fu (fu (fu (fu I 17 x.2.1) 19 x.2.2.1) 20 x.2.2.2.1) 21 x.2.2.2.2.1) 22 x.2.2.2.2.2.1) 23 x.2.2.2.2.2.2.1) (fu J 2 x.2.2.2.2.2.2.2.1) (fu (fu a 9 x.2.2.2.2.2.2.2.2.1) 10 x.2.2.2.2.2.2.2.2.2.1) (fu b 0 x.2.2.2.2.2.2.2.2.2.2)) H1 := hB
  have hP2 := hP2.kept (fun k z hz => hk1 z.1 (hP2 k z hz).lt (fun h => hdis _ h (by obtain ⟨a1, a2⟩ := MUW_at k z hz; exact ⟨k, a1, a2⟩)))
  clear hB hz1 hk1 ht hvm
  generalize H1 = H at hP hP2 hS ⊢
  refine lv_aload_n hx hb dL_law_554 rfl (lv_at hl 2 rfl) ?_
  refine va_calli (va_runV (As := []) (rest := [.int x.1]) ⟨hx, hb, hml, hown, hts⟩ (c_X7_best l D dI dJ dZ r hr0 F I2 J2 a2 b2 y hy1) (cwV 0 hts gT_law_X7_best rfl rfl rfl (by decide +kernel) ⟨Nat.le_of_ble_eq_true rfl, Nat.le_of_ble_eq_true rfl⟩) ⟨MUPc_blind, va_recv hK2 hP2 (ci := 7) (q0 := 0) rfl rfl, fun U hU hW => ⟨rfl, by rw [hU]; exact hP2, va_K.moved hW.alike hK2, trivial⟩⟩ rfl rfl hl.1 rfl (lv_room (Nat.le_of_ble_eq_true rfl)) dL_law_555 ⟨Nat.le_of_ble_eq_true rfl, Nat.le_of_ble_eq_true rfl⟩) hS (fun x _ h => hrA x h) hrA (fun r9 u t H1 locs ht hvm hw hB hz1 hk1 hS => ?_)
  obtain ⟨rfl, rfl⟩ := hw
  rw [ht] at hB
  have hP2 : va_P D vwCl (MUW dI dJ dZ r (fu (fu (fu (fu (fu (fu (fu I2 8 y.2.1) 19 y.2.2.1) 20 y.2.2.2.1) 21 y.2.2.2.2.1) 22 y.2.2.2.2.2.1) 23 y.2.2.2.2.2.2.1) 24 y.2.2.2.2.2.2.2.1) (fu J2 0 y.2.2.2.2.2.2.2.2.1) a2 (fu b2 0 y.2.2.2.2.2.2.2.2.2)) H1 := hB
  have hP := hP.kept (fun k z hz => hk1 z.1 (hP k z hz).lt (fun h => hdis z.1 (by obtain ⟨a1, a2⟩ := CUW_at k z hz; exact ⟨k, a1, a2⟩) h))
  clear hB hz1 hk1 ht hvm
  generalize H1 = H at hP hP2 hS ⊢
  refine lv_icmp_eq (tgt := 609) hx hb dL_law_558 (by decide) (fun ce => ?_) (fun ce => ?_)
  · exact NEXT (fu (fu (fu (fu (fu (fu I 17 x.2.1) 19 x.2.2.1) 20 x.2.2.2.1) 21 x.2.2.2.2.1) 22 x.2.2.2.2.2.1) 23 x.2.2.2.2.2.2.1) (fu J 2 x.2.2.2.2.2.2.2.1) (fu (fu a 9 x.2.2.2.2.2.2.2.2.1) 10 x.2.2.2.2.2.2.2.2.2.1) (fu b 0 x.2.2.2.2.2.2.2.2.2.2) (fu (fu (fu (fu (fu (fu (fu I2 8 y.2.1) 19 y.2.2.1) 20 y.2.2.2.1) 21 y.2.2.2.2.1) 22 y.2.2.2.2.2.1) 23 y.2.2.2.2.2.2.1) 24 y.2.2.2.2.2.2.2.1) (fu J2 0 y.2.2.2.2.2.2.2.2.1) a2 (fu b2 0 y.2.2.2.2.2.2.2.2.2) hRel2 _ _ hP hP2 hS
  · exact absurd he ce
set_option maxHeartbeats 4000000 in
set_option maxRecDepth 100000 in
theorem law_c_bestValue {p : Program} {l : Launch} {e : Env} {s : State} {m : MethodId} {below : List Frame} {meth : Method} {c : Code} {D : va_G} {cI cJ dI dJ dZ : ClassId} {q r : Nat → Nat} {bb L : Nat} {xs : Nat → Int32} (hL : L ≤ 2048) (C0 : lw_At p s m meth c bb L xs)
    (hq : CUQ q) (hr0 : MUQ r) (hqA : ∀ x, CUA q x → s.heap.size ≤ x) (hrA : ∀ x, MUA r x → s.heap.size ≤ x) (hdis : ∀ x, CUA q x → ¬ MUA r x)
    (hK : va_K D vwCl [(cI, .int), (cJ, .long)] s) (hK2 : va_K D vwCl [(dI, .int), (dJ, .long), (dZ, .boolean)] s) (hN : va_Nw (.methodLinkNest RX0 90 yX6_literalsIn "LearnedReasons") s)
    (F : Nat) (Rel : RelT) (h_bestValue : op_bestValue F Rel) {i : Nat} (hin : i + 4 ≤ L) {ls : Array Slot} (hl : lv_has ls 4 [(0, .ref bb), (1, .ref (q 0)), (2, .ref (r 0)), (3, .int (nI i))]) (NEXT : ∀ (I : Nat → Int32) (J : Nat → Int64) (a : Nat → Nat → Int32) (b : Nat → Nat → Int64) (I2 : Nat → Int32) (J2 : Nat → Int64) (a2 : Nat → Nat → Int32) (b2 : Nat → Nat → Int64), Rel I J a b I2 J2 a2 b2 → ∀ (H : Heap) (locs : List Loc), va_P D vwCl (CUW cI cJ q I J a b) H → va_P D vwCl (MUW dI dJ dZ r I2 J2 a2 b2) H → va_S (fun x : Nat => s.heap.size ≤ x) s.heap H locs → W p l e room_1 s m #[Value.ref bb] below meth c H locs 32 64181 (lw_Z below #[Value.ref bb] s) (F0 m 609 ls [])) : ∀ (I : Nat → Int32) (J : Nat → Int64) (a : Nat → Nat → Int32) (b : Nat → Nat → Int64) (I2 : Nat → Int32) (J2 : Nat → Int64) (a2 : Nat → Nat → Int32) (b2 : Nat → Nat → Int64), Rel I J a b I2 J2 a2 b2 → ∀ (H : Heap) (locs : List Loc), va_P D vwCl (CUW cI cJ q I J a b) H → va_P D vwCl (MUW dI dJ dZ r I2 J2 a2 b2) H → va_S (fun x : Nat => s.heap.size ≤ x) s.heap H locs → W p l e room_1 s m #[Value.ref bb] below meth c H locs 32 64181 (lw_Z below #[Value.ref bb] s) (F0 m 563 ls []) := by
  obtain ⟨hx, hb, hr, hml, hown, hts, hX, hbl, hlocks, hgv⟩ := id C0
  have hown : s.vm.findClass RL = some m.cls := hown
  have hbA : ¬ (fun x : Nat => s.heap.size ≤ x) bb := Nat.not_le.mpr hbl
  have e1 : nI i + 1 = nI (i + 1) := nI_add i 1
  have e2 : nI i + 2 = nI (i + 2) := nI_add i 2
  have e3 : nI i + 3 = nI (i + 3) := nI_add i 3
  have g1 : vp_in (nI i + 1) L := by rw [e1]; exact vp_in_nI (by omega) (by omega)
  have g2 : vp_in (nI i + 2) L := by rw [e2]; exact vp_in_nI (by omega) (by omega)
  have g3 : vp_in (nI i + 3) L := by rw [e3]; exact vp_in_nI (by omega) (by omega)
  intro I J a b I2 J2 a2 b2 hRel H locs hP hP2 hS
  obtain ⟨x, y, hx1, hy1, he, hRel2⟩ := h_bestValue I J a b I2 J2 a2 b2 (xs (nI i + 1).toNatClampNeg) hRel
  refine lv_aload_n hx hb dL_law_563 rfl (lv_at hl 1 rfl) ?_
  refine lv_aload_n hx hb dL_law_564 rfl (lv_at hl 0 rfl) ?_
  refine lv_iload_n hx hb dL_law_565 rfl (lv_at hl 3 rfl) ?_
  refine lv_iconst (v := 1) hx hb dL_law_566 (by decide) ?_
  refine lv_iadd hx hb dL_law_567 ?_
  refine va_sld hx hb hX hbl hbA hS g1 dL_law_568 ?_
  refine va_calli (va_runV (As := [.int (xs (nI i + 1).toNatClampNeg)]) (rest := []) ⟨hx, hb, hml, hown, hts⟩ (c_X6_bestValue l D cI cJ q hq F I J a b (xs (nI i + 1).toNatClampNeg) x hx1) (cwV 1 hts gT_law_X6_bestValue rfl rfl rfl (by decide +kernel) ⟨Nat.le_of_ble_eq_true rfl, Nat.le_of_ble_eq_true rfl⟩) ⟨CUPc_blind, va_recv hK hP (ci := 6) (q0 := 0) rfl rfl, fun U hU hW => ⟨rfl, by rw [hU]; exact hP, va_K.moved hW.alike hK, va_Nw.warmM hW hN⟩⟩ rfl rfl hl.1 rfl (lv_room (Nat.le_of_ble_eq_true rfl)) dL_law_569 ⟨Nat.le_of_ble_eq_true rfl, Nat.le_of_ble_eq_true rfl⟩) hS (fun x _ h => hqA x h) hqA (fun r9 u t H1 locs ht hvm hw hB hz1 hk1 hS => ?_)
  obtain ⟨rfl, rfl⟩ := hw
  rw [ht] at hB
  have hP : va_P D vwCl (CUW cI cJ q (fu (fu (fu (fu (fu (fu I 17 x.2.1) 19 x.2.2.1) 20 x.2.2.2.1) 21 x.2.2.2.2.1) 22 x.2.2.2.2.2.1) 23 x.2.2.2.2.2.2.1) (fu J 2 x.2.2.2.2.2.2.2.1) (fu (fu a 9 x.2.2.2.2.2.2.2.2.1) 10 x.2.2.2.2.2.2.2.2.2.1) (fu b 0 x.2.2.2.2.2.2.2.2.2.2)) H1 := hB
  have hP2 := hP2.kept (fun k z hz => hk1 z.1 (hP2 k z hz).lt (fun h => hdis _ h (by obtain ⟨a1, a2⟩ := MUW_at k z hz; exact ⟨k, a1, a2⟩)))
  clear hB hz1 hk1 ht hvm
  generalize H1 = H at hP hP2 hS ⊢
  refine lv_aload_n hx hb dL_law_572 rfl (lv_at hl 2 rfl) ?_
  refine lv_aload_n hx hb dL_law_573 rfl (lv_at hl 0 rfl) ?_
  refine lv_iload_n hx hb dL_law_574 rfl (lv_at hl 3 rfl) ?_
  refine lv_iconst (v := 1) hx hb dL_law_575 (by decide) ?_
  refine lv_iadd hx hb dL_law_576 ?_
  refine va_sld hx hb hX hbl hbA hS g1 dL_law_577 ?_
  refine va_calli (va_runV (As := [.int (xs (nI i + 1).toNatClampNeg)]) (rest := [.int x.1]) ⟨hx, hb, hml, hown, hts⟩ (c_X7_bestValue l D dI dJ dZ r hr0 F I2 J2 a2 b2 (xs (nI i + 1).toNatClampNeg) y hy1) (cwV 1 hts gT_law_X7_bestValue rfl rfl rfl (by decide +kernel) ⟨Nat.le_of_ble_eq_true rfl, Nat.le_of_ble_eq_true rfl⟩) ⟨MUPc_blind, va_recv hK2 hP2 (ci := 7) (q0 := 0) rfl rfl, fun U hU hW => ⟨rfl, by rw [hU]; exact hP2, va_K.moved hW.alike hK2, trivial⟩⟩ rfl rfl hl.1 rfl (lv_room (Nat.le_of_ble_eq_true rfl)) dL_law_578 ⟨Nat.le_of_ble_eq_true rfl, Nat.le_of_ble_eq_true rfl⟩) hS (fun x _ h => hrA x h) hrA (fun r9 u t H1 locs ht hvm hw hB hz1 hk1 hS => ?_)
  obtain ⟨rfl, rfl⟩ := hw
  rw [ht] at hB
  have hP2 : va_P D vwCl (MUW dI dJ dZ r (fu (fu (fu (fu (fu (fu (fu I2 8 y.2.1) 19 y.2.2.1) 20 y.2.2.2.1) 21 y.2.2.2.2.1) 22 y.2.2.2.2.2.1) 23 y.2.2.2.2.2.2.1) 24 y.2.2.2.2.2.2.2.1) (fu J2 0 y.2.2.2.2.2.2.2.2.1) a2 (fu b2 0 y.2.2.2.2.2.2.2.2.2)) H1 := hB
  have hP := hP.kept (fun k z hz => hk1 z.1 (hP k z hz).lt (fun h => hdis z.1 (by obtain ⟨a1, a2⟩ := CUW_at k z hz; exact ⟨k, a1, a2⟩) h))
  clear hB hz1 hk1 ht hvm
  generalize H1 = H at hP hP2 hS ⊢
  refine lv_icmp_eq (tgt := 609) hx hb dL_law_581 (by decide) (fun ce => ?_) (fun ce => ?_)
  · exact NEXT (fu (fu (fu (fu (fu (fu I 17 x.2.1) 19 x.2.2.1) 20 x.2.2.2.1) 21 x.2.2.2.2.1) 22 x.2.2.2.2.2.1) 23 x.2.2.2.2.2.2.1) (fu J 2 x.2.2.2.2.2.2.2.1) (fu (fu a 9 x.2.2.2.2.2.2.2.2.1) 10 x.2.2.2.2.2.2.2.2.2.1) (fu b 0 x.2.2.2.2.2.2.2.2.2.2) (fu (fu (fu (fu (fu (fu (fu I2 8 y.2.1) 19 y.2.2.1) 20 y.2.2.2.1) 21 y.2.2.2.2.1) 22 y.2.2.2.2.2.1) 23 y.2.2.2.2.2.2.1) 24 y.2.2.2.2.2.2.2.1) (fu J2 0 y.2.2.2.2.2.2.2.2.1) a2 (fu b2 0 y.2.2.2.2.2.2.2.2.2) hRel2 _ _ hP hP2 hS
  · exact absurd he ce
set_option maxHeartbeats 4000000 in
set_option maxRecDepth 100000 in
theorem law_c_core {p : Program} {l : Launch} {e : Env} {s : State} {m : MethodId} {below : List Frame} {meth : Method} {c : Code} {D : va_G} {cI cJ dI dJ dZ : ClassId} {q r : Nat → Nat} {bb L : Nat} {xs : Nat → Int32} (hL : L ≤ 2048) (C0 : lw_At p s m meth c bb L xs)
    (hq : CUQ q) (hr0 : MUQ r) (hqA : ∀ x, CUA q x → s.heap.size ≤ x) (hrA : ∀ x, MUA r x → s.heap.size ≤ x) (hdis : ∀ x, CUA q x → ¬ MUA r x)
    (hK : va_K D vwCl [(cI, .int), (cJ, .long)] s) (hK2 : va_K D vwCl [(dI, .int), (dJ, .long), (dZ, .boolean)] s) (hN : va_Nw (.methodLinkNest RX0 90 yX6_literalsIn "LearnedReasons") s)
    (F : Nat) (Rel : RelT) (h_core : op_core F Rel) {i : Nat} (hin : i + 4 ≤ L) {ls : Array Slot} (hl : lv_has ls 4 [(0, .ref bb), (1, .ref (q 0)), (2, .ref (r 0)), (3, .int (nI i))]) (NEXT : ∀ (I : Nat → Int32) (J : Nat → Int64) (a : Nat → Nat → Int32) (b : Nat → Nat → Int64) (I2 : Nat → Int32) (J2 : Nat → Int64) (a2 : Nat → Nat → Int32) (b2 : Nat → Nat → Int64), Rel I J a b I2 J2 a2 b2 → ∀ (H : Heap) (locs : List Loc), va_P D vwCl (CUW cI cJ q I J a b) H → va_P D vwCl (MUW dI dJ dZ r I2 J2 a2 b2) H → va_S (fun x : Nat => s.heap.size ≤ x) s.heap H locs → W p l e room_1 s m #[Value.ref bb] below meth c H locs 32 64181 (lw_Z below #[Value.ref bb] s) (F0 m 609 ls [])) : ∀ (I : Nat → Int32) (J : Nat → Int64) (a : Nat → Nat → Int32) (b : Nat → Nat → Int64) (I2 : Nat → Int32) (J2 : Nat → Int64) (a2 : Nat → Nat → Int32) (b2 : Nat → Nat → Int64), Rel I J a b I2 J2 a2 b2 → ∀ (H : Heap) (locs : List Loc), va_P D vwCl (CUW cI cJ q I J a b) H → va_P D vwCl (MUW dI dJ dZ r I2 J2 a2 b2) H → va_S (fun x : Nat => s.heap.size ≤ x) s.heap H locs → W p l e room_1 s m #[Value.ref bb] below meth c H locs 32 64181 (lw_Z below #[Value.ref bb] s) (F0 m 586 ls []) := by
  obtain ⟨hx, hb, hr, hml, hown, hts, hX, hbl, hlocks, hgv⟩ := id C0
  have hown : s.vm.findClass RL = some m.cls := hown
  have hbA : ¬ (fun x : Nat => s.heap.size ≤ x) bb := Nat.not_le.mpr hbl
  have e1 : nI i + 1 = nI (i + 1) := nI_add i 1
  have e2 : nI i + 2 = nI (i + 2) := nI_add i 2
  have e3 : nI i + 3 = nI (i + 3) := nI_add i 3
  have g1 : vp_in (nI i + 1) L := by rw [e1]; exact vp_in_nI (by omega) (by omega)
  have g2 : vp_in (nI i + 2) L := by rw [e2]; exact vp_in_nI (by omega) (by omega)
  have g3 : vp_in (nI i + 3) L := by rw [e3]; exact vp_in_nI (by omega) (by omega)
  intro I J a b I2 J2 a2 b2 hRel H locs hP hP2 hS
  obtain ⟨x, y, hx1, hy1, he, hRel2⟩ := h_core I J a b I2 J2 a2 b2 (xs (nI i + 1).toNatClampNeg) hRel
  refine lv_aload_n hx hb dL_law_586 rfl (lv_at hl 1 rfl) ?_
  refine lv_aload_n hx hb dL_law_587 rfl (lv_at hl 0 rfl) ?_
  refine lv_iload_n hx hb dL_law_588 rfl (lv_at hl 3 rfl) ?_
  refine lv_iconst (v := 1) hx hb dL_law_589 (by decide) ?_
  refine lv_iadd hx hb dL_law_590 ?_
  refine va_sld hx hb hX hbl hbA hS g1 dL_law_591 ?_
  refine va_calli (va_runV (As := [.int (xs (nI i + 1).toNatClampNeg)]) (rest := []) ⟨hx, hb, hml, hown, hts⟩ (c_X6_core l D cI cJ q hq F I J a b (xs (nI i + 1).toNatClampNeg) x hx1) (cwV 1 hts gT_law_X6_core rfl rfl rfl (by decide +kernel) ⟨Nat.le_of_ble_eq_true rfl, Nat.le_of_ble_eq_true rfl⟩) ⟨CUPc_blind, va_recv hK hP (ci := 6) (q0 := 0) rfl rfl, fun U hU hW => ⟨rfl, by rw [hU]; exact hP, va_K.moved hW.alike hK, va_Nw.warmM hW hN⟩⟩ rfl rfl hl.1 rfl (lv_room (Nat.le_of_ble_eq_true rfl)) dL_law_592 ⟨Nat.le_of_ble_eq_true rfl, Nat.le_of_ble_eq_true rfl⟩) hS (fun x _ h => hqA x h) hqA (fun r9 u t H1 locs ht hvm hw hB hz1 hk1 hS => ?_)
  obtain ⟨rfl, rfl⟩ := hw
  rw [ht] at hB
  have hP : va_P D vwCl (CUW cI cJ q (fu (fu (fu (fu (fu (fu (fu I 17 x.2.1) 18 x.2.2.1) 19 x.2.2.2.1) 20 x.2.2.2.2.1) 21 x.2.2.2.2.2.1) 22 x.2.2.2.2.2.2.1) 23 x.2.2.2.2.2.2.2.1) (fu (fu J 2 x.2.2.2.2.2.2.2.2.1) 3 x.2.2.2.2.2.2.2.2.2.1) (fu (fu a 9 x.2.2.2.2.2.2.2.2.2.2.1) 10 x.2.2.2.2.2.2.2.2.2.2.2.1) (fu b 0 x.2.2.2.2.2.2.2.2.2.2.2.2)) H1 := hB
  have hP2 := hP2.kept (fun k z hz => hk1 z.1 (hP2 k z hz).lt (fun h => hdis _ h (by obtain ⟨a1, a2⟩ := MUW_at k z hz; exact ⟨k, a1, a2⟩)))
  clear hB hz1 hk1 ht hvm
  generalize H1 = H at hP hP2 hS ⊢
  refine lv_aload_n hx hb dL_law_595 rfl (lv_at hl 2 rfl) ?_
  refine lv_aload_n hx hb dL_law_596 rfl (lv_at hl 0 rfl) ?_
  refine lv_iload_n hx hb dL_law_597 rfl (lv_at hl 3 rfl) ?_
  refine lv_iconst (v := 1) hx hb dL_law_598 (by decide) ?_
  refine lv_iadd hx hb dL_law_599 ?_
  refine va_sld hx hb hX hbl hbA hS g1 dL_law_600 ?_
  refine va_calli (va_runV (As := [.int (xs (nI i + 1).toNatClampNeg)]) (rest := [.int x.1]) ⟨hx, hb, hml, hown, hts⟩ (c_X7_core l D dI dJ dZ r hr0 F I2 J2 a2 b2 (xs (nI i + 1).toNatClampNeg) y hy1) (cwV 1 hts gT_law_X7_core rfl rfl rfl (by decide +kernel) ⟨Nat.le_of_ble_eq_true rfl, Nat.le_of_ble_eq_true rfl⟩) ⟨MUPc_blind, va_recv hK2 hP2 (ci := 7) (q0 := 0) rfl rfl, fun U hU hW => ⟨rfl, by rw [hU]; exact hP2, va_K.moved hW.alike hK2, trivial⟩⟩ rfl rfl hl.1 rfl (lv_room (Nat.le_of_ble_eq_true rfl)) dL_law_601 ⟨Nat.le_of_ble_eq_true rfl, Nat.le_of_ble_eq_true rfl⟩) hS (fun x _ h => hrA x h) hrA (fun r9 u t H1 locs ht hvm hw hB hz1 hk1 hS => ?_)
  obtain ⟨rfl, rfl⟩ := hw
  rw [ht] at hB
  have hP2 : va_P D vwCl (MUW dI dJ dZ r (fu (fu (fu (fu (fu (fu (fu I2 8 y.2.1) 19 y.2.2.1) 20 y.2.2.2.1) 21 y.2.2.2.2.1) 22 y.2.2.2.2.2.1) 23 y.2.2.2.2.2.2.1) 24 y.2.2.2.2.2.2.2.1) (fu J2 0 y.2.2.2.2.2.2.2.2.1) a2 (fu b2 0 y.2.2.2.2.2.2.2.2.2)) H1 := hB
  have hP := hP.kept (fun k z hz => hk1 z.1 (hP k z hz).lt (fun h => hdis z.1 (by obtain ⟨a1, a2⟩ := CUW_at k z hz; exact ⟨k, a1, a2⟩) h))
  clear hB hz1 hk1 ht hvm
  generalize H1 = H at hP hP2 hS ⊢
  refine lv_icmp_eq (tgt := 609) hx hb dL_law_604 (by decide) (fun ce => ?_) (fun ce => ?_)
  · exact NEXT (fu (fu (fu (fu (fu (fu (fu I 17 x.2.1) 18 x.2.2.1) 19 x.2.2.2.1) 20 x.2.2.2.2.1) 21 x.2.2.2.2.2.1) 22 x.2.2.2.2.2.2.1) 23 x.2.2.2.2.2.2.2.1) (fu (fu J 2 x.2.2.2.2.2.2.2.2.1) 3 x.2.2.2.2.2.2.2.2.2.1) (fu (fu a 9 x.2.2.2.2.2.2.2.2.2.2.1) 10 x.2.2.2.2.2.2.2.2.2.2.2.1) (fu b 0 x.2.2.2.2.2.2.2.2.2.2.2.2) (fu (fu (fu (fu (fu (fu (fu I2 8 y.2.1) 19 y.2.2.1) 20 y.2.2.2.1) 21 y.2.2.2.2.1) 22 y.2.2.2.2.2.1) 23 y.2.2.2.2.2.2.1) 24 y.2.2.2.2.2.2.2.1) (fu J2 0 y.2.2.2.2.2.2.2.2.1) a2 (fu b2 0 y.2.2.2.2.2.2.2.2.2) hRel2 _ _ hP hP2 hS
  · exact absurd he ce
