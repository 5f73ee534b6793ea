set_option maxHeartbeats 4000000 in
set_option maxRecDepth 100000 in
theorem law_c_name {p : Program} {l : Launch} {e : Env} {s : State} {m : MethodId} {below : List Frame} {meth : Method} {c : Code} {D : va_G} {cI cJ dI dJ dZ : ClassId} {q r : Nat → Nat} {bb L : Nat} {xs : Nat → Int32} (hL : L ≤ 2048) (C0 : lw_At p s m meth c bb L xs)
    (hq : CUQ q) (hr0 : MUQ r) (hqA : ∀ x, CUA q x → s.heap.size ≤ x) (hrA : ∀ x, MUA r x → s.heap.size ≤ x) (hdis : ∀ x, CUA q x → ¬ MUA r x)
    (hK : va_K D vwCl [(cI, .int), (cJ, .long)] s) (hK2 : va_K D vwCl [(dI, .int), (dJ, .long), (dZ, .boolean)] s) (hN : va_Nw (.methodLinkNest RX0 90 yX6_literalsIn "LearnedReasons") s)
    (F : Nat) (Rel : RelT) (h_name : op_name F Rel) {i : Nat} (hin : i + 4 ≤ L) {ls : Array Slot} (hl : lv_has ls 4 [(0, .ref bb), (1, .ref (q 0)), (2, .ref (r 0)), (3, .int (nI i))]) (NEXT : ∀ (I : Nat → Int32) (J : Nat → Int64) (a : Nat → Nat → Int32) (b : Nat → Nat → Int64) (I2 : Nat → Int32) (J2 : Nat → Int64) (a2 : Nat → Nat → Int32) (b2 : Nat → Nat → Int64), Rel I J a b I2 J2 a2 b2 → ∀ (H : Heap) (locs : List Loc), va_P D vwCl (CUW cI cJ q I J a b) H → va_P D vwCl (MUW dI dJ dZ r I2 J2 a2 b2) H → va_S (fun x : Nat => s.heap.size ≤ x) s.heap H locs → W p l e room_1 s m #[Value.ref bb] below meth c H locs 32 64181 (lw_Z below #[Value.ref bb] s) (F0 m 609 ls [])) : ∀ (I : Nat → Int32) (J : Nat → Int64) (a : Nat → Nat → Int32) (b : Nat → Nat → Int64) (I2 : Nat → Int32) (J2 : Nat → Int64) (a2 : Nat → Nat → Int32) (b2 : Nat → Nat → Int64), Rel I J a b I2 J2 a2 b2 → ∀ (H : Heap) (locs : List Loc), va_P D vwCl (CUW cI cJ q I J a b) H → va_P D vwCl (MUW dI dJ dZ r I2 J2 a2 b2) H → va_S (fun x : Nat => s.heap.size ≤ x) s.heap H locs → W p l e room_1 s m #[Value.ref bb] below meth c H locs 32 64181 (lw_Z below #[Value.ref bb] s) (F0 m 140 ls []) := by
  obtain ⟨hx, hb, hr, hml, hown, hts, hX, hbl, hlocks, hgv⟩ := id C0
  have hown : s.vm.findClass RL = some m.cls := hown
  have hbA : ¬ (fun x : Nat => s.heap.size ≤ x) bb := Nat.not_le.mpr hbl
  have e1 : nI i + 1 = nI (i + 1) := nI_add i 1
  have e2 : nI i + 2 = nI (i + 2) := nI_add i 2
  have e3 : nI i + 3 = nI (i + 3) := nI_add i 3
  have g1 : vp_in (nI i + 1) L := by rw [e1]; exact vp_in_nI (by omega) (by omega)
  have g2 : vp_in (nI i + 2) L := by rw [e2]; exact vp_in_nI (by omega) (by omega)
  have g3 : vp_in (nI i + 3) L := by rw [e3]; exact vp_in_nI (by omega) (by omega)
  intro I J a b I2 J2 a2 b2 hRel H locs hP hP2 hS
  obtain ⟨x, y, hx1, hy1, he, hRel2⟩ := h_name I J a b I2 J2 a2 b2 hRel
  refine lv_aload_n hx hb dL_law_140 rfl (lv_at hl 1 rfl) ?_
  refine va_calli (va_runV (As := []) (rest := []) ⟨hx, hb, hml, hown, hts⟩ (c_X6_name l D cI cJ q hq F I J a b x hx1) (cwV 0 hts gT_law_X6_name rfl rfl rfl (by decide +kernel) ⟨Nat.le_of_ble_eq_true rfl, Nat.le_of_ble_eq_true rfl⟩) ⟨CUPc_blind, va_recv hK hP (ci := 6) (q0 := 0) rfl rfl, fun U hU hW => ⟨rfl, by rw [hU]; exact hP, va_K.moved hW.alike hK, va_Nw.warmM hW hN⟩⟩ rfl rfl hl.1 rfl (lv_room (Nat.le_of_ble_eq_true rfl)) dL_law_141 ⟨Nat.le_of_ble_eq_true rfl, Nat.le_of_ble_eq_true rfl⟩) hS (fun x _ h => hqA x h) hqA (fun r9 u t H1 locs ht hvm hw hB hz1 hk1 hS => ?_)
  obtain ⟨rfl, rfl⟩ := hw
  rw [ht] at hB
  have hP : va_P D vwCl (CUW cI cJ q (fu (fu (fu (fu (fu I 4 x.2.1) 6 x.2.2.1) 11 x.2.2.2.1) 17 x.2.2.2.2.1) 18 x.2.2.2.2.2.1) (fu J 2 x.2.2.2.2.2.2) a b) H1 := hB
  have hP2 := hP2.kept (fun k z hz => hk1 z.1 (hP2 k z hz).lt (fun h => hdis _ h (by obtain ⟨a1, a2⟩ := MUW_at k z hz; exact ⟨k, a1, a2⟩)))
  clear hB hz1 hk1 ht hvm
  generalize H1 = H at hP hP2 hS ⊢
  refine lv_aload_n hx hb dL_law_144 rfl (lv_at hl 2 rfl) ?_
  refine va_calli (va_runV (As := []) (rest := [.int x.1]) ⟨hx, hb, hml, hown, hts⟩ (c_X7_name l D dI dJ dZ r hr0 F I2 J2 a2 b2 y hy1) (cwV 0 hts gT_law_X7_name rfl rfl rfl (by decide +kernel) ⟨Nat.le_of_ble_eq_true rfl, Nat.le_of_ble_eq_true rfl⟩) ⟨MUPc_blind, va_recv hK2 hP2 (ci := 7) (q0 := 0) rfl rfl, fun U hU hW => ⟨rfl, by rw [hU]; exact hP2, va_K.moved hW.alike hK2, trivial⟩⟩ rfl rfl hl.1 rfl (lv_room (Nat.le_of_ble_eq_true rfl)) dL_law_145 ⟨Nat.le_of_ble_eq_true rfl, Nat.le_of_ble_eq_true rfl⟩) hS (fun x _ h => hrA x h) hrA (fun r9 u t H1 locs ht hvm hw hB hz1 hk1 hS => ?_)
  obtain ⟨rfl, rfl⟩ := hw
  rw [ht] at hB
  have hP2 : va_P D vwCl (MUW dI dJ dZ r (fu (fu (fu (fu I2 0 y.2.1) 7 y.2.2.1) 8 y.2.2.2.1) 9 y.2.2.2.2.1) J2 (fu (fu a2 5 y.2.2.2.2.2.1) 6 y.2.2.2.2.2.2) b2) H1 := hB
  have hP := hP.kept (fun k z hz => hk1 z.1 (hP k z hz).lt (fun h => hdis z.1 (by obtain ⟨a1, a2⟩ := CUW_at k z hz; exact ⟨k, a1, a2⟩) h))
  clear hB hz1 hk1 ht hvm
  generalize H1 = H at hP hP2 hS ⊢
  refine lv_icmp_eq (tgt := 609) hx hb dL_law_148 (by decide) (fun ce => ?_) (fun ce => ?_)
  · exact NEXT (fu (fu (fu (fu (fu I 4 x.2.1) 6 x.2.2.1) 11 x.2.2.2.1) 17 x.2.2.2.2.1) 18 x.2.2.2.2.2.1) (fu J 2 x.2.2.2.2.2.2) a b (fu (fu (fu (fu I2 0 y.2.1) 7 y.2.2.1) 8 y.2.2.2.1) 9 y.2.2.2.2.1) J2 (fu (fu a2 5 y.2.2.2.2.2.1) 6 y.2.2.2.2.2.2) b2 hRel2 _ _ hP hP2 hS
  · exact absurd he ce
set_option maxHeartbeats 4000000 in
set_option maxRecDepth 100000 in
theorem law_c_literal {p : Program} {l : Launch} {e : Env} {s : State} {m : MethodId} {below : List Frame} {meth : Method} {c : Code} {D : va_G} {cI cJ dI dJ dZ : ClassId} {q r : Nat → Nat} {bb L : Nat} {xs : Nat → Int32} (hL : L ≤ 2048) (C0 : lw_At p s m meth c bb L xs)
    (hq : CUQ q) (hr0 : MUQ r) (hqA : ∀ x, CUA q x → s.heap.size ≤ x) (hrA : ∀ x, MUA r x → s.heap.size ≤ x) (hdis : ∀ x, CUA q x → ¬ MUA r x)
    (hK : va_K D vwCl [(cI, .int), (cJ, .long)] s) (hK2 : va_K D vwCl [(dI, .int), (dJ, .long), (dZ, .boolean)] s) (hN : va_Nw (.methodLinkNest RX0 90 yX6_literalsIn "LearnedReasons") s)
    (F : Nat) (Rel : RelT) (h_literal : op_literal F Rel) {i : Nat} (hin : i + 4 ≤ L) {ls : Array Slot} (hl : lv_has ls 4 [(0, .ref bb), (1, .ref (q 0)), (2, .ref (r 0)), (3, .int (nI i))]) (NEXT : ∀ (I : Nat → Int32) (J : Nat → Int64) (a : Nat → Nat → Int32) (b : Nat → Nat → Int64) (I2 : Nat → Int32) (J2 : Nat → Int64) (a2 : Nat → Nat → Int32) (b2 : Nat → Nat → Int64), Rel I J a b I2 J2 a2 b2 → ∀ (H : Heap) (locs : List Loc), va_P D vwCl (CUW cI cJ q I J a b) H → va_P D vwCl (MUW dI dJ dZ r I2 J2 a2 b2) H → va_S (fun x : Nat => s.heap.size ≤ x) s.heap H locs → W p l e room_1 s m #[Value.ref bb] below meth c H locs 32 64181 (lw_Z below #[Value.ref bb] s) (F0 m 609 ls [])) : ∀ (I : Nat → Int32) (J : Nat → Int64) (a : Nat → Nat → Int32) (b : Nat → Nat → Int64) (I2 : Nat → Int32) (J2 : Nat → Int64) (a2 : Nat → Nat → Int32) (b2 : Nat → Nat → Int64), Rel I J a b I2 J2 a2 b2 → ∀ (H : Heap) (locs : List Loc), va_P D vwCl (CUW cI cJ q I J a b) H → va_P D vwCl (MUW dI dJ dZ r I2 J2 a2 b2) H → va_S (fun x : Nat => s.heap.size ≤ x) s.heap H locs → W p l e room_1 s m #[Value.ref bb] below meth c H locs 32 64181 (lw_Z below #[Value.ref bb] s) (F0 m 153 ls []) := by
  obtain ⟨hx, hb, hr, hml, hown, hts, hX, hbl, hlocks, hgv⟩ := id C0
  have hown : s.vm.findClass RL = some m.cls := hown
  have hbA : ¬ (fun x : Nat => s.heap.size ≤ x) bb := Nat.not_le.mpr hbl
  have e1 : nI i + 1 = nI (i + 1) := nI_add i 1
  have e2 : nI i + 2 = nI (i + 2) := nI_add i 2
  have e3 : nI i + 3 = nI (i + 3) := nI_add i 3
  have g1 : vp_in (nI i + 1) L := by rw [e1]; exact vp_in_nI (by omega) (by omega)
  have g2 : vp_in (nI i + 2) L := by rw [e2]; exact vp_in_nI (by omega) (by omega)
  have g3 : vp_in (nI i + 3) L := by rw [e3]; exact vp_in_nI (by omega) (by omega)
  intro I J a b I2 J2 a2 b2 hRel H locs hP hP2 hS
  obtain ⟨x, y, hx1, hy1, he, hRel2⟩ := h_literal I J a b I2 J2 a2 b2 (xs (nI i + 1).toNatClampNeg) hRel
  refine lv_aload_n hx hb dL_law_153 rfl (lv_at hl 1 rfl) ?_
  refine lv_aload_n hx hb dL_law_154 rfl (lv_at hl 0 rfl) ?_
  refine lv_iload_n hx hb dL_law_155 rfl (lv_at hl 3 rfl) ?_
  refine lv_iconst (v := 1) hx hb dL_law_156 (by decide) ?_
  refine lv_iadd hx hb dL_law_157 ?_
  refine va_sld hx hb hX hbl hbA hS g1 dL_law_158 ?_
  refine va_calli (va_runV (As := [.int (xs (nI i + 1).toNatClampNeg)]) (rest := []) ⟨hx, hb, hml, hown, hts⟩ (c_X6_literal l D cI cJ q hq F I J a b (xs (nI i + 1).toNatClampNeg) x hx1) (cwV 1 hts gT_law_X6_literal rfl rfl rfl (by decide +kernel) ⟨Nat.le_of_ble_eq_true rfl, Nat.le_of_ble_eq_true rfl⟩) ⟨CUPc_blind, va_recv hK hP (ci := 6) (q0 := 0) rfl rfl, fun U hU hW => ⟨rfl, by rw [hU]; exact hP, va_K.moved hW.alike hK, va_Nw.warmM hW hN⟩⟩ rfl rfl hl.1 rfl (lv_room (Nat.le_of_ble_eq_true rfl)) dL_law_159 ⟨Nat.le_of_ble_eq_true rfl, Nat.le_of_ble_eq_true rfl⟩) hS (fun x _ h => hqA x h) hqA (fun r9 u t H1 locs ht hvm hw hB hz1 hk1 hS => ?_)
  obtain ⟨rfl, rfl⟩ := hw
  rw [ht] at hB
  have hP : va_P D vwCl (CUW cI cJ q (fu (fu I 0 x.2.1) 1 x.2.2) J a b) H1 := hB
  have hP2 := hP2.kept (fun k z hz => hk1 z.1 (hP2 k z hz).lt (fun h => hdis _ h (by obtain ⟨a1, a2⟩ := MUW_at k z hz; exact ⟨k, a1, a2⟩)))
  clear hB hz1 hk1 ht hvm
  generalize H1 = H at hP hP2 hS ⊢
  refine lv_aload_n hx hb dL_law_162 rfl (lv_at hl 2 rfl) ?_
  refine lv_aload_n hx hb dL_law_163 rfl (lv_at hl 0 rfl) ?_
  refine lv_iload_n hx hb dL_law_164 rfl (lv_at hl 3 rfl) ?_
  refine lv_iconst (v := 1) hx hb dL_law_165 (by decide) ?_
  refine lv_iadd hx hb dL_law_166 ?_
  refine va_sld hx hb hX hbl hbA hS g1 dL_law_167 ?_
  refine va_calli (va_runV (As := [.int (xs (nI i + 1).toNatClampNeg)]) (rest := [.int x.1]) ⟨hx, hb, hml, hown, hts⟩ (c_X7_literal l D dI dJ dZ r hr0 F I2 J2 a2 b2 (xs (nI i + 1).toNatClampNeg) y hy1) (cwV 1 hts gT_law_X7_literal rfl rfl rfl (by decide +kernel) ⟨Nat.le_of_ble_eq_true rfl, Nat.le_of_ble_eq_true rfl⟩) ⟨MUPc_blind, va_recv hK2 hP2 (ci := 7) (q0 := 0) rfl rfl, fun U hU hW => ⟨rfl, by rw [hU]; exact hP2, va_K.moved hW.alike hK2, trivial⟩⟩ rfl rfl hl.1 rfl (lv_room (Nat.le_of_ble_eq_true rfl)) dL_law_168 ⟨Nat.le_of_ble_eq_true rfl, Nat.le_of_ble_eq_true rfl⟩) hS (fun x _ h => hrA x h) hrA (fun r9 u t H1 locs ht hvm hw hB hz1 hk1 hS => ?_)
  obtain ⟨rfl, rfl⟩ := hw
  rw [ht] at hB
  have hP2 : va_P D vwCl (MUW dI dJ dZ r (fu (fu (fu I2 2 y.2.1) 3 y.2.2.1) 4 y.2.2.2) J2 a2 b2) H1 := hB
  have hP := hP.kept (fun k z hz => hk1 z.1 (hP k z hz).lt (fun h => hdis z.1 (by obtain ⟨a1, a2⟩ := CUW_at k z hz; exact ⟨k, a1, a2⟩) h))
  clear hB hz1 hk1 ht hvm
  generalize H1 = H at hP hP2 hS ⊢
  refine lv_icmp_eq (tgt := 609) hx hb dL_law_171 (by decide) (fun ce => ?_) (fun ce => ?_)
  · exact NEXT (fu (fu I 0 x.2.1) 1 x.2.2) J a b (fu (fu (fu I2 2 y.2.1) 3 y.2.2.1) 4 y.2.2.2) J2 a2 b2 hRel2 _ _ hP hP2 hS
  · exact absurd he ce
set_option maxHeartbeats 4000000 in
set_option maxRecDepth 100000 in
theorem law_c_clause {p : Program} {l : Launch} {e : Env} {s : State} {m : MethodId} {below : List Frame} {meth : Method} {c : Code} {D : va_G} {cI cJ dI dJ dZ : ClassId} {q r : Nat → Nat} {bb L : Nat} {xs : Nat → Int32} (hL : L ≤ 2048) (C0 : lw_At p s m meth c bb L xs)
    (hq : CUQ q) (hr0 : MUQ r) (hqA : ∀ x, CUA q x → s.heap.size ≤ x) (hrA : ∀ x, MUA r x → s.heap.size ≤ x) (hdis : ∀ x, CUA q x → ¬ MUA r x)
    (hK : va_K D vwCl [(cI, .int), (cJ, .long)] s) (hK2 : va_K D vwCl [(dI, .int), (dJ, .long), (dZ, .boolean)] s) (hN : va_Nw (.methodLinkNest RX0 90 yX6_literalsIn "LearnedReasons") s)
    (F : Nat) (Rel : RelT) (h_clause : op_clause F Rel) {i : Nat} (hin : i + 4 ≤ L) {ls : Array Slot} (hl : lv_has ls 4 [(0, .ref bb), (1, .ref (q 0)), (2, .ref (r 0)), (3, .int (nI i))]) (NEXT : ∀ (I : Nat → Int32) (J : Nat → Int64) (a : Nat → Nat → Int32) (b : Nat → Nat → Int64) (I2 : Nat → Int32) (J2 : Nat → Int64) (a2 : Nat → Nat → Int32) (b2 : Nat → Nat → Int64), Rel I J a b I2 J2 a2 b2 → ∀ (H : Heap) (locs : List Loc), va_P D vwCl (CUW cI cJ q I J a b) H → va_P D vwCl (MUW dI dJ dZ r I2 J2 a2 b2) H → va_S (fun x : Nat => s.heap.size ≤ x) s.heap H locs → W p l e room_1 s m #[Value.ref bb] below meth c H locs 32 64181 (lw_Z below #[Value.ref bb] s) (F0 m 609 ls [])) : ∀ (I : Nat → Int32) (J : Nat → Int64) (a : Nat → Nat → Int32) (b : Nat → Nat → Int64) (I2 : Nat → Int32) (J2 : Nat → Int64) (a2 : Nat → Nat → Int32) (b2 : Nat → Nat → Int64), Rel I J a b I2 J2 a2 b2 → ∀ (H : Heap) (locs : List Loc), va_P D vwCl (CUW cI cJ q I J a b) H → va_P D vwCl (MUW dI dJ dZ r I2 J2 a2 b2) H → va_S (fun x : Nat => s.heap.size ≤ x) s.heap H locs → W p l e room_1 s m #[Value.ref bb] below meth c H locs 32 64181 (lw_Z below #[Value.ref bb] s) (F0 m 176 ls []) := by
  obtain ⟨hx, hb, hr, hml, hown, hts, hX, hbl, hlocks, hgv⟩ := id C0
  have hown : s.vm.findClass RL = some m.cls := hown
  have hbA : ¬ (fun x : Nat => s.heap.size ≤ x) bb := Nat.not_le.mpr hbl
  have e1 : nI i + 1 = nI (i + 1) := nI_add i 1
  have e2 : nI i + 2 = nI (i + 2) := nI_add i 2
  have e3 : nI i + 3 = nI (i + 3) := nI_add i 3
  have g1 : vp_in (nI i + 1) L := by rw [e1]; exact vp_in_nI (by omega) (by omega)
  have g2 : vp_in (nI i + 2) L := by rw [e2]; exact vp_in_nI (by omega) (by omega)
  have g3 : vp_in (nI i + 3) L := by rw [e3]; exact vp_in_nI (by omega) (by omega)
  intro I J a b I2 J2 a2 b2 hRel H locs hP hP2 hS
  obtain ⟨x, y, hx1, hy1, he, hRel2⟩ := h_clause I J a b I2 J2 a2 b2 hRel
  refine lv_aload_n hx hb dL_law_176 rfl (lv_at hl 1 rfl) ?_
  refine va_calli (va_runV (As := []) (rest := []) ⟨hx, hb, hml, hown, hts⟩ (c_X6_clause l D cI cJ q hq F I J a b x hx1) (cwV 0 hts gT_law_X6_clause rfl rfl rfl (by decide +kernel) ⟨Nat.le_of_ble_eq_true rfl, Nat.le_of_ble_eq_true rfl⟩) ⟨CUPc_blind, va_recv hK hP (ci := 6) (q0 := 0) rfl rfl, fun U hU hW => ⟨rfl, by rw [hU]; exact hP, va_K.moved hW.alike hK, va_Nw.warmM hW hN⟩⟩ rfl rfl hl.1 rfl (lv_room (Nat.le_of_ble_eq_true rfl)) dL_law_177 ⟨Nat.le_of_ble_eq_true rfl, Nat.le_of_ble_eq_true rfl⟩) hS (fun x _ h => hqA x h) hqA (fun r9 u t H1 locs ht hvm hw hB hz1 hk1 hS => ?_)
  obtain ⟨rfl, rfl⟩ := hw
  rw [ht] at hB
  have hP : va_P D vwCl (CUW cI cJ q (fu (fu (fu (fu (fu (fu (fu I 0 x.2.1) 1 x.2.2.1) 5 x.2.2.2.1) 6 x.2.2.2.2.1) 11 x.2.2.2.2.2.1) 17 x.2.2.2.2.2.2.1) 18 x.2.2.2.2.2.2.2.1) (fu (fu J 0 x.2.2.2.2.2.2.2.2.1) 2 x.2.2.2.2.2.2.2.2.2.1) (fu (fu a 0 x.2.2.2.2.2.2.2.2.2.2.1) 1 x.2.2.2.2.2.2.2.2.2.2.2) b) H1 := hB
  have hP2 := hP2.kept (fun k z hz => hk1 z.1 (hP2 k z hz).lt (fun h => hdis _ h (by obtain ⟨a1, a2⟩ := MUW_at k z hz; exact ⟨k, a1, a2⟩)))
  clear hB hz1 hk1 ht hvm
  generalize H1 = H at hP hP2 hS ⊢
  refine lv_aload_n hx hb dL_law_180 rfl (lv_at hl 2 rfl) ?_
  refine va_calli (va_runV (As := []) (rest := [.int x.1]) ⟨hx, hb, hml, hown, hts⟩ (c_X7_clause l D dI dJ dZ r hr0 F I2 J2 a2 b2 y hy1) (cwV 0 hts gT_law_X7_clause rfl rfl rfl (by decide +kernel) ⟨Nat.le_of_ble_eq_true rfl, Nat.le_of_ble_eq_true rfl⟩) ⟨MUPc_blind, va_recv hK2 hP2 (ci := 7) (q0 := 0) rfl rfl, fun U hU hW => ⟨rfl, by rw [hU]; exact hP2, va_K.moved hW.alike hK2, trivial⟩⟩ rfl rfl hl.1 rfl (lv_room (Nat.le_of_ble_eq_true rfl)) dL_law_181 ⟨Nat.le_of_ble_eq_true rfl, Nat.le_of_ble_eq_true rfl⟩) hS (fun x _ h => hrA x h) hrA (fun r9 u t H1 locs ht hvm hw hB hz1 hk1 hS => ?_)
  obtain ⟨rfl, rfl⟩ := hw
  rw [ht] at hB
  have hP2 : va_P D vwCl (MUW dI dJ dZ r (fu (fu (fu (fu (fu (fu (fu I2 1 y.2.1) 2 y.2.2.1) 3 y.2.2.2.1) 4 y.2.2.2.2.1) 7 y.2.2.2.2.2.1) 8 y.2.2.2.2.2.2.1) 9 y.2.2.2.2.2.2.2.1) J2 (fu (fu (fu (fu a2 0 y.2.2.2.2.2.2.2.2.1) 1 y.2.2.2.2.2.2.2.2.2.1) 2 y.2.2.2.2.2.2.2.2.2.2.1) 3 y.2.2.2.2.2.2.2.2.2.2.2) b2) H1 := hB
  have hP := hP.kept (fun k z hz => hk1 z.1 (hP k z hz).lt (fun h => hdis z.1 (by obtain ⟨a1, a2⟩ := CUW_at k z hz; exact ⟨k, a1, a2⟩) h))
  clear hB hz1 hk1 ht hvm
  generalize H1 = H at hP hP2 hS ⊢
  refine lv_icmp_eq (tgt := 609) hx hb dL_law_184 (by decide) (fun ce => ?_) (fun ce => ?_)
  · exact NEXT (fu (fu (fu (fu (fu (fu (fu I 0 x.2.1) 1 x.2.2.1) 5 x.2.2.2.1) 6 x.2.2.2.2.1) 11 x.2.2.2.2.2.1) 17 x.2.2.2.2.2.2.1) 18 x.2.2.2.2.2.2.2.1) (fu (fu J 0 x.2.2.2.2.2.2.2.2.1) 2 x.2.2.2.2.2.2.2.2.2.1) (fu (fu a 0 x.2.2.2.2.2.2.2.2.2.2.1) 1 x.2.2.2.2.2.2.2.2.2.2.2) b (fu (fu (fu (fu (fu (fu (fu I2 1 y.2.1) 2 y.2.2.1) 3 y.2.2.2.1) 4 y.2.2.2.2.1) 7 y.2.2.2.2.2.1) 8 y.2.2.2.2.2.2.1) 9 y.2.2.2.2.2.2.2.1) J2 (fu (fu (fu (fu a2 0 y.2.2.2.2.2.2.2.2.1) 1 y.2.2.2.2.2.2.2.2.2.1) 2 y.2.2.2.2.2.2.2.2.2.2.1) 3 y.2.2.2.2.2.2.2.2.2.2.2) b2 hRel2 _ _ hP hP2 hS
  · exact absurd he ce
set_option maxHeartbeats 4000000 in
set_option maxRecDepth 100000 in
theorem law_c_row {p : Program} {l : Launch} {e : Env} {s : State} {m : MethodId} {below : List Frame} {meth : Method} {c : Code} {D : va_G} {cI cJ dI dJ dZ : ClassId} {q r : Nat → Nat} {bb L : Nat} {xs : Nat → Int32} (hL : L ≤ 2048) (C0 : lw_At p s m meth c bb L xs)
    (hq : CUQ q) (hr0 : MUQ r) (hqA : ∀ x, CUA q x → s.heap.size ≤ x) (hrA : ∀ x, MUA r x → s.heap.size ≤ x) (hdis : ∀ x, CUA q x → ¬ MUA r x)
    (hK : va_K D vwCl [(cI, .int), (cJ, .long)] s) (hK2 : va_K D vwCl [(dI, .int), (dJ, .long), (dZ, .boolean)] s) (hN : va_Nw (.methodLinkNest RX0 90 yX6_literalsIn "LearnedReasons") s)
    (F : Nat) (Rel : RelT) (h_row : op_row F Rel) {i : Nat} (hin : i + 4 ≤ L) {ls : Array Slot} (hl : lv_has ls 4 [(0, .ref bb), (1, .ref (q 0)), (2, .ref (r 0)), (3, .int (nI i))]) (NEXT : ∀ (I : Nat → Int32) (J : Nat → Int64) (a : Nat → Nat → Int32) (b : Nat → Nat → Int64) (I2 : Nat → Int32) (J2 : Nat → Int64) (a2 : Nat → Nat → Int32) (b2 : Nat → Nat → Int64), Rel I J a b I2 J2 a2 b2 → ∀ (H : Heap) (locs : List Loc), va_P D vwCl (CUW cI cJ q I J a b) H → va_P D vwCl (MUW dI dJ dZ r I2 J2 a2 b2) H → va_S (fun x : Nat => s.heap.size ≤ x) s.heap H locs → W p l e room_1 s m #[Value.ref bb] below meth c H locs 32 64181 (lw_Z below #[Value.ref bb] s) (F0 m 609 ls [])) : ∀ (I : Nat → Int32) (J : Nat → Int64) (a : Nat → Nat → Int32) (b : Nat → Nat → Int64) (I2 : Nat → Int32) (J2 : Nat → Int64) (a2 : Nat → Nat → Int32) (b2 : Nat → Nat → Int64), Rel I J a b I2 J2 a2 b2 → ∀ (H : Heap) (locs : List Loc), va_P D vwCl (CUW cI cJ q I J a b) H → va_P D vwCl (MUW dI dJ dZ r I2 J2 a2 b2) H → va_S (fun x : Nat => s.heap.size ≤ x) s.heap H locs → W p l e room_1 s m #[Value.ref bb] below meth c H locs 32 64181 (lw_Z below #[Value.ref bb] s) (F0 m 189 ls []) := by
  obtain ⟨hx, hb, hr, hml, hown, hts, hX, hbl, hlocks, hgv⟩ := id C0
  have hown : s.vm.findClass RL = some m.cls := hown
  have hbA : ¬ (fun x : Nat => s.heap.size ≤ x) bb := Nat.not_le.mpr hbl
  have e1 : nI i + 1 = nI (i + 1) := nI_add i 1
  have e2 : nI i + 2 = nI (i + 2) := nI_add i 2
  have e3 : nI i + 3 = nI (i + 3) := nI_add i 3
  have g1 : vp_in (nI i + 1) L := by rw [e1]; exact vp_in_nI (by omega) (by omega)
  have g2 : vp_in (nI i + 2) L := by rw [e2]; exact vp_in_nI (by omega) (by omega)
  have g3 : vp_in (nI i + 3) L := by rw [e3]; exact vp_in_nI (by omega) (by omega)
  intro I J a b I2 J2 a2 b2 hRel H locs hP hP2 hS
  obtain ⟨x, y, hx1, hy1, he, hRel2⟩ := h_row I J a b I2 J2 a2 b2 (xs (nI i + 1).toNatClampNeg) hRel
  refine lv_aload_n hx hb dL_law_189 rfl (lv_at hl 1 rfl) ?_
  refine lv_aload_n hx hb dL_law_190 rfl (lv_at hl 0 rfl) ?_
  refine lv_iload_n hx hb dL_law_191 rfl (lv_at hl 3 rfl) ?_
  refine lv_iconst (v := 1) hx hb dL_law_192 (by decide) ?_
  refine lv_iadd hx hb dL_law_193 ?_
  refine va_sld hx hb hX hbl hbA hS g1 dL_law_194 ?_
  refine va_calli (va_runV (As := [.int (xs (nI i + 1).toNatClampNeg)]) (rest := []) ⟨hx, hb, hml, hown, hts⟩ (c_X6_row l D cI cJ q hq F I J a b (xs (nI i + 1).toNatClampNeg) x hx1) (cwV 1 hts gT_law_X6_row rfl rfl rfl (by decide +kernel) ⟨Nat.le_of_ble_eq_true rfl, Nat.le_of_ble_eq_true rfl⟩) ⟨CUPc_blind, va_recv hK hP (ci := 6) (q0 := 0) rfl rfl, fun U hU hW => ⟨rfl, by rw [hU]; exact hP, va_K.moved hW.alike hK, va_Nw.warmM hW hN⟩⟩ rfl rfl hl.1 rfl (lv_room (Nat.le_of_ble_eq_true rfl)) dL_law_195 ⟨Nat.le_of_ble_eq_true rfl, Nat.le_of_ble_eq_true rfl⟩) hS (fun x _ h => hqA x h) hqA (fun r9 u t H1 locs ht hvm hw hB hz1 hk1 hS => ?_)
  obtain ⟨rfl, rfl⟩ := hw
  rw [ht] at hB
  have hP : va_P D vwCl (CUW cI cJ q (fu (fu (fu (fu (fu I 5 x.2.1) 6 x.2.2.1) 11 x.2.2.2.1) 17 x.2.2.2.2.1) 18 x.2.2.2.2.2.1) (fu (fu (fu J 0 x.2.2.2.2.2.2.1) 1 x.2.2.2.2.2.2.2.1) 2 x.2.2.2.2.2.2.2.2.1) (fu (fu a 2 x.2.2.2.2.2.2.2.2.2.1) 3 x.2.2.2.2.2.2.2.2.2.2) b) H1 := hB
  have hP2 := hP2.kept (fun k z hz => hk1 z.1 (hP2 k z hz).lt (fun h => hdis _ h (by obtain ⟨a1, a2⟩ := MUW_at k z hz; exact ⟨k, a1, a2⟩)))
  clear hB hz1 hk1 ht hvm
  generalize H1 = H at hP hP2 hS ⊢
  refine lv_aload_n hx hb dL_law_198 rfl (lv_at hl 2 rfl) ?_
  refine lv_aload_n hx hb dL_law_199 rfl (lv_at hl 0 rfl) ?_
  refine lv_iload_n hx hb dL_law_200 rfl (lv_at hl 3 rfl) ?_
  refine lv_iconst (v := 1) hx hb dL_law_201 (by decide) ?_
  refine lv_iadd hx hb dL_law_202 ?_
  refine va_sld hx hb hX hbl hbA hS g1 dL_law_203 ?_
  refine va_calli (va_runV (As := [.int (xs (nI i + 1).toNatClampNeg)]) (rest := [.int x.1]) ⟨hx, hb, hml, hown, hts⟩ (c_X7_row l D dI dJ dZ r hr0 F I2 J2 a2 b2 (xs (nI i + 1).toNatClampNeg) y hy1) (cwV 1 hts gT_law_X7_row rfl rfl rfl (by decide +kernel) ⟨Nat.le_of_ble_eq_true rfl, Nat.le_of_ble_eq_true rfl⟩) ⟨MUPc_blind, va_recv hK2 hP2 (ci := 7) (q0 := 0) rfl rfl, fun U hU hW => ⟨rfl, by rw [hU]; exact hP2, va_K.moved hW.alike hK2, trivial⟩⟩ rfl rfl hl.1 rfl (lv_room (Nat.le_of_ble_eq_true rfl)) dL_law_204 ⟨Nat.le_of_ble_eq_true rfl, Nat.le_of_ble_eq_true rfl⟩) hS (fun x _ h => hrA x h) hrA (fun r9 u t H1 locs ht hvm hw hB hz1 hk1 hS => ?_)
  obtain ⟨rfl, rfl⟩ := hw
  rw [ht] at hB
  have hP2 : va_P D vwCl (MUW dI dJ dZ r (fu (fu (fu (fu I2 1 y.2.1) 7 y.2.2.1) 8 y.2.2.2.1) 9 y.2.2.2.2.1) J2 (fu (fu (fu (fu a2 0 y.2.2.2.2.2.1) 1 y.2.2.2.2.2.2.1) 4 y.2.2.2.2.2.2.2.1) 5 y.2.2.2.2.2.2.2.2) b2) H1 := hB
  have hP := hP.kept (fun k z hz => hk1 z.1 (hP k z hz).lt (fun h => hdis z.1 (by obtain ⟨a1, a2⟩ := CUW_at k z hz; exact ⟨k, a1, a2⟩) h))
  clear hB hz1 hk1 ht hvm
  generalize H1 = H at hP hP2 hS ⊢
  refine lv_icmp_eq (tgt := 609) hx hb dL_law_207 (by decide) (fun ce => ?_) (fun ce => ?_)
  · exact NEXT (fu (fu (fu (fu (fu I 5 x.2.1) 6 x.2.2.1) 11 x.2.2.2.1) 17 x.2.2.2.2.1) 18 x.2.2.2.2.2.1) (fu (fu (fu J 0 x.2.2.2.2.2.2.1) 1 x.2.2.2.2.2.2.2.1) 2 x.2.2.2.2.2.2.2.2.1) (fu (fu a 2 x.2.2.2.2.2.2.2.2.2.1) 3 x.2.2.2.2.2.2.2.2.2.2) b (fu (fu (fu (fu I2 1 y.2.1) 7 y.2.2.1) 8 y.2.2.2.1) 9 y.2.2.2.2.1) J2 (fu (fu (fu (fu a2 0 y.2.2.2.2.2.1) 1 y.2.2.2.2.2.2.1) 4 y.2.2.2.2.2.2.2.1) 5 y.2.2.2.2.2.2.2.2) b2 hRel2 _ _ hP hP2 hS
  · exact absurd he ce
set_option maxHeartbeats 4000000 in
set_option maxRecDepth 100000 in
theorem law_c_weight {p : Program} {l : Launch} {e : Env} {s : State} {m : MethodId} {below : List Frame} {meth : Method} {c : Code} {D : va_G} {cI cJ dI dJ dZ : ClassId} {q r : Nat → Nat} {bb L : Nat} {xs : Nat → Int32} (hL : L ≤ 2048) (C0 : lw_At p s m meth c bb L xs)
    (hq : CUQ q) (hr0 : MUQ r) (hqA : ∀ x, CUA q x → s.heap.size ≤ x) (hrA : ∀ x, MUA r x → s.heap.size ≤ x) (hdis : ∀ x, CUA q x → ¬ MUA r x)
    (hK : va_K D vwCl [(cI, .int), (cJ, .long)] s) (hK2 : va_K D vwCl [(dI, .int), (dJ, .long), (dZ, .boolean)] s) (hN : va_Nw (.methodLinkNest RX0 90 yX6_literalsIn "LearnedReasons") s)
    (F : Nat) (Rel : RelT) (h_weight : op_weight F Rel) {i : Nat} (hin : i + 4 ≤ L) {ls : Array Slot} (hl : lv_has ls 4 [(0, .ref bb), (1, .ref (q 0)), (2, .ref (r 0)), (3, .int (nI i))]) (NEXT : ∀ (I : Nat → Int32) (J : Nat → Int64) (a : Nat → Nat → Int32) (b : Nat → Nat → Int64) (I2 : Nat → Int32) (J2 : Nat → Int64) (a2 : Nat → Nat → Int32) (b2 : Nat → Nat → Int64), Rel I J a b I2 J2 a2 b2 → ∀ (H : Heap) (locs : List Loc), va_P D vwCl (CUW cI cJ q I J a b) H → va_P D vwCl (MUW dI dJ dZ r I2 J2 a2 b2) H → va_S (fun x : Nat => s.heap.size ≤ x) s.heap H locs → W p l e room_1 s m #[Value.ref bb] below meth c H locs 32 64181 (lw_Z below #[Value.ref bb] s) (F0 m 609 ls [])) : ∀ (I : Nat → Int32) (J : Nat → Int64) (a : Nat → Nat → Int32) (b : Nat → Nat → Int64) (I2 : Nat → Int32) (J2 : Nat → Int64) (a2 : Nat → Nat → Int32) (b2 : Nat → Nat → Int64), Rel I J a b I2 J2 a2 b2 → ∀ (H : Heap) (locs : List Loc), va_P D vwCl (CUW cI cJ q I J a b) H → va_P D vwCl (MUW dI dJ dZ r I2 J2 a2 b2) H → va_S (fun x : Nat => s.heap.size ≤ x) s.heap H locs → W p l e room_1 s m #[Value.ref bb] below meth c H locs 32 64181 (lw_Z below #[Value.ref bb] s) (F0 m 212 ls []) := by
  obtain ⟨hx, hb, hr, hml, hown, hts, hX, hbl, hlocks, hgv⟩ := id C0
  have hown : s.vm.findClass RL = some m.cls := hown
  have hbA : ¬ (fun x : Nat => s.heap.size ≤ x) bb := Nat.not_le.mpr hbl
  have e1 : nI i + 1 = nI (i + 1) := nI_add i 1
  have e2 : nI i + 2 = nI (i + 2) := nI_add i 2
  have e3 : nI i + 3 = nI (i + 3) := nI_add i 3
  have g1 : vp_in (nI i + 1) L := by rw [e1]; exact vp_in_nI (by omega) (by omega)
  have g2 : vp_in (nI i + 2) L := by rw [e2]; exact vp_in_nI (by omega) (by omega)
  have g3 : vp_in (nI i + 3) L := by rw [e3]; exact vp_in_nI (by omega) (by omega)
  intro I J a b I2 J2 a2 b2 hRel H locs hP hP2 hS
  obtain ⟨x, y, hx1, hy1, he, hRel2⟩ := h_weight I J a b I2 J2 a2 b2 (xs (nI i + 1).toNatClampNeg) (xs (nI i + 2).toNatClampNeg) (xs (nI i + 3).toNatClampNeg) hRel
  refine lv_aload_n hx hb dL_law_212 rfl (lv_at hl 1 rfl) ?_
  refine lv_aload_n hx hb dL_law_213 rfl (lv_at hl 0 rfl) ?_
  refine lv_iload_n hx hb dL_law_214 rfl (lv_at hl 3 rfl) ?_
  refine lv_iconst (v := 1) hx hb dL_law_215 (by decide) ?_
  refine lv_iadd hx hb dL_law_216 ?_
  refine va_sld hx hb hX hbl hbA hS g1 dL_law_217 ?_
  refine lv_aload_n hx hb dL_law_218 rfl (lv_at hl 0 rfl) ?_
  refine lv_iload_n hx hb dL_law_219 rfl (lv_at hl 3 rfl) ?_
  refine lv_iconst (v := 2) hx hb dL_law_220 (by decide) ?_
  refine lv_iadd hx hb dL_law_221 ?_
  refine va_sld hx hb hX hbl hbA hS g2 dL_law_222 ?_
  refine lv_aload_n hx hb dL_law_223 rfl (lv_at hl 0 rfl) ?_
  refine lv_iload_n hx hb dL_law_224 rfl (lv_at hl 3 rfl) ?_
  refine lv_iconst (v := 3) hx hb dL_law_225 (by decide) ?_
  refine lv_iadd hx hb dL_law_226 ?_
  refine va_sld hx hb hX hbl hbA hS g3 dL_law_227 ?_
  refine va_calli (va_runV (As := [.int (xs (nI i + 1).toNatClampNeg), .int (xs (nI i + 2).toNatClampNeg), .int (xs (nI i + 3).toNatClampNeg)]) (rest := []) ⟨hx, hb, hml, hown, hts⟩ (c_X6_weight l D cI cJ q hq F I J a b (xs (nI i + 1).toNatClampNeg) (xs (nI i + 2).toNatClampNeg) (xs (nI i + 3).toNatClampNeg) x hx1) (cwV 3 hts gT_law_X6_weight rfl rfl rfl (by decide +kernel) ⟨Nat.le_of_ble_eq_true rfl, Nat.le_of_ble_eq_true rfl⟩) ⟨CUPc_blind, va_recv hK hP (ci := 6) (q0 := 0) rfl rfl, fun U hU hW => ⟨rfl, by rw [hU]; exact hP, va_K.moved hW.alike hK, va_Nw.warmM hW hN⟩⟩ rfl rfl hl.1 rfl (lv_room (Nat.le_of_ble_eq_true rfl)) dL_law_228 ⟨Nat.le_of_ble_eq_true rfl, Nat.le_of_ble_eq_true rfl⟩) hS (fun x _ h => hqA x h) hqA (fun r9 u t H1 locs ht hvm hw hB hz1 hk1 hS => ?_)
  obtain ⟨rfl, rfl⟩ := hw
  rw [ht] at hB
  have hP : va_P D vwCl (CUW cI cJ q (fu (fu (fu (fu I 6 x.2.1) 11 x.2.2.1) 17 x.2.2.2.1) 18 x.2.2.2.2.1) (fu J 2 x.2.2.2.2.2.1) (fu a 3 x.2.2.2.2.2.2) b) H1 := hB
  have hP2 := hP2.kept (fun k z hz => hk1 z.1 (hP2 k z hz).lt (fun h => hdis _ h (by obtain ⟨a1, a2⟩ := MUW_at k z hz; exact ⟨k, a1, a2⟩)))
  clear hB hz1 hk1 ht hvm
  generalize H1 = H at hP hP2 hS ⊢
  refine lv_aload_n hx hb dL_law_231 rfl (lv_at hl 2 rfl) ?_
  refine lv_aload_n hx hb dL_law_232 rfl (lv_at hl 0 rfl) ?_
  refine lv_iload_n hx hb dL_law_233 rfl (lv_at hl 3 rfl) ?_
  refine lv_iconst (v := 1) hx hb dL_law_234 (by decide) ?_
  refine lv_iadd hx hb dL_law_235 ?_
  refine va_sld hx hb hX hbl hbA hS g1 dL_law_236 ?_
  refine lv_aload_n hx hb dL_law_237 rfl (lv_at hl 0 rfl) ?_
  refine lv_iload_n hx hb dL_law_238 rfl (lv_at hl 3 rfl) ?_
  refine lv_iconst (v := 2) hx hb dL_law_239 (by decide) ?_
  refine lv_iadd hx hb dL_law_240 ?_
  refine va_sld hx hb hX hbl hbA hS g2 dL_law_241 ?_
  refine lv_aload_n hx hb dL_law_242 rfl (lv_at hl 0 rfl) ?_
  refine lv_iload_n hx hb dL_law_243 rfl (lv_at hl 3 rfl) ?_
  refine lv_iconst (v := 3) hx hb dL_law_244 (by decide) ?_
  refine lv_iadd hx hb dL_law_245 ?_
  refine va_sld hx hb hX hbl hbA hS g3 dL_law_246 ?_
  refine va_calli (va_runV (As := [.int (xs (nI i + 1).toNatClampNeg), .int (xs (nI i + 2).toNatClampNeg), .int (xs (nI i + 3).toNatClampNeg)]) (rest := [.int x.1]) ⟨hx, hb, hml, hown, hts⟩ (c_X7_weight l D dI dJ dZ r hr0 F I2 J2 a2 b2 (xs (nI i + 1).toNatClampNeg) (xs (nI i + 2).toNatClampNeg) (xs (nI i + 3).toNatClampNeg) y hy1) (cwV 3 hts gT_law_X7_weight rfl rfl rfl (by decide +kernel) ⟨Nat.le_of_ble_eq_true rfl, Nat.le_of_ble_eq_true rfl⟩) ⟨MUPc_blind, va_recv hK2 hP2 (ci := 7) (q0 := 0) rfl rfl, fun U hU hW => ⟨rfl, by rw [hU]; exact hP2, va_K.moved hW.alike hK2, trivial⟩⟩ rfl rfl hl.1 rfl (lv_room (Nat.le_of_ble_eq_true rfl)) dL_law_247 ⟨Nat.le_of_ble_eq_true rfl, Nat.le_of_ble_eq_true rfl⟩) hS (fun x _ h => hrA x h) hrA (fun r9 u t H1 locs ht hvm hw hB hz1 hk1 hS => ?_)
  obtain ⟨rfl, rfl⟩ := hw
  rw [ht] at hB
  have hP2 : va_P D vwCl (MUW dI dJ dZ r (fu (fu (fu I2 7 y.2.1) 8 y.2.2.1) 9 y.2.2.2.1) J2 (fu a2 5 y.2.2.2.2) b2) H1 := hB
  have hP := hP.kept (fun k z hz => hk1 z.1 (hP k z hz).lt (fun h => hdis z.1 (by obtain ⟨a1, a2⟩ := CUW_at k z hz; exact ⟨k, a1, a2⟩) h))
  clear hB hz1 hk1 ht hvm
  generalize H1 = H at hP hP2 hS ⊢
  refine lv_icmp_eq (tgt := 609) hx hb dL_law_250 (by decide) (fun ce => ?_) (fun ce => ?_)
  · exact NEXT (fu (fu (fu (fu I 6 x.2.1) 11 x.2.2.1) 17 x.2.2.2.1) 18 x.2.2.2.2.1) (fu J 2 x.2.2.2.2.2.1) (fu a 3 x.2.2.2.2.2.2) b (fu (fu (fu I2 7 y.2.1) 8 y.2.2.1) 9 y.2.2.2.1) J2 (fu a2 5 y.2.2.2.2) b2 hRel2 _ _ hP hP2 hS
  · exact absurd he ce
set_option maxHeartbeats 4000000 in
set_option maxRecDepth 100000 in
theorem law_c_drop {p : Program} {l : Launch} {e : Env} {s : State} {m : MethodId} {below : List Frame} {meth : Method} {c : Code} {D : va_G} {cI cJ dI dJ dZ : ClassId} {q r : Nat → Nat} {bb L : Nat} {xs : Nat → Int32} (hL : L ≤ 2048) (C0 : lw_At p s m meth c bb L xs)
    (hq : CUQ q) (hr0 : MUQ r) (hqA : ∀ x, CUA q x → s.heap.size ≤ x) (hrA : ∀ x, MUA r x → s.heap.size ≤ x) (hdis : ∀ x, CUA q x → ¬ MUA r x)
    (hK : va_K D vwCl [(cI, .int), (cJ, .long)] s) (hK2 : va_K D vwCl [(dI, .int), (dJ, .long), (dZ, .boolean)] s) (hN : va_Nw (.methodLinkNest RX0 90 yX6_literalsIn "LearnedReasons") s)
    (F : Nat) (Rel : RelT) (h_drop : op_drop F Rel) {i : Nat} (hin : i + 4 ≤ L) {ls : Array Slot} (hl : lv_has ls 4 [(0, .ref bb), (1, .ref (q 0)), (2, .ref (r 0)), (3, .int (nI i))]) (NEXT : ∀ (I : Nat → Int32) (J : Nat → Int64) (a : Nat → Nat → Int32) (b : Nat → Nat → Int64) (I2 : Nat → Int32) (J2 : Nat → Int64) (a2 : Nat → Nat → Int32) (b2 : Nat → Nat → Int64), Rel I J a b I2 J2 a2 b2 → ∀ (H : Heap) (locs : List Loc), va_P D vwCl (CUW cI cJ q I J a b) H → va_P D vwCl (MUW dI dJ dZ r I2 J2 a2 b2) H → va_S (fun x : Nat => s.heap.size ≤ x) s.heap H locs → W p l e room_1 s m #[Value.ref bb] below meth c H locs 32 64181 (lw_Z below #[Value.ref bb] s) (F0 m 609 ls [])) : ∀ (I : Nat → Int32) (J : Nat → Int64) (a : Nat → Nat → Int32) (b : Nat → Nat → Int64) (I2 : Nat → Int32) (J2 : Nat → Int64) (a2 : Nat → Nat → Int32) (b2 : Nat → Nat → Int64), Rel I J a b I2 J2 a2 b2 → ∀ (H : Heap) (locs : List Loc), va_P D vwCl (CUW cI cJ q I J a b) H → va_P D vwCl (MUW dI dJ dZ r I2 J2 a2 b2) H → va_S (fun x : Nat => s.heap.size ≤ x) s.heap H locs → W p l e room_1 s m #[Value.ref bb] below meth c H locs 32 64181 (lw_Z below #[Value.ref bb] s) (F0 m 255 ls []) := by
  obtain ⟨hx, hb, hr, hml, hown, hts, hX, hbl, hlocks, hgv⟩ := id C0
  have hown : s.vm.findClass RL = some m.cls := hown
  have hbA : ¬ (fun x : Nat => s.heap.size ≤ x) bb := Nat.not_le.mpr hbl
  have e1 : nI i + 1 = nI (i + 1) := nI_add i 1
  have e2 : nI i + 2 = nI (i + 2) := nI_add i 2
  have e3 : nI i + 3 = nI (i + 3) := nI_add i 3
  have g1 : vp_in (nI i + 1) L := by rw [e1]; exact vp_in_nI (by omega) (by omega)
  have g2 : vp_in (nI i + 2) L := by rw [e2]; exact vp_in_nI (by omega) (by omega)
  have g3 : vp_in (nI i + 3) L := by rw [e3]; exact vp_in_nI (by omega) (by omega)
  intro I J a b I2 J2 a2 b2 hRel H locs hP hP2 hS
  obtain ⟨x, y, hx1, hy1, he, hRel2⟩ := h_drop I J a b I2 J2 a2 b2 (xs (nI i + 1).toNatClampNeg) hRel
  refine lv_aload_n hx hb dL_law_255 rfl (lv_at hl 1 rfl) ?_
  refine lv_aload_n hx hb dL_law_256 rfl (lv_at hl 0 rfl) ?_
  refine lv_iload_n hx hb dL_law_257 rfl (lv_at hl 3 rfl) ?_
  refine lv_iconst (v := 1) hx hb dL_law_258 (by decide) ?_
  refine lv_iadd hx hb dL_law_259 ?_
  refine va_sld hx hb hX hbl hbA hS g1 dL_law_260 ?_
  refine va_calli (va_runV (As := [.int (xs (nI i + 1).toNatClampNeg)]) (rest := []) ⟨hx, hb, hml, hown, hts⟩ (c_X6_drop l D cI cJ q hq F I J a b (xs (nI i + 1).toNatClampNeg) x hx1) (cwV 1 hts gT_law_X6_drop rfl rfl rfl (by decide +kernel) ⟨Nat.le_of_ble_eq_true rfl, Nat.le_of_ble_eq_true rfl⟩) ⟨CUPc_blind, va_recv hK hP (ci := 6) (q0 := 0) rfl rfl, fun U hU hW => ⟨rfl, by rw [hU]; exact hP, va_K.moved hW.alike hK, va_Nw.warmM hW hN⟩⟩ rfl rfl hl.1 rfl (lv_room (Nat.le_of_ble_eq_true rfl)) dL_law_261 ⟨Nat.le_of_ble_eq_true rfl, Nat.le_of_ble_eq_true rfl⟩) hS (fun x _ h => hqA x h) hqA (fun r9 u t H1 locs ht hvm hw hB hz1 hk1 hS => ?_)
  obtain ⟨rfl, rfl⟩ := hw
  rw [ht] at hB
  have hP : va_P D vwCl (CUW cI cJ q (fu (fu (fu (fu I 6 x.2.1) 11 x.2.2.1) 17 x.2.2.2.1) 18 x.2.2.2.2.1) (fu J 0 x.2.2.2.2.2) a b) H1 := hB
  have hP2 := hP2.kept (fun k z hz => hk1 z.1 (hP2 k z hz).lt (fun h => hdis _ h (by obtain ⟨a1, a2⟩ := MUW_at k z hz; exact ⟨k, a1, a2⟩)))
  clear hB hz1 hk1 ht hvm
  generalize H1 = H at hP hP2 hS ⊢
  refine lv_aload_n hx hb dL_law_264 rfl (lv_at hl 2 rfl) ?_
  refine lv_aload_n hx hb dL_law_265 rfl (lv_at hl 0 rfl) ?_
  refine lv_iload_n hx hb dL_law_266 rfl (lv_at hl 3 rfl) ?_
  refine lv_iconst (v := 1) hx hb dL_law_267 (by decide) ?_
  refine lv_iadd hx hb dL_law_268 ?_
  refine va_sld hx hb hX hbl hbA hS g1 dL_law_269 ?_
  refine va_calli (va_runV (As := [.int (xs (nI i + 1).toNatClampNeg)]) (rest := [.int x.1]) ⟨hx, hb, hml, hown, hts⟩ (c_X7_drop l D dI dJ dZ r hr0 F I2 J2 a2 b2 (xs (nI i + 1).toNatClampNeg) y hy1) (cwV 1 hts gT_law_X7_drop rfl rfl rfl (by decide +kernel) ⟨Nat.le_of_ble_eq_true rfl, Nat.le_of_ble_eq_true rfl⟩) ⟨MUPc_blind, va_recv hK2 hP2 (ci := 7) (q0 := 0) rfl rfl, fun U hU hW => ⟨rfl, by rw [hU]; exact hP2, va_K.moved hW.alike hK2, trivial⟩⟩ rfl rfl hl.1 rfl (lv_room (Nat.le_of_ble_eq_true rfl)) dL_law_270 ⟨Nat.le_of_ble_eq_true rfl, Nat.le_of_ble_eq_true rfl⟩) hS (fun x _ h => hrA x h) hrA (fun r9 u t H1 locs ht hvm hw hB hz1 hk1 hS => ?_)
  obtain ⟨rfl, rfl⟩ := hw
  rw [ht] at hB
  have hP2 : va_P D vwCl (MUW dI dJ dZ r (fu (fu (fu I2 7 y.2.1) 8 y.2.2.1) 9 y.2.2.2.1) J2 (fu a2 0 y.2.2.2.2) b2) H1 := hB
  have hP := hP.kept (fun k z hz => hk1 z.1 (hP k z hz).lt (fun h => hdis z.1 (by obtain ⟨a1, a2⟩ := CUW_at k z hz; exact ⟨k, a1, a2⟩) h))
  clear hB hz1 hk1 ht hvm
  generalize H1 = H at hP hP2 hS ⊢
  refine lv_icmp_eq (tgt := 609) hx hb dL_law_273 (by decide) (fun ce => ?_) (fun ce => ?_)
  · exact NEXT (fu (fu (fu (fu I 6 x.2.1) 11 x.2.2.1) 17 x.2.2.2.1) 18 x.2.2.2.2.1) (fu J 0 x.2.2.2.2.2) a b (fu (fu (fu I2 7 y.2.1) 8 y.2.2.1) 9 y.2.2.2.1) J2 (fu a2 0 y.2.2.2.2) b2 hRel2 _ _ hP hP2 hS
  · exact absurd he ce
set_option maxHeartbeats 4000000 in
set_option maxRecDepth 100000 in
theorem law_c_cost {p : Program} {l : Launch} {e : Env} {s : State} {m : MethodId} {below : List Frame} {meth : Method} {c : Code} {D : va_G} {cI cJ dI dJ dZ : ClassId} {q r : Nat → Nat} {bb L : Nat} {xs : Nat → Int32} (hL : L ≤ 2048) (C0 : lw_At p s m meth c bb L xs)
    (hq : CUQ q) (hr0 : MUQ r) (hqA : ∀ x, CUA q x → s.heap.size ≤ x) (hrA : ∀ x, MUA r x → s.heap.size ≤ x) (hdis : ∀ x, CUA q x → ¬ MUA r x)
    (hK : va_K D vwCl [(cI, .int), (cJ, .long)] s) (hK2 : va_K D vwCl [(dI, .int), (dJ, .long), (dZ, .boolean)] s) (hN : va_Nw (.methodLinkNest RX0 90 yX6_literalsIn "LearnedReasons") s)
    (F : Nat) (Rel : RelT) (h_cost : op_cost F Rel) {i : Nat} (hin : i + 4 ≤ L) {ls : Array Slot} (hl : lv_has ls 4 [(0, .ref bb), (1, .ref (q 0)), (2, .ref (r 0)), (3, .int (nI i))]) (NEXT : ∀ (I : Nat → Int32) (J : Nat → Int64) (a : Nat → Nat → Int32) (b : Nat → Nat → Int64) (I2 : Nat → Int32) (J2 : Nat → Int64) (a2 : Nat → Nat → Int32) (b2 : Nat → Nat → Int64), Rel I J a b I2 J2 a2 b2 → ∀ (H : Heap) (locs : List Loc), va_P D vwCl (CUW cI cJ q I J a b) H → va_P D vwCl (MUW dI dJ dZ r I2 J2 a2 b2) H → va_S (fun x : Nat => s.heap.size ≤ x) s.heap H locs → W p l e room_1 s m #[Value.ref bb] below meth c H locs 32 64181 (lw_Z below #[Value.ref bb] s) (F0 m 609 ls [])) : ∀ (I : Nat → Int32) (J : Nat → Int64) (a : Nat → Nat → Int32) (b : Nat → Nat → Int64) (I2 : Nat → Int32) (J2 : Nat → Int64) (a2 : Nat → Nat → Int32) (b2 : Nat → Nat → Int64), Rel I J a b I2 J2 a2 b2 → ∀ (H : Heap) (locs : List Loc), va_P D vwCl (CUW cI cJ q I J a b) H → va_P D vwCl (MUW dI dJ dZ r I2 J2 a2 b2) H → va_S (fun x : Nat => s.heap.size ≤ x) s.heap H locs → W p l e room_1 s m #[Value.ref bb] below meth c H locs 32 64181 (lw_Z below #[Value.ref bb] s) (F0 m 278 ls []) := by
  obtain ⟨hx, hb, hr, hml, hown, hts, hX, hbl, hlocks, hgv⟩ := id C0
  have hown : s.vm.findClass RL = some m.cls := hown
  have hbA : ¬ (fun x : Nat => s.heap.size ≤ x) bb := Nat.not_le.mpr hbl
  have e1 : nI i + 1 = nI (i + 1) := nI_add i 1
  have e2 : nI i + 2 = nI (i + 2) := nI_add i 2
  have e3 : nI i + 3 = nI (i + 3) := nI_add i 3
  have g1 : vp_in (nI i + 1) L := by rw [e1]; exact vp_in_nI (by omega) (by omega)
  have g2 : vp_in (nI i + 2) L := by rw [e2]; exact vp_in_nI (by omega) (by omega)
  have g3 : vp_in (nI i + 3) L := by rw [e3]; exact vp_in_nI (by omega) (by omega)
  intro I J a b I2 J2 a2 b2 hRel H locs hP hP2 hS
  obtain ⟨x, y, hx1, hy1, he, hRel2⟩ := h_cost I J a b I2 J2 a2 b2 (xs (nI i + 1).toNatClampNeg) (xs (nI i + 2).toNatClampNeg) hRel
  refine lv_aload_n hx hb dL_law_278 rfl (lv_at hl 1 rfl) ?_
  refine lv_aload_n hx hb dL_law_279 rfl (lv_at hl 0 rfl) ?_
  refine lv_iload_n hx hb dL_law_280 rfl (lv_at hl 3 rfl) ?_
  refine lv_iconst (v := 1) hx hb dL_law_281 (by decide) ?_
  refine lv_iadd hx hb dL_law_282 ?_
  refine va_sld hx hb hX hbl hbA hS g1 dL_law_283 ?_
  refine lv_aload_n hx hb dL_law_284 rfl (lv_at hl 0 rfl) ?_
  refine lv_iload_n hx hb dL_law_285 rfl (lv_at hl 3 rfl) ?_
  refine lv_iconst (v := 2) hx hb dL_law_286 (by decide) ?_
  refine lv_iadd hx hb dL_law_287 ?_
  refine va_sld hx hb hX hbl hbA hS g2 dL_law_288 ?_
  refine va_calli (va_runV (As := [.int (xs (nI i + 1).toNatClampNeg), .int (xs (nI i + 2).toNatClampNeg)]) (rest := []) ⟨hx, hb, hml, hown, hts⟩ (c_X6_cost l D cI cJ q hq F I J a b (xs (nI i + 1).toNatClampNeg) (xs (nI i + 2).toNatClampNeg) x hx1) (cwV 2 hts gT_law_X6_cost rfl rfl rfl (by decide +kernel) ⟨Nat.le_of_ble_eq_true rfl, Nat.le_of_ble_eq_true rfl⟩) ⟨CUPc_blind, va_recv hK hP (ci := 6) (q0 := 0) rfl rfl, fun U hU hW => ⟨rfl, by rw [hU]; exact hP, va_K.moved hW.alike hK, va_Nw.warmM hW hN⟩⟩ rfl rfl hl.1 rfl (lv_room (Nat.le_of_ble_eq_true rfl)) dL_law_289 ⟨Nat.le_of_ble_eq_true rfl, Nat.le_of_ble_eq_true rfl⟩) hS (fun x _ h => hqA x h) hqA (fun r9 u t H1 locs ht hvm hw hB hz1 hk1 hS => ?_)
  obtain ⟨rfl, rfl⟩ := hw
  rw [ht] at hB
  have hP : va_P D vwCl (CUW cI cJ q (fu I 17 x.2.1) J (fu a 8 x.2.2) b) H1 := hB
  have hP2 := hP2.kept (fun k z hz => hk1 z.1 (hP2 k z hz).lt (fun h => hdis _ h (by obtain ⟨a1, a2⟩ := MUW_at k z hz; exact ⟨k, a1, a2⟩)))
  clear hB hz1 hk1 ht hvm
  generalize H1 = H at hP hP2 hS ⊢
  refine lv_aload_n hx hb dL_law_292 rfl (lv_at hl 2 rfl) ?_
  refine lv_aload_n hx hb dL_law_293 rfl (lv_at hl 0 rfl) ?_
  refine lv_iload_n hx hb dL_law_294 rfl (lv_at hl 3 rfl) ?_
  refine lv_iconst (v := 1) hx hb dL_law_295 (by decide) ?_
  refine lv_iadd hx hb dL_law_296 ?_
  refine va_sld hx hb hX hbl hbA hS g1 dL_law_297 ?_
  refine lv_aload_n hx hb dL_law_298 rfl (lv_at hl 0 rfl) ?_
  refine lv_iload_n hx hb dL_law_299 rfl (lv_at hl 3 rfl) ?_
  refine lv_iconst (v := 2) hx hb dL_law_300 (by decide) ?_
  refine lv_iadd hx hb dL_law_301 ?_
  refine va_sld hx hb hX hbl hbA hS g2 dL_law_302 ?_
  refine va_calli (va_runV (As := [.int (xs (nI i + 1).toNatClampNeg), .int (xs (nI i + 2).toNatClampNeg)]) (rest := [.int x.1]) ⟨hx, hb, hml, hown, hts⟩ (c_X7_cost l D dI dJ dZ r hr0 F I2 J2 a2 b2 (xs (nI i + 1).toNatClampNeg) (xs (nI i + 2).toNatClampNeg) y hy1) (cwV 2 hts gT_law_X7_cost rfl rfl rfl (by decide +kernel) ⟨Nat.le_of_ble_eq_true rfl, Nat.le_of_ble_eq_true rfl⟩) ⟨MUPc_blind, va_recv hK2 hP2 (ci := 7) (q0 := 0) rfl rfl, fun U hU hW => ⟨rfl, by rw [hU]; exact hP2, va_K.moved hW.alike hK2, trivial⟩⟩ rfl rfl hl.1 rfl (lv_room (Nat.le_of_ble_eq_true rfl)) dL_law_303 ⟨Nat.le_of_ble_eq_true rfl, Nat.le_of_ble_eq_true rfl⟩) hS (fun x _ h => hrA x h) hrA (fun r9 u t H1 locs ht hvm hw hB hz1 hk1 hS => ?_)
  obtain ⟨rfl, rfl⟩ := hw
  rw [ht] at hB
  have hP2 : va_P D vwCl (MUW dI dJ dZ r (fu I2 8 y.2.1) J2 (fu a2 6 y.2.2) b2) H1 := hB
  have hP := hP.kept (fun k z hz => hk1 z.1 (hP k z hz).lt (fun h => hdis z.1 (by obtain ⟨a1, a2⟩ := CUW_at k z hz; exact ⟨k, a1, a2⟩) h))
  clear hB hz1 hk1 ht hvm
  generalize H1 = H at hP hP2 hS ⊢
  refine lv_icmp_eq (tgt := 609) hx hb dL_law_306 (by decide) (fun ce => ?_) (fun ce => ?_)
  · exact NEXT (fu I 17 x.2.1) J (fu a 8 x.2.2) b (fu I2 8 y.2.1) J2 (fu a2 6 y.2.2) b2 hRel2 _ _ hP hP2 hS
  · exact absurd he ce
set_option maxHeartbeats 4000000 in
set_option maxRecDepth 100000 in
theorem law_c_clear {p : Program} {l : Launch} {e : Env} {s : State} {m : MethodId} {below : List Frame} {meth : Method} {c : Code} {D : va_G} {cI cJ dI dJ dZ : ClassId} {q r : Nat → Nat} {bb L : Nat} {xs : Nat → Int32} (hL : L ≤ 2048) (C0 : lw_At p s m meth c bb L xs)
    (hq : CUQ q) (hr0 : MUQ r) (hqA : ∀ x, CUA q x → s.heap.size ≤ x) (hrA : ∀ x, MUA r x → s.heap.size ≤ x) (hdis : ∀ x, CUA q x → ¬ MUA r x)
    (hK : va_K D vwCl [(cI, .int), (cJ, .long)] s) (hK2 : va_K D vwCl [(dI, .int), (dJ, .long), (dZ, .boolean)] s) (hN : va_Nw (.methodLinkNest RX0 90 yX6_literalsIn "LearnedReasons") s)
    (F : Nat) (Rel : RelT) (h_clear : op_clear F Rel) {i : Nat} (hin : i + 4 ≤ L) {ls : Array Slot} (hl : lv_has ls 4 [(0, .ref bb), (1, .ref (q 0)), (2, .ref (r 0)), (3, .int (nI i))]) (NEXT : ∀ (I : Nat → Int32) (J : Nat → Int64) (a : Nat → Nat → Int32) (b : Nat → Nat → Int64) (I2 : Nat → Int32) (J2 : Nat → Int64) (a2 : Nat → Nat → Int32) (b2 : Nat → Nat → Int64), Rel I J a b I2 J2 a2 b2 → ∀ (H : Heap) (locs : List Loc), va_P D vwCl (CUW cI cJ q I J a b) H → va_P D vwCl (MUW dI dJ dZ r I2 J2 a2 b2) H → va_S (fun x : Nat => s.heap.size ≤ x) s.heap H locs → W p l e room_1 s m #[Value.ref bb] below meth c H locs 32 64181 (lw_Z below #[Value.ref bb] s) (F0 m 609 ls [])) : ∀ (I : Nat → Int32) (J : Nat → Int64) (a : Nat → Nat → Int32) (b : Nat → Nat → Int64) (I2 : Nat → Int32) (J2 : Nat → Int64) (a2 : Nat → Nat → Int32) (b2 : Nat → Nat → Int64), Rel I J a b I2 J2 a2 b2 → ∀ (H : Heap) (locs : List Loc), va_P D vwCl (CUW cI cJ q I J a b) H → va_P D vwCl (MUW dI dJ dZ r I2 J2 a2 b2) H → va_S (fun x : Nat => s.heap.size ≤ x) s.heap H locs → W p l e room_1 s m #[Value.ref bb] below meth c H locs 32 64181 (lw_Z below #[Value.ref bb] s) (F0 m 311 ls []) := by
  obtain ⟨hx, hb, hr, hml, hown, hts, hX, hbl, hlocks, hgv⟩ := id C0
  have hown : s.vm.findClass RL = some m.cls := hown
  have hbA : ¬ (fun x : Nat => s.heap.size ≤ x) bb := Nat.not_le.mpr hbl
  have e1 : nI i + 1 = nI (i + 1) := nI_add i 1
  have e2 : nI i + 2 = nI (i + 2) := nI_add i 2
  have e3 : nI i + 3 = nI (i + 3) := nI_add i 3
  have g1 : vp_in (nI i + 1) L := by rw [e1]; exact vp_in_nI (by omega) (by omega)
  have g2 : vp_in (nI i + 2) L := by rw [e2]; exact vp_in_nI (by omega) (by omega)
  have g3 : vp_in (nI i + 3) L := by rw [e3]; exact vp_in_nI (by omega) (by omega)
  intro I J a b I2 J2 a2 b2 hRel H locs hP hP2 hS
  obtain ⟨x, y, hx1, hy1, he, hRel2⟩ := h_clear I J a b I2 J2 a2 b2 hRel
  refine lv_aload_n hx hb dL_law_311 rfl (lv_at hl 1 rfl) ?_
  refine va_calli (va_runV (As := []) (rest := []) ⟨hx, hb, hml, hown, hts⟩ (c_X6_clear l D cI cJ q hq F I J a b x hx1) (cwV 0 hts gT_law_X6_clear rfl rfl rfl (by decide +kernel) ⟨Nat.le_of_ble_eq_true rfl, Nat.le_of_ble_eq_true rfl⟩) ⟨CUPc_blind, va_recv hK hP (ci := 6) (q0 := 0) rfl rfl, fun U hU hW => ⟨rfl, by rw [hU]; exact hP, va_K.moved hW.alike hK, va_Nw.warmM hW hN⟩⟩ rfl rfl hl.1 rfl (lv_room (Nat.le_of_ble_eq_true rfl)) dL_law_312 ⟨Nat.le_of_ble_eq_true rfl, Nat.le_of_ble_eq_true rfl⟩) hS (fun x _ h => hqA x h) hqA (fun r9 u t H1 locs ht hvm hw hB hz1 hk1 hS => ?_)
  obtain ⟨rfl, rfl⟩ := hw
  rw [ht] at hB
  have hP : va_P D vwCl (CUW cI cJ q (fu (fu (fu (fu (fu (fu (fu (fu (fu (fu I 0 x.2.1) 1 x.2.2.1) 2 x.2.2.2.1) 3 x.2.2.2.2.1) 4 x.2.2.2.2.2.1) 5 x.2.2.2.2.2.2.1) 6 x.2.2.2.2.2.2.2.1) 11 x.2.2.2.2.2.2.2.2.1) 17 x.2.2.2.2.2.2.2.2.2.1) 18 x.2.2.2.2.2.2.2.2.2.2.1) (fu (fu (fu J 0 x.2.2.2.2.2.2.2.2.2.2.2.1) 1 x.2.2.2.2.2.2.2.2.2.2.2.2.1) 2 x.2.2.2.2.2.2.2.2.2.2.2.2.2.1) (fu a 8 x.2.2.2.2.2.2.2.2.2.2.2.2.2.2) b) H1 := hB
  have hP2 := hP2.kept (fun k z hz => hk1 z.1 (hP2 k z hz).lt (fun h => hdis _ h (by obtain ⟨a1, a2⟩ := MUW_at k z hz; exact ⟨k, a1, a2⟩)))
  clear hB hz1 hk1 ht hvm
  generalize H1 = H at hP hP2 hS ⊢
  refine lv_aload_n hx hb dL_law_315 rfl (lv_at hl 2 rfl) ?_
  refine va_calli (va_runV (As := []) (rest := [.int x.1]) ⟨hx, hb, hml, hown, hts⟩ (c_X7_clear l D dI dJ dZ r hr0 F I2 J2 a2 b2 y hy1) (cwV 0 hts gT_law_X7_clear rfl rfl rfl (by decide +kernel) ⟨Nat.le_of_ble_eq_true rfl, Nat.le_of_ble_eq_true rfl⟩) ⟨MUPc_blind, va_recv hK2 hP2 (ci := 7) (q0 := 0) rfl rfl, fun U hU hW => ⟨rfl, by rw [hU]; exact hP2, va_K.moved hW.alike hK2, trivial⟩⟩ rfl rfl hl.1 rfl (lv_room (Nat.le_of_ble_eq_true rfl)) dL_law_316 ⟨Nat.le_of_ble_eq_true rfl, Nat.le_of_ble_eq_true rfl⟩) hS (fun x _ h => hrA x h) hrA (fun r9 u t H1 locs ht hvm hw hB hz1 hk1 hS => ?_)
  obtain ⟨rfl, rfl⟩ := hw
  rw [ht] at hB
  have hP2 : va_P D vwCl (MUW dI dJ dZ r (fu (fu (fu (fu (fu (fu (fu (fu (fu (fu I2 0 y.2.1) 1 y.2.2.1) 2 y.2.2.2.1) 3 y.2.2.2.2.1) 4 y.2.2.2.2.2.1) 5 y.2.2.2.2.2.2.1) 6 y.2.2.2.2.2.2.2.1) 7 y.2.2.2.2.2.2.2.2.1) 8 y.2.2.2.2.2.2.2.2.2.1) 9 y.2.2.2.2.2.2.2.2.2.2) J2 a2 b2) H1 := hB
  have hP := hP.kept (fun k z hz => hk1 z.1 (hP k z hz).lt (fun h => hdis z.1 (by obtain ⟨a1, a2⟩ := CUW_at k z hz; exact ⟨k, a1, a2⟩) h))
  clear hB hz1 hk1 ht hvm
  generalize H1 = H at hP hP2 hS ⊢
  refine lv_icmp_eq (tgt := 609) hx hb dL_law_319 (by decide) (fun ce => ?_) (fun ce => ?_)
  · exact NEXT (fu (fu (fu (fu (fu (fu (fu (fu (fu (fu I 0 x.2.1) 1 x.2.2.1) 2 x.2.2.2.1) 3 x.2.2.2.2.1) 4 x.2.2.2.2.2.1) 5 x.2.2.2.2.2.2.1) 6 x.2.2.2.2.2.2.2.1) 11 x.2.2.2.2.2.2.2.2.1) 17 x.2.2.2.2.2.2.2.2.2.1) 18 x.2.2.2.2.2.2.2.2.2.2.1) (fu (fu (fu J 0 x.2.2.2.2.2.2.2.2.2.2.2.1) 1 x.2.2.2.2.2.2.2.2.2.2.2.2.1) 2 x.2.2.2.2.2.2.2.2.2.2.2.2.2.1) (fu a 8 x.2.2.2.2.2.2.2.2.2.2.2.2.2.2) b (fu (fu (fu (fu (fu (fu (fu (fu (fu (fu I2 0 y.2.1) 1 y.2.2.1) 2 y.2.2.2.1) 3 y.2.2.2.2.1) 4 y.2.2.2.2.2.1) 5 y.2.2.2.2.2.2.1) 6 y.2.2.2.2.2.2.2.1) 7 y.2.2.2.2.2.2.2.2.1) 8 y.2.2.2.2.2.2.2.2.2.1) 9 y.2.2.2.2.2.2.2.2.2.2) J2 a2 b2 hRel2 _ _ hP hP2 hS
  · exact absurd he ce
set_option maxHeartbeats 4000000 in
set_option maxRecDepth 100000 in
theorem law_c_assume {p : Program} {l : Launch} {e : Env} {s : State} {m : MethodId} {below : List Frame} {meth : Method} {c : Code} {D : va_G} {cI cJ dI dJ dZ : ClassId} {q r : Nat → Nat} {bb L : Nat} {xs : Nat → Int32} (hL : L ≤ 2048) (C0 : lw_At p s m meth c bb L xs)
    (hq : CUQ q) (hr0 : MUQ r) (hqA : ∀ x, CUA q x → s.heap.size ≤ x) (hrA : ∀ x, MUA r x → s.heap.size ≤ x) (hdis : ∀ x, CUA q x → ¬ MUA r x)
    (hK : va_K D vwCl [(cI, .int), (cJ, .long)] s) (hK2 : va_K D vwCl [(dI, .int), (dJ, .long), (dZ, .boolean)] s) (hN : va_Nw (.methodLinkNest RX0 90 yX6_literalsIn "LearnedReasons") s)
    (F : Nat) (Rel : RelT) (h_assume : op_assume F Rel) {i : Nat} (hin : i + 4 ≤ L) {ls : Array Slot} (hl : lv_has ls 4 [(0, .ref bb), (1, .ref (q 0)), (2, .ref (r 0)), (3, .int (nI i))]) (NEXT : ∀ (I : Nat → Int32) (J : Nat → Int64) (a : Nat → Nat → Int32) (b : Nat → Nat → Int64) (I2 : Nat → Int32) (J2 : Nat → Int64) (a2 : Nat → Nat → Int32) (b2 : Nat → Nat → Int64), Rel I J a b I2 J2 a2 b2 → ∀ (H : Heap) (locs : List Loc), va_P D vwCl (CUW cI cJ q I J a b) H → va_P D vwCl (MUW dI dJ dZ r I2 J2 a2 b2) H → va_S (fun x : Nat => s.heap.size ≤ x) s.heap H locs → W p l e room_1 s m #[Value.ref bb] below meth c H locs 32 64181 (lw_Z below #[Value.ref bb] s) (F0 m 609 ls [])) : ∀ (I : Nat → Int32) (J : Nat → Int64) (a : Nat → Nat → Int32) (b : Nat → Nat → Int64) (I2 : Nat → Int32) (J2 : Nat → Int64) (a2 : Nat → Nat → Int32) (b2 : Nat → Nat → Int64), Rel I J a b I2 J2 a2 b2 → ∀ (H : Heap) (locs : List Loc), va_P D vwCl (CUW cI cJ q I J a b) H → va_P D vwCl (MUW dI dJ dZ r I2 J2 a2 b2) H → va_S (fun x : Nat => s.heap.size ≤ x) s.heap H locs → W p l e room_1 s m #[Value.ref bb] below meth c H locs 32 64181 (lw_Z below #[Value.ref bb] s) (F0 m 324 ls []) := by
  obtain ⟨hx, hb, hr, hml, hown, hts, hX, hbl, hlocks, hgv⟩ := id C0
  have hown : s.vm.findClass RL = some m.cls := hown
  have hbA : ¬ (fun x : Nat => s.heap.size ≤ x) bb := Nat.not_le.mpr hbl
  have e1 : nI i + 1 = nI (i + 1) := nI_add i 1
  have e2 : nI i + 2 = nI (i + 2) := nI_add i 2
  have e3 : nI i + 3 = nI (i + 3) := nI_add i 3
  have g1 : vp_in (nI i + 1) L := by rw [e1]; exact vp_in_nI (by omega) (by omega)
  have g2 : vp_in (nI i + 2) L := by rw [e2]; exact vp_in_nI (by omega) (by omega)
  have g3 : vp_in (nI i + 3) L := by rw [e3]; exact vp_in_nI (by omega) (by omega)
  intro I J a b I2 J2 a2 b2 hRel H locs hP hP2 hS
  obtain ⟨x, y, hx1, hy1, he, hRel2⟩ := h_assume I J a b I2 J2 a2 b2 (xs (nI i + 1).toNatClampNeg) hRel
  refine lv_aload_n hx hb dL_law_324 rfl (lv_at hl 1 rfl) ?_
  refine lv_aload_n hx hb dL_law_325 rfl (lv_at hl 0 rfl) ?_
  refine lv_iload_n hx hb dL_law_326 rfl (lv_at hl 3 rfl) ?_
  refine lv_iconst (v := 1) hx hb dL_law_327 (by decide) ?_
  refine lv_iadd hx hb dL_law_328 ?_
  refine va_sld hx hb hX hbl hbA hS g1 dL_law_329 ?_
  refine va_calli (va_runV (As := [.int (xs (nI i + 1).toNatClampNeg)]) (rest := []) ⟨hx, hb, hml, hown, hts⟩ (c_X6_assume l D cI cJ q hq F I J a b (xs (nI i + 1).toNatClampNeg) x hx1) (cwV 1 hts gT_law_X6_assume rfl rfl rfl (by decide +kernel) ⟨Nat.le_of_ble_eq_true rfl, Nat.le_of_ble_eq_true rfl⟩) ⟨CUPc_blind, va_recv hK hP (ci := 6) (q0 := 0) rfl rfl, fun U hU hW => ⟨rfl, by rw [hU]; exact hP, va_K.moved hW.alike hK, va_Nw.warmM hW hN⟩⟩ rfl rfl hl.1 rfl (lv_room (Nat.le_of_ble_eq_true rfl)) dL_law_330 ⟨Nat.le_of_ble_eq_true rfl, Nat.le_of_ble_eq_true rfl⟩) hS (fun x _ h => hqA x h) hqA (fun r9 u t H1 locs ht hvm hw hB hz1 hk1 hS => ?_)
  obtain ⟨rfl, rfl⟩ := hw
  rw [ht] at hB
  have hP : va_P D vwCl (CUW cI cJ q (fu (fu I 2 x.2.1) 3 x.2.2) J a b) H1 := hB
  have hP2 := hP2.kept (fun k z hz => hk1 z.1 (hP2 k z hz).lt (fun h => hdis _ h (by obtain ⟨a1, a2⟩ := MUW_at k z hz; exact ⟨k, a1, a2⟩)))
  clear hB hz1 hk1 ht hvm
  generalize H1 = H at hP hP2 hS ⊢
  refine lv_aload_n hx hb dL_law_333 rfl (lv_at hl 2 rfl) ?_
  refine lv_aload_n hx hb dL_law_334 rfl (lv_at hl 0 rfl) ?_
  refine lv_iload_n hx hb dL_law_335 rfl (lv_at hl 3 rfl) ?_
  refine lv_iconst (v := 1) hx hb dL_law_336 (by decide) ?_
  refine lv_iadd hx hb dL_law_337 ?_
  refine va_sld hx hb hX hbl hbA hS g1 dL_law_338 ?_
  refine va_calli (va_runV (As := [.int (xs (nI i + 1).toNatClampNeg)]) (rest := [.int x.1]) ⟨hx, hb, hml, hown, hts⟩ (c_X7_assume l D dI dJ dZ r hr0 F I2 J2 a2 b2 (xs (nI i + 1).toNatClampNeg) y hy1) (cwV 1 hts gT_law_X7_assume rfl rfl rfl (by decide +kernel) ⟨Nat.le_of_ble_eq_true rfl, Nat.le_of_ble_eq_true rfl⟩) ⟨MUPc_blind, va_recv hK2 hP2 (ci := 7) (q0 := 0) rfl rfl, fun U hU hW => ⟨rfl, by rw [hU]; exact hP2, va_K.moved hW.alike hK2, trivial⟩⟩ rfl rfl hl.1 rfl (lv_room (Nat.le_of_ble_eq_true rfl)) dL_law_339 ⟨Nat.le_of_ble_eq_true rfl, Nat.le_of_ble_eq_true rfl⟩) hS (fun x _ h => hrA x h) hrA (fun r9 u t H1 locs ht hvm hw hB hz1 hk1 hS => ?_)
  obtain ⟨rfl, rfl⟩ := hw
  rw [ht] at hB
  have hP2 : va_P D vwCl (MUW dI dJ dZ r (fu (fu I2 5 y.2.1) 6 y.2.2) J2 a2 b2) H1 := hB
  have hP := hP.kept (fun k z hz => hk1 z.1 (hP k z hz).lt (fun h => hdis z.1 (by obtain ⟨a1, a2⟩ := CUW_at k z hz; exact ⟨k, a1, a2⟩) h))
  clear hB hz1 hk1 ht hvm
  generalize H1 = H at hP hP2 hS ⊢
  refine lv_icmp_eq (tgt := 609) hx hb dL_law_342 (by decide) (fun ce => ?_) (fun ce => ?_)
  · exact NEXT (fu (fu I 2 x.2.1) 3 x.2.2) J a b (fu (fu I2 5 y.2.1) 6 y.2.2) J2 a2 b2 hRel2 _ _ hP hP2 hS
  · exact absurd he ce
set_option maxHeartbeats 4000000 in
set_option maxRecDepth 100000 in
theorem law_c_forget {p : Program} {l : Launch} {e : Env} {s : State} {m : MethodId} {below : List Frame} {meth : Method} {c : Code} {D : va_G} {cI cJ dI dJ dZ : ClassId} {q r : Nat → Nat} {bb L : Nat} {xs : Nat → Int32} (hL : L ≤ 2048) (C0 : lw_At p s m meth c bb L xs)
    (hq : CUQ q) (hr0 : MUQ r) (hqA : ∀ x, CUA q x → s.heap.size ≤ x) (hrA : ∀ x, MUA r x → s.heap.size ≤ x) (hdis : ∀ x, CUA q x → ¬ MUA r x)
    (hK : va_K D vwCl [(cI, .int), (cJ, .long)] s) (hK2 : va_K D vwCl [(dI, .int), (dJ, .long), (dZ, .boolean)] s) (hN : va_Nw (.methodLinkNest RX0 90 yX6_literalsIn "LearnedReasons") s)
    (F : Nat) (Rel : RelT) (h_forget : op_forget F Rel) {i : Nat} (hin : i + 4 ≤ L) {ls : Array Slot} (hl : lv_has ls 4 [(0, .ref bb), (1, .ref (q 0)), (2, .ref (r 0)), (3, .int (nI i))]) (NEXT : ∀ (I : Nat → Int32) (J : Nat → Int64) (a : Nat → Nat → Int32) (b : Nat → Nat → Int64) (I2 : Nat → Int32) (J2 : Nat → Int64) (a2 : Nat → Nat → Int32) (b2 : Nat → Nat → Int64), Rel I J a b I2 J2 a2 b2 → ∀ (H : Heap) (locs : List Loc), va_P D vwCl (CUW cI cJ q I J a b) H → va_P D vwCl (MUW dI dJ dZ r I2 J2 a2 b2) H → va_S (fun x : Nat => s.heap.size ≤ x) s.heap H locs → W p l e room_1 s m #[Value.ref bb] below meth c H locs 32 64181 (lw_Z below #[Value.ref bb] s) (F0 m 609 ls [])) : ∀ (I : Nat → Int32) (J : Nat → Int64) (a : Nat → Nat → Int32) (b : Nat → Nat → Int64) (I2 : Nat → Int32) (J2 : Nat → Int64) (a2 : Nat → Nat → Int32) (b2 : Nat → Nat → Int64), Rel I J a b I2 J2 a2 b2 → ∀ (H : Heap) (locs : List Loc), va_P D vwCl (CUW cI cJ q I J a b) H → va_P D vwCl (MUW dI dJ dZ r I2 J2 a2 b2) H → va_S (fun x : Nat => s.heap.size ≤ x) s.heap H locs → W p l e room_1 s m #[Value.ref bb] below meth c H locs 32 64181 (lw_Z below #[Value.ref bb] s) (F0 m 347 ls []) := by
  obtain ⟨hx, hb, hr, hml, hown, hts, hX, hbl, hlocks, hgv⟩ := id C0
  have hown : s.vm.findClass RL = some m.cls := hown
  have hbA : ¬ (fun x : Nat => s.heap.size ≤ x) bb := Nat.not_le.mpr hbl
  have e1 : nI i + 1 = nI (i + 1) := nI_add i 1
  have e2 : nI i + 2 = nI (i + 2) := nI_add i 2
  have e3 : nI i + 3 = nI (i + 3) := nI_add i 3
  have g1 : vp_in (nI i + 1) L := by rw [e1]; exact vp_in_nI (by omega) (by omega)
  have g2 : vp_in (nI i + 2) L := by rw [e2]; exact vp_in_nI (by omega) (by omega)
  have g3 : vp_in (nI i + 3) L := by rw [e3]; exact vp_in_nI (by omega) (by omega)
  intro I J a b I2 J2 a2 b2 hRel H locs hP hP2 hS
  obtain ⟨x, y, hx1, hy1, he, hRel2⟩ := h_forget I J a b I2 J2 a2 b2 hRel
  refine lv_aload_n hx hb dL_law_347 rfl (lv_at hl 1 rfl) ?_
  refine va_calli (va_runV (As := []) (rest := []) ⟨hx, hb, hml, hown, hts⟩ (c_X6_forget l D cI cJ q hq F I J a b x hx1) (cwV 0 hts gT_law_X6_forget rfl rfl rfl (by decide +kernel) ⟨Nat.le_of_ble_eq_true rfl, Nat.le_of_ble_eq_true rfl⟩) ⟨CUPc_blind, va_recv hK hP (ci := 6) (q0 := 0) rfl rfl, fun U hU hW => ⟨rfl, by rw [hU]; exact hP, va_K.moved hW.alike hK, va_Nw.warmM hW hN⟩⟩ rfl rfl hl.1 rfl (lv_room (Nat.le_of_ble_eq_true rfl)) dL_law_348 ⟨Nat.le_of_ble_eq_true rfl, Nat.le_of_ble_eq_true rfl⟩) hS (fun x _ h => hqA x h) hqA (fun r9 u t H1 locs ht hvm hw hB hz1 hk1 hS => ?_)
  obtain ⟨rfl, rfl⟩ := hw
  rw [ht] at hB
  have hP : va_P D vwCl (CUW cI cJ q (fu (fu I 2 x.2.1) 3 x.2.2) J a b) H1 := hB
  have hP2 := hP2.kept (fun k z hz => hk1 z.1 (hP2 k z hz).lt (fun h => hdis _ h (by obtain ⟨a1, a2⟩ := MUW_at k z hz; exact ⟨k, a1, a2⟩)))
  clear hB hz1 hk1 ht hvm
  generalize H1 = H at hP hP2 hS ⊢
  refine lv_aload_n hx hb dL_law_351 rfl (lv_at hl 2 rfl) ?_
  refine va_calli (va_runV (As := []) (rest := [.int x.1]) ⟨hx, hb, hml, hown, hts⟩ (c_X7_forget l D dI dJ dZ r hr0 F I2 J2 a2 b2 y hy1) (cwV 0 hts gT_law_X7_forget rfl rfl rfl (by decide +kernel) ⟨Nat.le_of_ble_eq_true rfl, Nat.le_of_ble_eq_true rfl⟩) ⟨MUPc_blind, va_recv hK2 hP2 (ci := 7) (q0 := 0) rfl rfl, fun U hU hW => ⟨rfl, by rw [hU]; exact hP2, va_K.moved hW.alike hK2, trivial⟩⟩ rfl rfl hl.1 rfl (lv_room (Nat.le_of_ble_eq_true rfl)) dL_law_352 ⟨Nat.le_of_ble_eq_true rfl, Nat.le_of_ble_eq_true rfl⟩) hS (fun x _ h => hrA x h) hrA (fun r9 u t H1 locs ht hvm hw hB hz1 hk1 hS => ?_)
  obtain ⟨rfl, rfl⟩ := hw
  rw [ht] at hB
  have hP2 : va_P D vwCl (MUW dI dJ dZ r (fu (fu I2 5 y.2.1) 6 y.2.2) J2 a2 b2) H1 := hB
  have hP := hP.kept (fun k z hz => hk1 z.1 (hP k z hz).lt (fun h => hdis z.1 (by obtain ⟨a1, a2⟩ := CUW_at k z hz; exact ⟨k, a1, a2⟩) h))
  clear hB hz1 hk1 ht hvm
  generalize H1 = H at hP hP2 hS ⊢
  refine lv_icmp_eq (tgt := 609) hx hb dL_law_355 (by decide) (fun ce => ?_) (fun ce => ?_)
  · exact NEXT (fu (fu I 2 x.2.1) 3 x.2.2) J a b (fu (fu I2 5 y.2.1) 6 y.2.2) J2 a2 b2 hRel2 _ _ hP hP2 hS
  · exact absurd he ce
set_option maxHeartbeats 4000000 in
set_option maxRecDepth 100000 in
theorem law_c_conflict {p : Program} {l : Launch} {e : Env} {s : State} {m : MethodId} {below : List Frame} {meth : Method} {c : Code} {D : va_G} {cI cJ dI dJ dZ : ClassId} {q r : Nat → Nat} {bb L : Nat} {xs : Nat → Int32} (hL : L ≤ 2048) (C0 : lw_At p s m meth c bb L xs)
    (hq : CUQ q) (hr0 : MUQ r) (hqA : ∀ x, CUA q x → s.heap.size ≤ x) (hrA : ∀ x, MUA r x → s.heap.size ≤ x) (hdis : ∀ x, CUA q x → ¬ MUA r x)
    (hK : va_K D vwCl [(cI, .int), (cJ, .long)] s) (hK2 : va_K D vwCl [(dI, .int), (dJ, .long), (dZ, .boolean)] s) (hN : va_Nw (.methodLinkNest RX0 90 yX6_literalsIn "LearnedReasons") s)
    (F : Nat) (Rel : RelT) (h_conflict : op_conflict F Rel) {i : Nat} (hin : i + 4 ≤ L) {ls : Array Slot} (hl : lv_has ls 4 [(0, .ref bb), (1, .ref (q 0)), (2, .ref (r 0)), (3, .int (nI i))]) (NEXT : ∀ (I : Nat → Int32) (J : Nat → Int64) (a : Nat → Nat → Int32) (b : Nat → Nat → Int64) (I2 : Nat → Int32) (J2 : Nat → Int64) (a2 : Nat → Nat → Int32) (b2 : Nat → Nat → Int64), Rel I J a b I2 J2 a2 b2 → ∀ (H : Heap) (locs : List Loc), va_P D vwCl (CUW cI cJ q I J a b) H → va_P D vwCl (MUW dI dJ dZ r I2 J2 a2 b2) H → va_S (fun x : Nat => s.heap.size ≤ x) s.heap H locs → W p l e room_1 s m #[Value.ref bb] below meth c H locs 32 64181 (lw_Z below #[Value.ref bb] s) (F0 m 609 ls [])) : ∀ (I : Nat → Int32) (J : Nat → Int64) (a : Nat → Nat → Int32) (b : Nat → Nat → Int64) (I2 : Nat → Int32) (J2 : Nat → Int64) (a2 : Nat → Nat → Int32) (b2 : Nat → Nat → Int64), Rel I J a b I2 J2 a2 b2 → ∀ (H : Heap) (locs : List Loc), va_P D vwCl (CUW cI cJ q I J a b) H → va_P D vwCl (MUW dI dJ dZ r I2 J2 a2 b2) H → va_S (fun x : Nat => s.heap.size ≤ x) s.heap H locs → W p l e room_1 s m #[Value.ref bb] below meth c H locs 32 64181 (lw_Z below #[Value.ref bb] s) (F0 m 360 ls []) := by
  obtain ⟨hx, hb, hr, hml, hown, hts, hX, hbl, hlocks, hgv⟩ := id C0
  have hown : s.vm.findClass RL = some m.cls := hown
  have hbA : ¬ (fun x : Nat => s.heap.size ≤ x) bb := Nat.not_le.mpr hbl
  have e1 : nI i + 1 = nI (i + 1) := nI_add i 1
  have e2 : nI i + 2 = nI (i + 2) := nI_add i 2
  have e3 : nI i + 3 = nI (i + 3) := nI_add i 3
  have g1 : vp_in (nI i + 1) L := by rw [e1]; exact vp_in_nI (by omega) (by omega)
  have g2 : vp_in (nI i + 2) L := by rw [e2]; exact vp_in_nI (by omega) (by omega)
  have g3 : vp_in (nI i + 3) L := by rw [e3]; exact vp_in_nI (by omega) (by omega)
  intro I J a b I2 J2 a2 b2 hRel H locs hP hP2 hS
  obtain ⟨x, y, hx1, hy1, he, hRel2⟩ := h_conflict I J a b I2 J2 a2 b2 hRel
  refine lv_aload_n hx hb dL_law_360 rfl (lv_at hl 1 rfl) ?_
  refine va_calli (va_runV (As := []) (rest := []) ⟨hx, hb, hml, hown, hts⟩ (c_X6_conflict l D cI cJ q hq F I J a b x hx1) (cwV 0 hts gT_law_X6_conflict rfl rfl rfl (by decide +kernel) ⟨Nat.le_of_ble_eq_true rfl, Nat.le_of_ble_eq_true rfl⟩) ⟨CUPc_blind, va_recv hK hP (ci := 6) (q0 := 0) rfl rfl, fun U hU hW => ⟨rfl, by rw [hU]; exact hP, va_K.moved hW.alike hK, va_Nw.warmM hW hN⟩⟩ rfl rfl hl.1 rfl (lv_room (Nat.le_of_ble_eq_true rfl)) dL_law_361 ⟨Nat.le_of_ble_eq_true rfl, Nat.le_of_ble_eq_true rfl⟩) hS (fun x _ h => hqA x h) hqA (fun r9 u t H1 locs ht hvm hw hB hz1 hk1 hS => ?_)
  obtain ⟨rfl, rfl⟩ := hw
  rw [ht] at hB
  have hP : va_P D vwCl (CUW cI cJ q (fu (fu (fu I 8 x.2.1) 9 x.2.2.1) 10 x.2.2.2) J a b) H1 := hB
  have hP2 := hP2.kept (fun k z hz => hk1 z.1 (hP2 k z hz).lt (fun h => hdis _ h (by obtain ⟨a1, a2⟩ := MUW_at k z hz; exact ⟨k, a1, a2⟩)))
  clear hB hz1 hk1 ht hvm
  generalize H1 = H at hP hP2 hS ⊢
  refine lv_aload_n hx hb dL_law_364 rfl (lv_at hl 2 rfl) ?_
  refine va_calli (va_runV (As := []) (rest := [.int x.1]) ⟨hx, hb, hml, hown, hts⟩ (c_X7_conflict l D dI dJ dZ r hr0 F I2 J2 a2 b2 y hy1) (cwV 0 hts gT_law_X7_conflict rfl rfl rfl (by decide +kernel) ⟨Nat.le_of_ble_eq_true rfl, Nat.le_of_ble_eq_true rfl⟩) ⟨MUPc_blind, va_recv hK2 hP2 (ci := 7) (q0 := 0) rfl rfl, fun U hU hW => ⟨rfl, by rw [hU]; exact hP2, va_K.moved hW.alike hK2, trivial⟩⟩ rfl rfl hl.1 rfl (lv_room (Nat.le_of_ble_eq_true rfl)) dL_law_365 ⟨Nat.le_of_ble_eq_true rfl, Nat.le_of_ble_eq_true rfl⟩) hS (fun x _ h => hrA x h) hrA (fun r9 u t H1 locs ht hvm hw hB hz1 hk1 hS => ?_)
  obtain ⟨rfl, rfl⟩ := hw
  rw [ht] at hB
  have hP2 : va_P D vwCl (MUW dI dJ dZ r (fu (fu (fu I2 10 y.2.1) 11 y.2.2.1) 12 y.2.2.2) J2 a2 b2) H1 := hB
  have hP := hP.kept (fun k z hz => hk1 z.1 (hP k z hz).lt (fun h => hdis z.1 (by obtain ⟨a1, a2⟩ := CUW_at k z hz; exact ⟨k, a1, a2⟩) h))
  clear hB hz1 hk1 ht hvm
  generalize H1 = H at hP hP2 hS ⊢
  refine lv_icmp_eq (tgt := 609) hx hb dL_law_368 (by decide) (fun ce => ?_) (fun ce => ?_)
  · exact NEXT (fu (fu (fu I 8 x.2.1) 9 x.2.2.1) 10 x.2.2.2) J a b (fu (fu (fu I2 10 y.2.1) 11 y.2.2.1) 12 y.2.2.2) J2 a2 b2 hRel2 _ _ hP hP2 hS
  · exact absurd he ce
