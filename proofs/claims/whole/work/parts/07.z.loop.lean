set_option maxHeartbeats 8000000 in
set_option maxRecDepth 100000 in
theorem law_loop {p : Program} {l : Launch} {e : Env} {s : State} {m : MethodId} {below : List Frame} {meth : Method} {c : Code} {D : va_G} {cI cJ dI dJ dZ : ClassId} {q r : Nat → Nat} {bb L : Nat} {xs : Nat → Int32} (hL : L ≤ 2048) (C0 : lw_At p s m meth c bb L xs)
    (hq : CUQ q) (hr0 : MUQ r) (hqA : ∀ x, CUA q x → s.heap.size ≤ x) (hrA : ∀ x, MUA r x → s.heap.size ≤ x) (hdis : ∀ x, CUA q x → ¬ MUA r x)
    (hK : va_K D vwCl [(cI, .int), (cJ, .long)] s) (hK2 : va_K D vwCl [(dI, .int), (dJ, .long), (dZ, .boolean)] s) (hN : va_Nw (.methodLinkNest RX0 90 yX6_literalsIn "LearnedReasons") s)
    (F : Nat) (Rel : RelT) (h_name : op_name F Rel) (h_literal : op_literal F Rel) (h_clause : op_clause F Rel) (h_row : op_row F Rel) (h_weight : op_weight F Rel) (h_drop : op_drop F Rel) (h_cost : op_cost F Rel) (h_clear : op_clear F Rel) (h_assume : op_assume F Rel) (h_forget : op_forget F Rel) (h_conflict : op_conflict F Rel) (h_known : op_known F Rel) (h_lemma : op_lemma F Rel) (h_lemmas : op_lemmas F Rel) (h_search : op_search F Rel) (h_value : op_value F Rel) (h_told : op_told F Rel) (h_learned : op_learned F Rel) (h_count : op_count F Rel) (h_fixed : op_fixed F Rel) (h_best : op_best F Rel) (h_bestValue : op_bestValue F Rel) (h_core : op_core F Rel) :
    ∀ (n i : Nat) (I : Nat → Int32) (J : Nat → Int64) (a : Nat → Nat → Int32) (b : Nat → Nat → Int64) (I2 : Nat → Int32) (J2 : Nat → Int64) (a2 : Nat → Nat → Int32) (b2 : Nat → Nat → Int64), i ≤ L + 4 → L + 4 ≤ i + n → Rel I J a b I2 J2 a2 b2 → ∀ (H : Heap) (locs : List Loc), va_P D vwCl (CUW cI cJ q I J a b) H → va_P D vwCl (MUW dI dJ dZ r I2 J2 a2 b2) H → va_S (fun x : Nat => s.heap.size ≤ x) s.heap H locs → ∀ (ls : Array Slot), lv_has ls 4 [(0, .ref bb), (1, .ref (q 0)), (2, .ref (r 0)), (3, .int (nI i))] → W p l e room_1 s m #[Value.ref bb] below meth c H locs 32 64181 (lw_Z below #[Value.ref bb] s) (F0 m 18 ls []) := by
  obtain ⟨hx, hb, hr, hml, hown, hts, hX, hbl, hlocks, hgv⟩ := id C0
  have hown : s.vm.findClass RL = some m.cls := hown
  have hbA : ¬ (fun x : Nat => s.heap.size ≤ x) bb := Nat.not_le.mpr hbl
  intro n
  induction n with
  | zero =>
    intro i I J a b I2 J2 a2 b2 h0 h1 hRel H locs hP hP2 hS ls hl
    have hend : ¬ i + 4 ≤ L := by omega
    refine lv_iload_n hx hb dL_law_18 rfl (lv_at hl 3 rfl) ?_
    refine lv_aload_n hx hb dL_law_19 rfl (lv_at hl 0 rfl) ?_
    refine va_slen hx hb hX hbl hbA hS dL_law_20 ?_
    refine lv_iconst (v := 4) hx hb dL_law_21 (by decide) ?_
    refine lv_isub hx hb dL_law_22 ?_
    refine lv_icmp_gt (tgt := 615) hx hb dL_law_23 (by decide) (fun ce => ?_) (fun ce => ?_)
    · refine lv_iconst (v := 1) hx hb dL_law_615 (by decide) ?_
      refine va_forget (fun x h => hS.2.2 x h) ?_
      exact lw_ret hx hb hr hlocks dL_law_616
    · exact absurd (law_end hL hend (by omega)) ce
  | succ n ih =>
    intro i I J a b I2 J2 a2 b2 h0 h1 hRel H locs hP hP2 hS ls hl
    rcases Nat.lt_or_ge L (i + 4) with hend | hin
    · have hend : ¬ i + 4 ≤ L := by omega
      refine lv_iload_n hx hb dL_law_18 rfl (lv_at hl 3 rfl) ?_
      refine lv_aload_n hx hb dL_law_19 rfl (lv_at hl 0 rfl) ?_
      refine va_slen hx hb hX hbl hbA hS dL_law_20 ?_
      refine lv_iconst (v := 4) hx hb dL_law_21 (by decide) ?_
      refine lv_isub hx hb dL_law_22 ?_
      refine lv_icmp_gt (tgt := 615) hx hb dL_law_23 (by decide) (fun ce => ?_) (fun ce => ?_)
      · refine lv_iconst (v := 1) hx hb dL_law_615 (by decide) ?_
        refine va_forget (fun x h => hS.2.2 x h) ?_
        exact lw_ret hx hb hr hlocks dL_law_616
      · exact absurd (law_end hL hend (by omega)) ce
    have g0 : vp_in (nI i) L := vp_in_nI (by omega) (by omega)
    have NEXT : ∀ (I : Nat → Int32) (J : Nat → Int64) (a : Nat → Nat → Int32) (b : Nat → Nat → Int64) (I2 : Nat → Int32) (J2 : Nat → Int64) (a2 : Nat → Nat → Int32) (b2 : Nat → Nat → Int64), Rel I J a b I2 J2 a2 b2 → ∀ (H : Heap) (locs : List Loc), va_P D vwCl (CUW cI cJ q I J a b) H → va_P D vwCl (MUW dI dJ dZ r I2 J2 a2 b2) H → va_S (fun x : Nat => s.heap.size ≤ x) s.heap H locs → W p l e room_1 s m #[Value.ref bb] below meth c H locs 32 64181 (lw_Z below #[Value.ref bb] s) (F0 m 609 ls []) := by
      intro I J a b I2 J2 a2 b2 hRel H locs hP hP2 hS
      refine lv_iinc (v := nI (i + 4)) (lv' := [(3, .int (nI (i + 4))), (0, .ref bb), (1, .ref (q 0)), (2, .ref (r 0))]) hx hb dL_law_609 hl (k := 3) rfl (nI_add i 4) (by decide) rfl (fun ls hl => ?_)
      refine lv_goto (tgt := 18) hx hb dL_law_612 (by decide) ?_
      exact ih (i + 4) I J a b I2 J2 a2 b2 (by omega) (by omega) hRel _ _ hP hP2 hS ls (lv_sub hl [1, 2, 3, 0] rfl)
    refine lv_iload_n hx hb dL_law_18 rfl (lv_at hl 3 rfl) ?_
    refine lv_aload_n hx hb dL_law_19 rfl (lv_at hl 0 rfl) ?_
    refine va_slen hx hb hX hbl hbA hS dL_law_20 ?_
    refine lv_iconst (v := 4) hx hb dL_law_21 (by decide) ?_
    refine lv_isub hx hb dL_law_22 ?_
    refine lv_icmp_gt (tgt := 615) hx hb dL_law_23 (by decide) (fun ce => ?_) (fun ce => ?_)
    · exact absurd ce (law_on hL hin)
    refine lv_aload_n hx hb dL_law_26 rfl (lv_at hl 0 rfl) ?_
    refine lv_iload_n hx hb dL_law_27 rfl (lv_at hl 3 rfl) ?_
    refine va_sld hx hb hX hbl hbA hS g0 dL_law_28 ?_
    refine lv_bipush (v := 31) hx hb dL_law_29 (by decide) ?_
    refine lv_iand hx hb dL_law_31 ?_
    generalize hop : (xs (nI i).toNatClampNeg &&& 31) = op
    rcases Classical.em (op = 0) with c0 | c0
    · refine lv_tableIn (off := 108) (tgt := 140) hx hb dL_law_32 (by rw [c0]; decide) (by rw [c0]; decide) (by rw [c0]; decide) (by decide) ?_
      exact law_c_name hL C0 hq hr0 hqA hrA hdis hK hK2 hN F Rel h_name hin hl NEXT I J a b I2 J2 a2 b2 hRel _ _ hP hP2 hS
    rcases Classical.em (op = 1) with c1 | c1
    · refine lv_tableIn (off := 121) (tgt := 153) hx hb dL_law_32 (by rw [c1]; decide) (by rw [c1]; decide) (by rw [c1]; decide) (by decide) ?_
      exact law_c_literal hL C0 hq hr0 hqA hrA hdis hK hK2 hN F Rel h_literal hin hl NEXT I J a b I2 J2 a2 b2 hRel _ _ hP hP2 hS
    rcases Classical.em (op = 2) with c2 | c2
    · refine lv_tableIn (off := 144) (tgt := 176) hx hb dL_law_32 (by rw [c2]; decide) (by rw [c2]; decide) (by rw [c2]; decide) (by decide) ?_
      exact law_c_clause hL C0 hq hr0 hqA hrA hdis hK hK2 hN F Rel h_clause hin hl NEXT I J a b I2 J2 a2 b2 hRel _ _ hP hP2 hS
    rcases Classical.em (op = 3) with c3 | c3
    · refine lv_tableIn (off := 157) (tgt := 189) hx hb dL_law_32 (by rw [c3]; decide) (by rw [c3]; decide) (by rw [c3]; decide) (by decide) ?_
      exact law_c_row hL C0 hq hr0 hqA hrA hdis hK hK2 hN F Rel h_row hin hl NEXT I J a b I2 J2 a2 b2 hRel _ _ hP hP2 hS
    rcases Classical.em (op = 4) with c4 | c4
    · refine lv_tableIn (off := 180) (tgt := 212) hx hb dL_law_32 (by rw [c4]; decide) (by rw [c4]; decide) (by rw [c4]; decide) (by decide) ?_
      exact law_c_weight hL C0 hq hr0 hqA hrA hdis hK hK2 hN F Rel h_weight hin hl NEXT I J a b I2 J2 a2 b2 hRel _ _ hP hP2 hS
    rcases Classical.em (op = 5) with c5 | c5
    · refine lv_tableIn (off := 223) (tgt := 255) hx hb dL_law_32 (by rw [c5]; decide) (by rw [c5]; decide) (by rw [c5]; decide) (by decide) ?_
      exact law_c_drop hL C0 hq hr0 hqA hrA hdis hK hK2 hN F Rel h_drop hin hl NEXT I J a b I2 J2 a2 b2 hRel _ _ hP hP2 hS
    rcases Classical.em (op = 6) with c6 | c6
    · refine lv_tableIn (off := 246) (tgt := 278) hx hb dL_law_32 (by rw [c6]; decide) (by rw [c6]; decide) (by rw [c6]; decide) (by decide) ?_
      exact law_c_cost hL C0 hq hr0 hqA hrA hdis hK hK2 hN F Rel h_cost hin hl NEXT I J a b I2 J2 a2 b2 hRel _ _ hP hP2 hS
    rcases Classical.em (op = 7) with c7 | c7
    · refine lv_tableIn (off := 279) (tgt := 311) hx hb dL_law_32 (by rw [c7]; decide) (by rw [c7]; decide) (by rw [c7]; decide) (by decide) ?_
      exact law_c_clear hL C0 hq hr0 hqA hrA hdis hK hK2 hN F Rel h_clear hin hl NEXT I J a b I2 J2 a2 b2 hRel _ _ hP hP2 hS
    rcases Classical.em (op = 8) with c8 | c8
    · refine lv_tableIn (off := 292) (tgt := 324) hx hb dL_law_32 (by rw [c8]; decide) (by rw [c8]; decide) (by rw [c8]; decide) (by decide) ?_
      exact law_c_assume hL C0 hq hr0 hqA hrA hdis hK hK2 hN F Rel h_assume hin hl NEXT I J a b I2 J2 a2 b2 hRel _ _ hP hP2 hS
    rcases Classical.em (op = 9) with c9 | c9
    · refine lv_tableIn (off := 315) (tgt := 347) hx hb dL_law_32 (by rw [c9]; decide) (by rw [c9]; decide) (by rw [c9]; decide) (by decide) ?_
      exact law_c_forget hL C0 hq hr0 hqA hrA hdis hK hK2 hN F Rel h_forget hin hl NEXT I J a b I2 J2 a2 b2 hRel _ _ hP hP2 hS
    rcases Classical.em (op = 10) with c10 | c10
    · refine lv_tableIn (off := 328) (tgt := 360) hx hb dL_law_32 (by rw [c10]; decide) (by rw [c10]; decide) (by rw [c10]; decide) (by decide) ?_
      exact law_c_conflict hL C0 hq hr0 hqA hrA hdis hK hK2 hN F Rel h_conflict hin hl NEXT I J a b I2 J2 a2 b2 hRel _ _ hP hP2 hS
    rcases Classical.em (op = 11) with c11 | c11
    · refine lv_tableIn (off := 341) (tgt := 373) hx hb dL_law_32 (by rw [c11]; decide) (by rw [c11]; decide) (by rw [c11]; decide) (by decide) ?_
      exact law_c_known hL C0 hq hr0 hqA hrA hdis hK hK2 hN F Rel h_known hin hl NEXT I J a b I2 J2 a2 b2 hRel _ _ hP hP2 hS
    rcases Classical.em (op = 12) with c12 | c12
    · refine lv_tableIn (off := 364) (tgt := 396) hx hb dL_law_32 (by rw [c12]; decide) (by rw [c12]; decide) (by rw [c12]; decide) (by decide) ?_
      exact law_c_lemma hL C0 hq hr0 hqA hrA hdis hK hK2 hN F Rel h_lemma hin hl NEXT I J a b I2 J2 a2 b2 hRel _ _ hP hP2 hS
    rcases Classical.em (op = 13) with c13 | c13
    · refine lv_tableIn (off := 377) (tgt := 409) hx hb dL_law_32 (by rw [c13]; decide) (by rw [c13]; decide) (by rw [c13]; decide) (by decide) ?_
      exact law_c_lemmas hL C0 hq hr0 hqA hrA hdis hK hK2 hN F Rel h_lemmas hin hl NEXT I J a b I2 J2 a2 b2 hRel _ _ hP hP2 hS
    rcases Classical.em (op = 14) with c14 | c14
    · refine lv_tableIn (off := 390) (tgt := 422) hx hb dL_law_32 (by rw [c14]; decide) (by rw [c14]; decide) (by rw [c14]; decide) (by decide) ?_
      exact law_c_search hL C0 hq hr0 hqA hrA hdis hK hK2 hN F Rel h_search hin hl NEXT I J a b I2 J2 a2 b2 hRel _ _ hP hP2 hS
    rcases Classical.em (op = 15) with c15 | c15
    · refine lv_tableIn (off := 403) (tgt := 435) hx hb dL_law_32 (by rw [c15]; decide) (by rw [c15]; decide) (by rw [c15]; decide) (by decide) ?_
      exact law_c_value hL C0 hq hr0 hqA hrA hdis hK hK2 hN F Rel h_value hin hl NEXT I J a b I2 J2 a2 b2 hRel _ _ hP hP2 hS
    rcases Classical.em (op = 16) with c16 | c16
    · refine lv_tableIn (off := 426) (tgt := 458) hx hb dL_law_32 (by rw [c16]; decide) (by rw [c16]; decide) (by rw [c16]; decide) (by decide) ?_
      exact law_c_told hL C0 hq hr0 hqA hrA hdis hK hK2 hN F Rel h_told hin hl NEXT I J a b I2 J2 a2 b2 hRel _ _ hP hP2 hS
    rcases Classical.em (op = 17) with c17 | c17
    · refine lv_tableIn (off := 449) (tgt := 481) hx hb dL_law_32 (by rw [c17]; decide) (by rw [c17]; decide) (by rw [c17]; decide) (by decide) ?_
      exact law_c_learned hL C0 hq hr0 hqA hrA hdis hK hK2 hN F Rel h_learned hin hl NEXT I J a b I2 J2 a2 b2 hRel _ _ hP hP2 hS
    rcases Classical.em (op = 18) with c18 | c18
    · refine lv_tableIn (off := 482) (tgt := 514) hx hb dL_law_32 (by rw [c18]; decide) (by rw [c18]; decide) (by rw [c18]; decide) (by decide) ?_
      exact law_c_count hL C0 hq hr0 hqA hrA hdis hK hK2 hN F Rel h_count hin hl NEXT I J a b I2 J2 a2 b2 hRel _ _ hP hP2 hS
    rcases Classical.em (op = 19) with c19 | c19
    · refine lv_tableIn (off := 495) (tgt := 527) hx hb dL_law_32 (by rw [c19]; decide) (by rw [c19]; decide) (by rw [c19]; decide) (by decide) ?_
      exact law_c_fixed hL C0 hq hr0 hqA hrA hdis hK hK2 hN F Rel h_fixed hin hl NEXT I J a b I2 J2 a2 b2 hRel _ _ hP hP2 hS
    rcases Classical.em (op = 20) with c20 | c20
    · refine lv_tableIn (off := 518) (tgt := 550) hx hb dL_law_32 (by rw [c20]; decide) (by rw [c20]; decide) (by rw [c20]; decide) (by decide) ?_
      exact law_c_best hL C0 hq hr0 hqA hrA hdis hK hK2 hN F Rel h_best hin hl NEXT I J a b I2 J2 a2 b2 hRel _ _ hP hP2 hS
    rcases Classical.em (op = 21) with c21 | c21
    · refine lv_tableIn (off := 531) (tgt := 563) hx hb dL_law_32 (by rw [c21]; decide) (by rw [c21]; decide) (by rw [c21]; decide) (by decide) ?_
      exact law_c_bestValue hL C0 hq hr0 hqA hrA hdis hK hK2 hN F Rel h_bestValue hin hl NEXT I J a b I2 J2 a2 b2 hRel _ _ hP hP2 hS
    rcases Classical.em (op = 22) with c22 | c22
    · refine lv_tableIn (off := 554) (tgt := 586) hx hb dL_law_32 (by rw [c22]; decide) (by rw [c22]; decide) (by rw [c22]; decide) (by decide) ?_
      exact law_c_core hL C0 hq hr0 hqA hrA hdis hK hK2 hN F Rel h_core hin hl NEXT I J a b I2 J2 a2 b2 hRel _ _ hP hP2 hS
    have nc0 : ¬ op.toInt = 0 := fun e9 => c0 (Int32.toInt_inj.mp e9)
    have nc1 : ¬ op.toInt = 1 := fun e9 => c1 (Int32.toInt_inj.mp e9)
    have nc2 : ¬ op.toInt = 2 := fun e9 => c2 (Int32.toInt_inj.mp e9)
    have nc3 : ¬ op.toInt = 3 := fun e9 => c3 (Int32.toInt_inj.mp e9)
    have nc4 : ¬ op.toInt = 4 := fun e9 => c4 (Int32.toInt_inj.mp e9)
    have nc5 : ¬ op.toInt = 5 := fun e9 => c5 (Int32.toInt_inj.mp e9)
    have nc6 : ¬ op.toInt = 6 := fun e9 => c6 (Int32.toInt_inj.mp e9)
    have nc7 : ¬ op.toInt = 7 := fun e9 => c7 (Int32.toInt_inj.mp e9)
    have nc8 : ¬ op.toInt = 8 := fun e9 => c8 (Int32.toInt_inj.mp e9)
    have nc9 : ¬ op.toInt = 9 := fun e9 => c9 (Int32.toInt_inj.mp e9)
    have nc10 : ¬ op.toInt = 10 := fun e9 => c10 (Int32.toInt_inj.mp e9)
    have nc11 : ¬ op.toInt = 11 := fun e9 => c11 (Int32.toInt_inj.mp e9)
    have nc12 : ¬ op.toInt = 12 := fun e9 => c12 (Int32.toInt_inj.mp e9)
    have nc13 : ¬ op.toInt = 13 := fun e9 => c13 (Int32.toInt_inj.mp e9)
    have nc14 : ¬ op.toInt = 14 := fun e9 => c14 (Int32.toInt_inj.mp e9)
    have nc15 : ¬ op.toInt = 15 := fun e9 => c15 (Int32.toInt_inj.mp e9)
    have nc16 : ¬ op.toInt = 16 := fun e9 => c16 (Int32.toInt_inj.mp e9)
    have nc17 : ¬ op.toInt = 17 := fun e9 => c17 (Int32.toInt_inj.mp e9)
    have nc18 : ¬ op.toInt = 18 := fun e9 => c18 (Int32.toInt_inj.mp e9)
    have nc19 : ¬ op.toInt = 19 := fun e9 => c19 (Int32.toInt_inj.mp e9)
    have nc20 : ¬ op.toInt = 20 := fun e9 => c20 (Int32.toInt_inj.mp e9)
    have nc21 : ¬ op.toInt = 21 := fun e9 => c21 (Int32.toInt_inj.mp e9)
    have nc22 : ¬ op.toInt = 22 := fun e9 => c22 (Int32.toInt_inj.mp e9)
    refine lv_tableOut (tgt := 609) hx hb dL_law_32 (by omega) (by decide) ?_
    exact NEXT I J a b I2 J2 a2 b2 hRel _ _ hP hP2 hS
