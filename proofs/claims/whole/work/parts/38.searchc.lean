/-! THE SEARCH in the class: the loop -/
theorem gz_1 {β : Type} (k : Option β) : gz 1 k = k := if_pos (Or.inr rfl)
theorem gz_0 {β : Type} (k : Option β) : gz 0 k = k := if_pos (Or.inl rfl)
theorem n_1e6 {st : Nat} (h : st < 1000000) : ¬ (1000000 : Int32) ≤ nI st := nI_ge (b := 1000000) h (by decide)
theorem run_stop (F : Nat) {I : Nat → Int32} {J : Nat → Int64} {a : Nat → Nat → Int32} {b : Nat → Nat → Int64} {n : Nat} {v1 I7 I8 I9 I10 I12 I13 I14 I15 I16 : Int32} {a6 a7 : Nat → Int32} : k_X4_run_14 F I J a b (n + 1) v1 I7 I8 I9 I10 1 I12 I13 I14 I15 I16 a6 a7 = some (I7, I8, I9, I10, 1, I12, I13, I14, I15, I16, a6, a7) := by
  rw [k_X4_run_14, if_neg (show ¬ (1 : Int32) = 0 by decide), ite_self]
theorem run_c {F : Nat} (hF : 20000 ≤ F) {N G : Nat} {I : Nat → Int32} {J : Nat → Int64} {a : Nat → Nat → Int32} {b : Nat → Nat → Int64} (hwf : WfC N G I J a) (hw : wthn N (ClG G J a)) :
    ∀ (n m s : Nat) (c : Int32) (L : List Int32) (cf ch : Nat) (r : Res) (i8 i9 i10 : Int32) (a6 a7 : Nat → Int32), SRn N (ClG G J a) (RwC G J a) n c L cf ch r → SI N (ClG G J a) (RwC G J a) c L → Lrr a6 L → TabOk N L.length a6 a7 → s + n < 999990 → n + 1 ≤ m →
      ∃ T F' z c' a6' a7', k_X4_run_14 F I J a b m (nI s) (nI L.length) i8 i9 i10 0 0 0 (nI cf) (nI ch) c a6 a7 = some (nI r.2.2.2.2.length, T, F', z, 1, zf r.1, r.2.1, nI r.2.2.1, nI r.2.2.2.1, c', a6', a7') ∧ Lrr a6' r.2.2.2.2 ∧ (∀ x, x ∈ r.2.2.2.2 → sm N x) ∧ r.2.2.2.2.length ≤ 8191 := by
  intro n
  induction n with
  | zero =>
    intro m s c L cf ch r i8 i9 i10 a6 a7 h
    exact h.elim
  | succ n ih =>
    intro m s c L cf ch r i8 i9 i10 a6 a7 h hi h6 h7 hs hm
    obtain ⟨m, rfl⟩ : ∃ j, m = j + 1 := ⟨m - 1, by omega⟩
    obtain ⟨m', em⟩ : ∃ j, m = j + 1 := ⟨m - 1, by omega⟩
    have hN : N ≤ 14 := hwf.1
    have hl : L.length ≤ 8191 := Nat.le_trans hi.2.2.2.2.2 (brd_le L)
    have hsm := hi.2.1
    have hc := hi.1
    obtain ⟨T, F1, fl, e1, e2⟩ := orc_c (F := F) (by omega) (I := (fu (fu (fu (fu (fu (fu (fu (fu (fu (fu I 7 (nI L.length)) 8 i8) 9 i9) 10 i10) 11 0) 12 0) 13 0) 14 (nI cf)) 15 (nI ch)) 16 c)) (J := J) (a := (fu (fu a 6 a6) 7 a7)) (b := b) (N := N) (G := G) hwf (L := L) (by omega) rfl h6 h7 hsm hc
    have e2 : Orc N (ClG G J a) (RwC G J a) L c T F1 fl := e2
    rw [k_X4_run_14, if_neg (n_1e6 (show s < 1000000 by omega)), if_pos (show (0 : Int32) = 0 from rfl), e1]
    simp only [ob_s, nmI_s, nI_1]
    have z1 : ¬ zf true = 0 := by decide
    have z0 : zf false = 0 := rfl
    rcases h with ⟨x1, x2, x3⟩ | ⟨x1, x2, R, x3, x4⟩ | ⟨T', F', x1, x2, x3⟩ | ⟨T', F', k, x1, x2, x3⟩
    · rcases e2 with ⟨rfl, g⟩ | ⟨rfl, g⟩
      · subst x3
        rw [if_neg z1, if_pos x2, k_X4_run_73, gz_1, if_neg (show ¬ (1 : Int32) = 0 by decide), em, run_stop]
        exact ⟨T, F1, zf true, c, a6, a7, rfl, h6, hsm, hl⟩
      · exact absurd x1 g.not
    · rcases e2 with ⟨rfl, g⟩ | ⟨rfl, g⟩
      · rw [if_neg z1, if_neg x2, k_X4_run_73, gz_0, if_pos (show (0 : Int32) = 0 from rfl)]
        obtain ⟨R', T2, F2, z2, g1, g2⟩ := reason_loop F (N := N) (I := (fu (fu (fu (fu (fu (fu (fu (fu (fu (fu I 7 (nI L.length)) 8 T) 9 F1) 10 (zf true)) 11 0) 12 0) 13 0) 14 (nI (cf + 1))) 15 (nI ch)) 16 c)) (J := J) (a := (fu (fu a 6 a6) 7 a7)) (b := b) (Cl0 := (ClG G J a)) (Rw := (RwC G J a)) (L := L) (fun j8 j9 j10 c' hc' => orc_c (F := F) (by omega) (I := fu (fu (fu (fu (fu (fu (fu (fu (fu (fu (fu (fu (fu I 7 (nI L.length)) 8 T) 9 F1) 10 (zf true)) 11 0) 12 0) 13 0) 14 (nI (cf + 1))) 15 (nI ch)) 16 c) 8 j8) 9 j9) 10 j10) (J := J) (a := (fu (fu a 6 a6) 7 a7)) (b := b) (N := N) (G := G) hwf (L := L) (by omega) rfl h6 h7 hsm hc') 14 F c T F1 (zf true) (by omega) (by omega) hc
        obtain rfl := g2.uniq x3
        obtain ⟨y1, y2, y3⟩ := hi.learn hN x1 x2 x3
        have g3 : f_X4_reason F (fu (fu (fu (fu (fu (fu (fu (fu (fu (fu I 7 (nI L.length)) 8 T) 9 F1) 10 (zf true)) 11 0) 12 0) 13 0) 14 (nI (cf + 1))) 15 (nI ch)) 16 c) J (fu (fu a 6 a6) 7 a7) b = some (R', T2, F2, z2) := g1
        obtain ⟨a6', a7', g4, g5, g6⟩ := learn_c hF hN (I := (fu (fu (fu (fu (fu (fu (fu (fu (fu (fu I 7 (nI L.length)) 8 T2) 9 F2) 10 z2) 11 0) 12 0) 13 0) 14 (nI (cf + 1))) 15 (nI ch)) 16 c)) (J := J) (a := (fu (fu a 6 a6) 7 a7)) (b := b) hwf.2.2.1 (L := L) (by omega) rfl h6 h7 (c := c) (R := R') rfl y3
        rw [g3]
        simp only [ob_s]
        rw [g4]
        simp only [ob_s, nI_1]
        exact ih m (s + 1) (keep c R') (L ++ [R']) (cf + 1) ch r T2 F2 z2 a6' a7' x4 y1 g5 g6 (by omega) (by omega)
      · exact absurd x1 g.not
    · rcases e2 with ⟨rfl, g⟩ | ⟨rfl, g⟩
      · exact absurd g x1.not
      · obtain ⟨rfl, rfl⟩ := g.uniq x1
        have q := (choose_c F hN (I := (fu (fu (fu (fu (fu (fu (fu (fu (fu (fu I 7 (nI L.length)) 8 T) 9 F1) 10 (zf false)) 11 0) 12 0) 13 0) 14 (nI cf)) 15 (nI ch)) 16 c)) (J := J) (a := (fu (fu a 6 a6) 7 a7)) (b := b) hwf.2.2.1 (T := T) (F' := F1) rfl rfl).1 x2
        subst x3
        rw [if_pos z0, q]
        simp only [ob_s]
        rw [em, run_stop]
        exact ⟨T, F1, zf false, c, a6, a7, rfl, h6, hsm, hl⟩
    · rcases e2 with ⟨rfl, g⟩ | ⟨rfl, g⟩
      · exact absurd g x1.not
      · obtain ⟨rfl, rfl⟩ := g.uniq x1
        have q := (choose_c F hN (I := (fu (fu (fu (fu (fu (fu (fu (fu (fu (fu I 7 (nI L.length)) 8 T) 9 F1) 10 (zf false)) 11 0) 12 0) 13 0) 14 (nI cf)) 15 (nI ch)) 16 c)) (J := J) (a := (fu (fu a 6 a6) 7 a7)) (b := b) hwf.2.2.1 (T := T) (F' := F1) rfl rfl).2 k x2
        have q : f_X4_choose F (fu (fu (fu (fu (fu (fu (fu (fu (fu (fu I 7 (nI L.length)) 8 T) 9 F1) 10 (zf false)) 11 0) 12 0) 13 0) 14 (nI cf)) 15 (nI ch)) 16 c) J (fu (fu a 6 a6) 7 a7) b = some (0, 0, 0, nI (ch + 1), c ||| one k) := q.trans (by rw [← nI_1]; rfl)
        rw [if_pos z0, q]
        simp only [ob_s]
        exact ih m (s + 1) (c ||| one k) L cf (ch + 1) r T F1 (zf false) a6 a7 x3 (hi.choose hN hw x1 x2).1 h6 h7 (by omega) (by omega)
theorem fill7_c (F : Nat) {I : Nat → Int32} {J : Nat → Int64} {a : Nat → Nat → Int32} {b : Nat → Nat → Int64} :
    ∀ (m n i : Nat) (C : Nat → Int32), i ≤ 512 → 512 - i = m → m < n → (∀ j, j < i → C j = 0) → ∃ C', k_J7_fill_53178_c14_5 F I J a b n 0 (nI i) 512 C = some C' ∧ ∀ j, j < 512 → C' j = 0 := by
  intro m
  induction m with
  | zero =>
    intro n i C h1 h2 h3 h4
    obtain ⟨n, rfl⟩ : ∃ j, n = j + 1 := ⟨n - 1, by omega⟩
    have : i = 512 := by omega
    subst this
    rw [k_J7_fill_53178_c14_5, if_pos (by decide)]
    exact ⟨C, rfl, h4⟩
  | succ m ih =>
    intro n i C h1 h2 h3 h4
    obtain ⟨n, rfl⟩ : ∃ j, n = j + 1 := ⟨n - 1, by omega⟩
    rw [k_J7_fill_53178_c14_5, if_neg (by
      show ¬ nI 512 ≤ nI i
      rw [nI_leI (by decide) (by omega)]
      omega), gd_nI (by omega) (by decide), nI_clamp (by omega), nI_1]
    refine ih n (i + 1) (upd C i 0) (by omega) (by omega) (by omega) (fun j hj => ?_)
    by_cases e : j = i
    · rw [e, pk_us]
    · rw [pk_un e]
      exact h4 j (by omega)
theorem removeAll_c {F : Nat} (hF : 20000 ≤ F) {N : Nat} (hN : N ≤ 14) {I : Nat → Int32} {J : Nat → Int64} {a : Nat → Nat → Int32} {b : Nat → Nat → Int64} (A : Nat → Int32) : ∃ t, f_X1_removeAll F I J a b = some (0, t) ∧ TabOk N 0 A t := by
  obtain ⟨t, e1, e2⟩ := fill7_c F (I := fu I 7 0) (J := J) (a := a) (b := b) 512 F 0 (a 7) (by omega) (by omega) (by omega) (fun j hj => absurd hj (by omega))
  refine ⟨t, ?_, fun m hm => ?_⟩
  · unfold f_X1_removeAll f_J7_fill_53178_c14
    have e1 : k_J7_fill_53178_c14_5 F (fu I 7 0) J a b F 0 0 512 (a 7) = some t := e1
    rw [e1, ob_s]
  · have h1 : m < 16384 := Nat.lt_of_lt_of_le hm (Nat.le_trans (Nat.pow_le_pow_right (by decide) hN) (by decide))
    have : BT t m = false := by
      unfold BT
      rw [e2 (m / 32) (by omega), b_0]
    rw [this]
    constructor
    · intro x
      cases x
    · rintro ⟨k, hk, -⟩
      omega
/-- the search that the class has run, from the state in which nothing is known -/
theorem search_c {F : Nat} (hF : 2000000 ≤ F) {N G : Nat} {I : Nat → Int32} {J : Nat → Int64} {a : Nat → Nat → Int32} {b : Nat → Nat → Int64} (hwf : WfC N G I J a) (hw : wthn N (ClG G J a)) {r : Res} (h : SRn N (ClG G J a) (RwC G J a) 131100 0 [] 0 0 r) (h11 : I 11 = 0) :
    ∃ T F' z c' a6' a7', f_X4_run F I J a b = some (nI r.2.2.2.2.length, T, F', z, 1, zf r.1, r.2.1, nI r.2.2.1, nI r.2.2.2.1, c', a6', a7') ∧ Lrr a6' r.2.2.2.2 ∧ (∀ x, x ∈ r.2.2.2.2 → sm N x) ∧ r.2.2.2.2.length ≤ 8191 := by
  obtain ⟨t, e1, e2⟩ := removeAll_c (F := F) (by omega) hwf.1 (I := I) (J := J) (a := a) (b := b) (a 6)
  unfold f_X4_run f_X4_start
  rw [if_pos h11, e1]
  simp only [ob_s]
  rw [h11]
  exact run_c (F := F) (by omega) (b := b) hwf hw 131100 F 0 0 [] 0 0 r (I 8) (I 9) (I 10) (a 6) t h SI.start (fun k hk => absurd hk (Nat.not_lt_zero k)) e2 (by decide) (by omega)
theorem wthn_c {N G : Nat} {I : Nat → Int32} {J : Nat → Int64} {a : Nat → Nat → Int32} {b : Nat → Nat → Int64} (hwf : WfC N G I J a) : wthn N (ClG G J a) := by
  rintro P Q ⟨t, h1, h2, h3, rfl, rfl⟩ i
  have hh := (hwf.2.2.2.2 t h1 h2).1 h3
  exact ⟨fun x => hh.1 i x, fun x => hh.2 i x⟩
