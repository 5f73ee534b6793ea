/-! THE SEARCH in the class -/
theorem bt_neg {x : Int32} (i : Nat) : bt (-x) i = (bt x i ^^ (decide (i < 32) && decide (∃ j, j < i ∧ bt x j = true))) := by
  unfold bt
  rw [Int32.toBitVec_neg, BitVec.getLsbD_neg]
theorem low_bit {x : Int32} {k : Nat} (hk : k < 32) (h : bt x k = true) (hl : ∀ j, j < k → bt x j = false) : x &&& -x = one k := by
  apply b_ext
  intro i hi
  rw [b_and, bt_neg, b_one hk hi, decide_eq_true hi, Bool.true_and]
  rcases Nat.lt_trichotomy i k with e | e | e
  · have d1 : decide (i = k) = false := decide_eq_false (by omega)
    rw [hl i e, d1]
    rfl
  · subst e
    have d1 : decide (∃ j, j < i ∧ bt x j = true) = false := decide_eq_false (by rintro ⟨j, j1, j2⟩; rw [hl j j1] at j2; cases j2)
    have d2 : decide (i = i) = true := decide_eq_true rfl
    rw [h, d1, d2]
    rfl
  · have d1 : decide (∃ j, j < i ∧ bt x j = true) = true := decide_eq_true ⟨k, e, h⟩
    have d2 : decide (i = k) = false := decide_eq_false (by omega)
    rw [d1, d2]
    cases bt x i <;> rfl
theorem all_n : ∀ N, N ≤ 14 → ((1 : Int32) <<< (nI N &&& 31)) - 1 = nI (2 ^ N - 1) := by
  intro N hN
  exact (by decide +kernel : ∀ N, N < 15 → ((1 : Int32) <<< (nI N &&& 31)) - 1 = nI (2 ^ N - 1)) N (by omega)
theorem bt_all {N : Nat} (hN : N ≤ 14) (i : Nat) : bt (nI (2 ^ N - 1)) i = decide (i < N) := by
  rcases Nat.lt_or_ge i 32 with hi | hi
  · rw [bt_nI hi, Nat.testBit_two_pow_sub_one]
  · rw [b_big hi, decide_eq_false (by omega)]
abbrev dn (k : Nat) : Int32 := nI k + (-1)
theorem dn_neg : dn 0 < 0 := by decide
theorem dn_s (k : Nat) : dn (k + 1) = nI k := pk_m1 k
theorem one_ne0 : ∀ j, j < 14 → one j ≠ 0 := by decide +kernel
theorem latest_loop (F : Nat) (x : Int32) : ∀ (k n : Nat), k ≤ 14 → k < n → k_X4_latest_3 F n x (dn k) = some (hval (hbit x k))
  | 0, n, _, h => by
    obtain ⟨n, rfl⟩ : ∃ j, n = j + 1 := ⟨n - 1, by omega⟩
    rw [k_X4_latest_3, if_pos dn_neg]
    rfl
  | k + 1, n, hk, h => by
    obtain ⟨n, rfl⟩ : ∃ j, n = j + 1 := ⟨n - 1, by omega⟩
    rw [k_X4_latest_3, dn_s, if_neg (nI_pos (by omega)), b_sel x (by omega)]
    show _ = some (hval (if bt x k = true then some k else hbit x k))
    cases e : bt x k
    · have u : ¬ (if false = true then (1 : Int32) else 0) = 1 := by decide
      rw [if_neg u]
      exact latest_loop F x k n (by omega) (by omega)
    · have u : (if true = true then (1 : Int32) else 0) = 1 := by decide
      rw [if_pos u]
      rfl
theorem latest_c {F : Nat} (hF : 100 ≤ F) (x : Int32) : f_X4_latest F x = some (hval (hbit x 14)) := latest_loop F x 14 F (by omega) (by omega)
theorem wo_eq {x : Int32} {k : Nat} (hk : k < 32) : wo x k = x ↔ bt x k = false := by
  constructor
  · intro h
    have := bt_wo (x := x) hk k
    rw [h, decide_eq_true rfl] at this
    cases e : bt x k
    · rfl
    · rw [e] at this
      cases this
  · intro h
    refine b_ext (fun i hi => ?_)
    rw [bt_wo hk]
    by_cases e : i = k
    · rw [e, h]
      rfl
    · rw [decide_eq_false e]
      simp
theorem sm.wo {N : Nat} {x : Int32} (h : sm N x) (k : Nat) : sm N (wo x k) := sm.andL h _
/-- what AT ONCE with the learned clauses answers -/
def Orc (N : Nat) (Cl0 : ClT) (Rw : RwT) (L : List Int32) (c T F : Int32) (fl : Bool) : Prop := (fl = true ∧ cfl N Cl0 Rw L c) ∨ (fl = false ∧ knw N Cl0 Rw L c T F)
theorem reason_loop (F : Nat) {N : Nat} {I : Nat → Int32} {J : Nat → Int64} {a : Nat → Nat → Int32} {b : Nat → Nat → Int64} {Cl0 : ClT} {Rw : RwT} {L : List Int32}
    (ho : ∀ i8 i9 i10 c, sm N c → ∃ T F' fl, f_X0_clashes F (fu (fu (fu I 8 i8) 9 i9) 10 i10) J a b 0 c 2 = some (zf fl, T, F', zf fl) ∧ Orc N Cl0 Rw L c T F' fl) :
    ∀ (k n : Nat) (x i8 i9 i10 : Int32), k ≤ 14 → k < n → sm N x → ∃ R T F' z, k_X4_reason_8 F I J a b n x (dn k) i8 i9 i10 = some (R, T, F', z) ∧ Rsn (cfl N Cl0 Rw L) k x R
  | 0, n, x, i8, i9, i10, _, h, _ => by
    obtain ⟨n, rfl⟩ : ∃ j, n = j + 1 := ⟨n - 1, by omega⟩
    rw [k_X4_reason_8, if_pos dn_neg]
    exact ⟨_, _, _, _, rfl, rfl⟩
  | k + 1, n, x, i8, i9, i10, hk, h, hs => by
    obtain ⟨n, rfl⟩ : ∃ j, n = j + 1 := ⟨n - 1, by omega⟩
    rw [k_X4_reason_8, dn_s, if_neg (nI_pos (by omega)), nmI_s]
    have hw := wo_eq (x := x) (k := k) (by omega)
    cases e : bt x k
    · have u := hw.mpr e
      rw [if_pos u]
      obtain ⟨R, T, F', z, e1, e2⟩ := reason_loop F ho k n x i8 i9 i10 (by omega) (by omega) hs
      have e9 : bt x k = true → ¬ cfl N Cl0 Rw L (wo x k) := fun y => by
        rw [e] at y
        cases y
      exact ⟨R, T, F', z, e1, Or.inr ⟨e9, e2⟩⟩
    · have u : ¬ wo x k = x := fun y => by rw [hw.mp y] at e; cases e
      rw [if_neg u]
      obtain ⟨T, F', fl, g1, g2⟩ := ho i8 i9 i10 (wo x k) (hs.wo k)
      rw [g1, ob_s]
      rcases g2 with ⟨rfl, g2⟩ | ⟨rfl, g2⟩
      · have u1 : ¬ zf true = 0 := by decide
        simp only [if_neg u1]
        obtain ⟨R, T, F', z, e1, e2⟩ := reason_loop F ho k n (wo x k) T F' (zf true) (by omega) (by omega) (hs.wo k)
        exact ⟨R, T, F', z, e1, Or.inl ⟨e, g2, e2⟩⟩
      · have u1 : zf false = 0 := rfl
        simp only [if_pos u1]
        obtain ⟨R, T, F', z, e1, e2⟩ := reason_loop F ho k n x T F' (zf false) (by omega) (by omega) hs
        exact ⟨R, T, F', z, e1, Or.inr ⟨fun _ => g2.not, e2⟩⟩
def Lrr (A : Nat → Int32) (L : List Int32) : Prop := ∀ k, k < L.length → A k = L.getD k 0
theorem Lrr.mem {A : Nat → Int32} {L : List Int32} (h : Lrr A L) {m : Int32} : m ∈ L ↔ ∃ k, k < L.length ∧ A k = m := by
  constructor
  · intro hm
    obtain ⟨k, hk, e⟩ := List.getElem_of_mem hm
    refine ⟨k, hk, ?_⟩
    rw [h k hk, List.getD_eq_getElem?_getD, List.getElem?_eq_getElem hk, ← e]
    rfl
  · rintro ⟨k, hk, e⟩
    rw [h k hk, List.getD_eq_getElem?_getD, List.getElem?_eq_getElem hk] at e
    rw [← e]
    exact List.getElem_mem hk
theorem Lrr.add {A : Nat → Int32} {L : List Int32} (h : Lrr A L) (R : Int32) : Lrr (upd A L.length R) (L ++ [R]) := by
  intro k hk
  rw [List.length_append] at hk
  have hk : k < L.length + 1 := hk
  by_cases e : k = L.length
  · subst e
    rw [pk_us, List.getD_eq_getElem?_getD, List.getElem?_append_right (Nat.le_refl _)]
    simp
  · rw [pk_un e, h k (by omega), List.getD_eq_getElem?_getD, List.getD_eq_getElem?_getD, List.getElem?_append_left (by omega)]
theorem Lrr.cl {A : Nat → Int32} {L : List Int32} (h : Lrr A L) (Cl0 : ClT) : (fun p q => Cl0 p q ∨ xCl L.length A (fun _ => 0) p q) = ClL Cl0 L := by
  funext p q
  apply propext
  refine or_congr Iff.rfl ⟨?_, ?_⟩
  · rintro ⟨k, hk, rfl, rfl⟩
    exact ⟨A k, h.mem.mpr ⟨k, hk, rfl⟩, rfl, rfl⟩
  · rintro ⟨m, hm, rfl, rfl⟩
    obtain ⟨k, hk, rfl⟩ := h.mem.mp hm
    exact ⟨k, hk, rfl, rfl⟩
theorem nob_0 : bt 0 = nob := funext b_0
theorem Out.orc {N : Nat} {Cl0 : ClT} {Rw : RwT} {L : List Int32} {c T F : Int32} {fl : Bool} (h : Out N (ClL Cl0 L) Rw nob (bt c) (bt T) (bt F) fl) (h1 : sm N T) (h2 : sm N F) : Orc N Cl0 Rw L c T F fl := by
  rcases h with ⟨e, x⟩ | ⟨e, x⟩
  · exact Or.inl ⟨e, x⟩
  · exact Or.inr ⟨e, x, h1, h2⟩
abbrev ClG (G : Nat) (J : Nat → Int64) (a : Nat → Nat → Int32) : ClT := tCl G (bl (J 0)) (bl (J 1)) (a 0) (a 1)
theorem orc_c {F : Nat} (hF : 100 ≤ F) {N G : Nat} {I : Nat → Int32} {J : Nat → Int64} {a : Nat → Nat → Int32} {b : Nat → Nat → Int64} (hwf : WfC N G I J a) {L : List Int32} (hl : L.length ≤ 8192) (h7 : I 7 = nI L.length) (ha : Lrr (a 6) L) (ht : TabOk N L.length (a 6) (a 7)) (hs : ∀ m, m ∈ L → sm N m) {c : Int32} (hc : sm N c) :
    ∃ T F' fl, f_X0_clashes F I J a b 0 c 2 = some (zf fl, T, F', zf fl) ∧ Orc N (ClG G J a) (RwC G J a) L c T F' fl := by
  have hX : XOk F N I J a b 2 L.length (a 6) (fun _ => 0) := Or.inr (Or.inr ⟨rfl, rfl, rfl, hl, h7, fun k hk => hs _ (ha.mem.mpr ⟨k, hk, rfl⟩), ht.bar hwf.1⟩)
  obtain ⟨T, F', fl, e1, e2, e3, e4⟩ := clashes_c hF (b := b) hwf hX (v1 := 0) (v2 := c) sm.z hc
  have e5 : Out N (ClL (ClG G J a) L) (RwC G J a) nob (bt c) (bt T) (bt F') fl := by
    rw [← nob_0, ← ha.cl (ClG G J a)]
    exact e2
  exact ⟨T, F', fl, e1, e5.orc e3 e4⟩
theorem learn_c {F : Nat} (hF : 20000 ≤ F) {N : Nat} (hN : N ≤ 14) {I : Nat → Int32} {J : Nat → Int64} {a : Nat → Nat → Int32} {b : Nat → Nat → Int64} (h4 : I 4 = nI N) {L : List Int32} (hl : L.length < 8192) (h7 : I 7 = nI L.length) (ha : Lrr (a 6) L) (ht : TabOk N L.length (a 6) (a 7)) {c R : Int32} (h16 : I 16 = c) (hR : sm N R) :
    ∃ a6 a7, f_X4_learn F I J a b R = some (nI (L ++ [R]).length, keep c R, a6, a7) ∧ Lrr a6 (L ++ [R]) ∧ TabOk N (L ++ [R]).length a6 a7 := by
  obtain ⟨t, e1, e2⟩ := learned_add hF hN hl (J := J) (b := b) h7 hR ht
  have hlen : (L ++ [R]).length = L.length + 1 := by simp
  refine ⟨upd (a 6) L.length R, t, ?_, ha.add R, by rw [hlen]; exact e2⟩
  unfold f_X4_learn f_X5_allNames
  rw [ob_s, h4, all_n N hN, e1, ob_s, latest_c (by omega), ob_s, h16, hlen]
  unfold keep
  cases e3 : hbit R 14 with
  | none =>
    have e4 : R &&& (hval none ^^^ (-1)) = R := b_ext (fun i hi => by
      rw [b_and_not]
      show (bt R i && !bt 0 i) = bt R i
      rw [b_0]
      simp)
    rw [e4, latest_c (by omega), e3, ob_s, if_pos (show hval none = 0 from rfl), nmI_s]
    have e5 : c &&& 0 = 0 := b_ext (fun i _ => by rw [b_and, b_0, Bool.and_false])
    rw [e5]
  | some h =>
    obtain ⟨u1, -, -⟩ := hbit_some e3
    have e4 : R &&& (hval (some h) ^^^ (-1)) = wo R h := rfl
    rw [e4, latest_c (by omega), ob_s]
    dsimp only
    cases e6 : hbit (wo R h) 14 with
    | none =>
      have e5 : c &&& 0 = 0 := b_ext (fun i _ => by rw [b_and, b_0, Bool.and_false])
      rw [if_pos (show hval none = 0 from rfl), nmI_s, e5]
    | some j =>
      obtain ⟨u2, -, -⟩ := hbit_some e6
      have u3 : ¬ hval (some j) = 0 := one_ne0 j u2
      rw [if_neg u3, nmI_s]
      rfl
theorem choose_c (F : Nat) {N : Nat} (hN : N ≤ 14) {I : Nat → Int32} {J : Nat → Int64} {a : Nat → Nat → Int32} {b : Nat → Nat → Int64} (h4 : I 4 = nI N) {T F' : Int32} (h8 : I 8 = T) (h9 : I 9 = F') :
    ((∀ i, i < N → bt T i = true ∨ bt F' i = true) → f_X4_choose F I J a b = some (1, 1, T, I 15, I 16)) ∧
    (∀ k, lun N T F' k → f_X4_choose F I J a b = some (I 11, I 12, I 13, I 15 + 1, I 16 ||| one k)) := by
  have hb : ∀ i, bt (nI (2 ^ N - 1) &&& ((T ||| F') ^^^ (-1))) i = (decide (i < N) && !(bt T i || bt F' i)) := fun i => by
    rw [b_and_not, bt_all hN, b_or]
  have e : ∀ o, nI (2 ^ N - 1) &&& ((T ||| F') ^^^ (-1)) = o → f_X4_choose F I J a b = if o = 0 then some (1, 1, T, I 15, I 16) else some (I 11, I 12, I 13, I 15 + 1, I 16 ||| (o &&& -o)) := fun o ho => by
    unfold f_X4_choose f_X5_allNames f_X0_trueNames f_X0_falseNames
    simp only [ob_s, nmI_s]
    rw [h4, all_n N hN, h8, h9, ho]
    have : (fu I 12 1) 8 = T := h8
    rw [this]
  refine ⟨fun h => ?_, fun k hk => ?_⟩
  · rw [e 0 (b_eq0.mpr (fun i => ?_)), if_pos rfl]
    rw [hb]
    by_cases hi : i < N
    · rcases h i hi with x | x <;> rw [x] <;> simp
    · rw [decide_eq_false hi]
      rfl
  · obtain ⟨k1, k2, k3, k4⟩ := hk
    have hk' : bt (nI (2 ^ N - 1) &&& ((T ||| F') ^^^ (-1))) k = true := by
      rw [hb, k2, k3, decide_eq_true k1]
      rfl
    rw [e _ rfl, if_neg (fun z => by rw [z, b_0] at hk'; cases hk'), low_bit (by omega) hk' (fun j hj => ?_)]
    rw [hb]
    rcases k4 j hj with x | x <;> rw [x] <;> simp
