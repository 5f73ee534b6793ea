/-! conflict, known, lemma, lemmas -/
theorem name_c (F : Nat) {N : Nat} (hN : N ≤ 14) {I : Nat → Int32} {J : Nat → Int64} {a : Nat → Nat → Int32} {b : Nat → Nat → Int64} (h4 : I 4 = nI N) {I2 : Nat → Int32} {J2 : Nat → Int64} {a2 : Nat → Nat → Int32} {b2 : Nat → Nat → Int64} (h0 : I2 0 = nI N) (v1 : Int32) :
    (f_X5_isName F I J a b v1 = some 0 ∧ f_X7_isName F I2 J2 a2 b2 v1 = some 0) ∨ (f_X5_isName F I J a b v1 = some 1 ∧ f_X7_isName F I2 J2 a2 b2 v1 = some 1 ∧ ∃ j, v1 = nI j ∧ j < N) := by
  unfold f_X5_isName f_X7_isName
  by_cases c : v1 < 0
  · rw [if_pos c, if_pos c]
    exact Or.inl ⟨rfl, rfl⟩
  · obtain ⟨j, hj, rfl⟩ := nI_of c
    rw [if_neg c, if_neg c, h4, h0]
    by_cases c2 : N ≤ j
    · have : nI N ≤ nI j := nI_le c2 (by omega)
      rw [if_pos this]
      exact Or.inl ⟨rfl, rfl⟩
    · have : ¬ nI N ≤ nI j := nI_ge (by omega) (by omega)
      rw [if_neg this]
      exact Or.inr ⟨rfl, rfl, j, rfl, by omega⟩
theorem gz_zf {β : Type} (fl : Bool) (x : Option β) : gz (zf fl) x = x := by
  unfold gz
  rw [if_pos (by cases fl; exact Or.inl rfl; exact Or.inr rfl)]
theorem b_conflict {F : Nat} (hF : 30000 ≤ F) {N G LC : Nat} {I : Nat → Int32} {J : Nat → Int64} {a : Nat → Nat → Int32} {b : Nat → Nat → Int64} {I2 : Nat → Int32} {J2 : Nat → Int64} {a2 : Nat → Nat → Int32} {b2 : Nat → Nat → Int64} (h : Bas N G LC I J a I2 a2) :
    ∃ x y, f_X6_conflict F I J a b = some x ∧ f_X7_conflict F I2 J2 a2 b2 = some y ∧ x.1 = y.1 := by
  obtain ⟨fl, T, F1, T2, F2, e1, e2, -⟩ := h.once hF (b := b) (J2 := J2) (b2 := b2) (S := 0) (v3 := 0) (v3' := 0) (XP := fun _ => 0) (XN := fun _ => 0) (XP2 := fun _ => 0) (XN2 := fun _ => 0) (Or.inl ⟨rfl, rfl⟩) (Or.inl ⟨rfl, rfl⟩) (fun k hk => by omega) h.2.2.1.2.2.1 h.2.2.1.2.2.2
  have k1 := h.2.2.1.1
  have k2 := h.2.2.1.2.1
  unfold f_X6_conflict f_X7_conflict f_X6_clashFromAssumed
  rw [k1, k2, e1, e2]
  simp only [ob_s, gz_zf]
  cases fl
  · rw [if_pos zf_0, if_pos zf_0]
    exact ⟨_, _, rfl, rfl, rfl⟩
  · rw [if_neg (by decide), if_neg (by decide)]
    exact ⟨_, _, rfl, rfl, rfl⟩
theorem b_known {F : Nat} (hF : 30000 ≤ F) {N G LC : Nat} {I : Nat → Int32} {J : Nat → Int64} {a : Nat → Nat → Int32} {b : Nat → Nat → Int64} {I2 : Nat → Int32} {J2 : Nat → Int64} {a2 : Nat → Nat → Int32} {b2 : Nat → Nat → Int64} (h : Bas N G LC I J a I2 a2) (v1 : Int32) :
    ∃ x y, f_X6_known F I J a b v1 = some x ∧ f_X7_known F I2 J2 a2 b2 v1 = some y ∧ x.1 = y.1 := by
  obtain ⟨fl, T, F1, T2, F2, e1, e2, e3, -⟩ := h.once hF (b := b) (J2 := J2) (b2 := b2) (S := 0) (v3 := 0) (v3' := 0) (XP := fun _ => 0) (XN := fun _ => 0) (XP2 := fun _ => 0) (XN2 := fun _ => 0) (Or.inl ⟨rfl, rfl⟩) (Or.inl ⟨rfl, rfl⟩) (fun k hk => by omega) h.2.2.1.2.2.1 h.2.2.1.2.2.2
  have k1 := h.2.2.1.1
  have k2 := h.2.2.1.2.1
  obtain ⟨⟨hN, hG, h4, h5, h0, h1⟩, -⟩ := h
  unfold f_X6_known f_X7_known f_X6_clashFromAssumed
  rcases name_c F hN h4 (J := J) (a := a) (b := b) h0 (J2 := J2) (a2 := a2) (b2 := b2) v1 with ⟨g1, g2⟩ | ⟨g1, g2, j, rfl, hj⟩
  · rw [g1, g2, ob_s, ob_s, if_pos rfl, if_pos rfl]
    exact ⟨_, _, rfl, rfl, rfl⟩
  · rw [g1, g2, ob_s, ob_s, if_neg (by decide), if_neg (by decide), k1, k2, e1, e2]
    simp only [ob_s, gz_zf, f_X0_trueNames, f_X0_falseNames, f_X6_truthOf]
    cases fl
    · obtain ⟨rfl, rfl⟩ := e3 rfl
      rw [if_pos zf_0, if_pos zf_0]
      show ∃ x y, ob (if ((T2 >>> (nI j &&& 31)) &&& 1) = 1 then some 1 else if ((F2 >>> (nI j &&& 31)) &&& 1) = 1 then some 0 else some 2) (fun x_7 => some (x_7, T2, F2, zf false)) = some x ∧ (if ((T2 >>> (nI j &&& 31)) &&& 1) = 1 then some (1, T2, F2, zf false) else if ((F2 >>> (nI j &&& 31)) &&& 1) = 1 then some (0, T2, F2, zf false) else some (2, T2, F2, zf false)) = some y ∧ _
      by_cases c1 : ((T2 >>> (nI j &&& 31)) &&& 1) = 1
      · rw [if_pos c1, if_pos c1]
        exact ⟨_, _, rfl, rfl, rfl⟩
      · rw [if_neg c1, if_neg c1]
        by_cases c2 : ((F2 >>> (nI j &&& 31)) &&& 1) = 1
        · rw [if_pos c2, if_pos c2]
          exact ⟨_, _, rfl, rfl, rfl⟩
        · rw [if_neg c2, if_neg c2]
          exact ⟨_, _, rfl, rfl, rfl⟩
    · rw [if_neg (by decide), if_neg (by decide)]
      exact ⟨_, _, rfl, rfl, rfl⟩
theorem hd_0 {N : Nat} : Hd N 0 0 0 0 0 := by
  have : cnt (bt 0) 14 = 0 := cnt_none (fun i _ => b_0 i)
  refine ⟨rfl, rfl, sm.z, sm.z, ?_, ?_⟩
  · rw [this]
    rfl
  · rw [this]
    omega
theorem Lm.xok {F N LC : Nat} {I : Nat → Int32} {J : Nat → Int64} {a : Nat → Nat → Int32} {b : Nat → Nat → Int64} {m : Int32} {P2 Q2 : Nat → Int32} (h : Lm N LC (I 6) m (a 4) (a 5) P2 Q2) : XOk F N I J a b 1 LC (a 4) (a 5) := Or.inr (Or.inl ⟨rfl, rfl, rfl, h.1, h.2.1, fun k hk => ⟨(h.2.2.2 k hk).2.2.1, (h.2.2.2 k hk).2.2.2⟩⟩)
theorem Lm.xokM {N LC : Nat} {c : Int32} {I2 : Nat → Int32} {a2 : Nat → Nat → Int32} {P Q : Nat → Int32} (h : Lm N LC c (I2 7) P Q (a2 7) (a2 8)) : XOkM N I2 a2 2 LC (a2 7) (a2 8) := Or.inr (Or.inl ⟨rfl, rfl, rfl, h.1, h.2.2.1, fun k hk => by rw [(h.2.2.2 k hk).1, (h.2.2.2 k hk).2.1]; exact ⟨(h.2.2.2 k hk).2.2.1, (h.2.2.2 k hk).2.2.2⟩⟩)
theorem Lm.add {N LC : Nat} {c m : Int32} {P Q P2 Q2 : Nat → Int32} (h : Lm N LC c m P Q P2 Q2) (hl : LC < 40) {p q : Int32} (hp : sm N p) (hq : sm N q) : Lm N (LC + 1) (nI (LC + 1)) (nI (LC + 1)) (upd P LC p) (upd Q LC q) (upd P2 LC p) (upd Q2 LC q) := by
  refine ⟨by omega, rfl, rfl, fun k hk => ?_⟩
  by_cases e : k = LC
  · subst e
    rw [pk_us, pk_us, pk_us, pk_us]
    exact ⟨rfl, rfl, hp, hq⟩
  · rw [pk_un e, pk_un e, pk_un e, pk_un e]
    exact h.2.2.2 k (by omega)
theorem b_lemma {F : Nat} (hF : 30000 ≤ F) {N G LC : Nat} {I : Nat → Int32} {J : Nat → Int64} {a : Nat → Nat → Int32} {b : Nat → Nat → Int64} {I2 : Nat → Int32} {J2 : Nat → Int64} {a2 : Nat → Nat → Int32} {b2 : Nat → Nat → Int64} (h : Bas N G LC I J a I2 a2) :
    ∃ x y, f_X6_lemma F I J a b = some x ∧ f_X7_lemma F I2 J2 a2 b2 = some y ∧ x.1 = y.1 ∧ Hd N x.2.1 x.2.2.1 y.2.1 y.2.2.1 y.2.2.2.1 ∧ ∃ L', Lm N L' x.2.2.2.1 y.2.2.2.2.1 x.2.2.2.2.2.2.2.1 x.2.2.2.2.2.2.2.2 y.2.2.2.2.2.2.2.2.1 y.2.2.2.2.2.2.2.2.2 := by
  have hh := h.2.1
  have hl := h.2.2.2.1
  have k1 := hh.1
  have k2 := hh.2.1
  have hb0 : Bas N G LC (fu (fu I 0 0) 1 0) J a I2 a2 → True := fun _ => trivial
  obtain ⟨hL, l1, l2, l3⟩ := hl
  have hl := h.2.2.2.1
  -- AT ONCE does not look at the hand
  have hwf : WfC N G (fu (fu I 0 0) 1 0) J a := h.wfC
  obtain ⟨T, F1, fl, e1, e2, -, -⟩ := clashes_c (F := F) (by omega) (b := b) hwf (Lm.xok (F := F) (I := fu (fu I 0 0) 1 0) (J := J) (b := b) hl) (v1 := I 1) (v2 := I 0) hh.2.2.2.1 hh.2.2.1
  obtain ⟨fl', T', F1', T2, F2, g1, g2, -, g4, -⟩ := h.once hF (b := b) (J2 := J2) (b2 := b2) (Lm.xok (F := F) (J := J) (b := b) hl) (Lm.xokM hl) (fun k hk => ⟨(l3 k hk).1, (l3 k hk).2.1⟩) (v1 := I 1) (v2 := I 0) hh.2.2.2.1 hh.2.2.1
  obtain ⟨rfl, -⟩ := e2.uniq g4
  unfold f_X6_lemma f_X7_lemma f_X2_howMany f_X6_emptyHand f_X7_emptyHand
  simp only [ob_s]
  rw [l1, l2, k1, k2]
  by_cases c : LC = 40
  · have u1 : ¬ nI LC < 40 := by
      show ¬ nI LC < nI 40
      rw [nI_ltI (by omega) (by decide)]
      omega
    have u2 : nI LC = 40 := by
      rw [c]
      rfl
    rw [if_neg u1, if_pos u2]
    have hh' : Hd N (I 0) (I 1) (I2 2) (I 0) (I 1) := by
      have := hh
      rw [k1, k2] at this
      exact this
    have hl' : Lm N LC (nI LC) (nI LC) (a 4) (a 5) (a2 7) (a2 8) := by
      have := hl
      rw [l1, l2] at this
      exact this
    exact ⟨_, _, rfl, rfl, rfl, hh', LC, hl'⟩
  · have u1 : nI LC < 40 := by
      show nI LC < nI 40
      rw [nI_ltI (by omega) (by decide)]
      omega
    have u2 : ¬ nI LC = 40 := by
      show ¬ nI LC = nI 40
      rw [nI_eq (by omega) (by decide)]
      exact c
    rw [if_pos u1, if_neg u2, e1, g2]
    simp only [ob_s]
    cases fl
    · rw [if_pos zf_0, if_pos zf_0]
      have hl' : Lm N LC (nI LC) (nI LC) (a 4) (a 5) (a2 7) (a2 8) := by
        have := hl
        rw [l1, l2] at this
        exact this
      exact ⟨_, _, rfl, rfl, rfl, hd_0, LC, hl'⟩
    · rw [if_neg (by decide), if_neg (by decide), gd_nI (by omega) (by decide), gd_nI (by omega) (by decide)]
      simp only [nmI_s]
      rw [nI_clamp (by omega), nI_1]
      have e6 : (fu (fu (fu (fu (fu I 0 0) 1 0) 8 T) 9 F1) 10 (zf true)) 6 = nI LC := l1
      have hadd : f_X2_add F (fu (fu (fu (fu (fu I 0 0) 1 0) 8 T) 9 F1) 10 (zf true)) J a b (I 0) (I 1) = some (nI (LC + 1), upd (a 4) LC (I 0), upd (a 5) LC (I 1)) := by
        unfold f_X2_add
        rw [e6, if_neg (by
          show ¬ nI 40 ≤ nI LC
          rw [nI_leI (by decide) (by omega)]
          omega), gd_nI (by omega) (by decide), gd_nI (by omega) (by decide), nmI_s, nI_clamp (by omega), nI_1]
      rw [hadd]
      simp only [ob_s]
      exact ⟨_, _, rfl, rfl, rfl, hd_0, LC + 1, hl.add (by omega) hh.2.2.1 hh.2.2.2.1⟩
