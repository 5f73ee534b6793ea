/-! AT ONCE in the class: the rounds -/
abbrev ClC (G : Nat) (J : Nat → Int64) (a : Nat → Nat → Int32) (S : Nat) (XP XN : Nat → Int32) : ClT := fun p q => tCl G (bl (J 0)) (bl (J 1)) (a 0) (a 1) p q ∨ xCl S XP XN p q
abbrev RwC (G : Nat) (J : Nat → Int64) (a : Nat → Nat → Int32) : RwT := tRw G (bl (J 0)) (bl (J 1)) (wC a) (bC a)
abbrev qC (N G : Nat) (J : Nat → Int64) (a : Nat → Nat → Int32) (S : Nat) (XP XN : Nat → Int32) (T F : Nat → Bool) : Prop := tQ N (bl (J 0)) (bl (J 1)) (a 0) (a 1) (wC a) (bC a) G T F ∧ xQ XP XN S T F
theorem round_c {F : Nat} (hF : 100 ≤ F) {N G S : Nat} {I : Nat → Int32} {J : Nat → Int64} {a : Nat → Nat → Int32} {b : Nat → Nat → Int64} {v3 : Int32} {XP XN : Nat → Int32} (hwf : WfC N G I J a) (hX : XOk F N I J a b v3 S XP XN) {A0 A1 : Nat → Bool} (T' F' : Int32)
    (h1 : ∀ i, bt T' i = true → bt F' i = false) (h2 : sm N T') (h3 : sm N F') (h4 : Bel N (ClC G J a S XP XN) (RwC G J a) A0 A1 (bt T') (bt F')) (kh : Int32 → Int32 → Int32 → Int32 → Int32 → Int32 → Option (Int32 × Int32 × Int32 × Int32)) (v5 v7 : Int32) :
    ∃ (T2 F2 : Int32) (fl : Bool), ob (f_X0_followThings F (fu (fu (fu I 8 T') 9 F') 10 0) J a b) (fun x_8 => if v3 = 1 then (ob (f_X0_followLemmas F (fu (fu (fu I 8 x_8.1) 9 x_8.2.1) 10 x_8.2.2) J a b) (fun x_12 => k_X0_clashes_86 F I J a b kh v3 v5 v7 x_12.1 x_12.2.1 x_12.2.2)) else (if v3 = 2 then (ob (f_X0_followLearned F (fu (fu (fu I 8 x_8.1) 9 x_8.2.1) 10 x_8.2.2) J a b) (fun x_11 => k_X0_clashes_86 F I J a b kh v3 v5 v7 x_11.1 x_8.2.1 x_11.2)) else (k_X0_clashes_86 F I J a b kh v3 v5 v7 x_8.1 x_8.2.1 x_8.2.2))) = k_X0_clashes_86 F I J a b kh v3 v5 v7 T2 F2 (zf fl) ∧ Pg N (ClC G J a S XP XN) (RwC G J a) A0 A1 (bt T') (bt F') (bt T2) (bt F2) fl (qC N G J a S XP XN) := by
  have hwf' : WfC N G (fu (fu (fu I 8 T') 9 F') 10 0) J a := hwf
  obtain ⟨hN, hG, e4, e5, -⟩ := hwf
  have hp0 : Pg N (ClC G J a S XP XN) (RwC G J a) A0 A1 (bt T') (bt F') (bt T') (bt F') false (tQ N (bl (J 0)) (bl (J 1)) (a 0) (a 1) (wC a) (bC a) 0) := Pg.start h1 h2 h3 h4 (fun u hu => by omega)
  obtain ⟨T1, F1, f1, g1, g2⟩ := things_loop (F := F) (by omega) (b := b) hwf' (Cl := ClC G J a S XP XN) (fun p q h => Or.inl h) G F 0 T' F' (by omega) (by omega) (by omega) hp0
  have ht : f_X0_followThings F (fu (fu (fu I 8 T') 9 F') 10 0) J a b = some (T1, F1, zf f1) := by
    unfold f_X0_followThings f_X5_numbersGiven
    rw [ob_s]
    have : (fu (fu (fu I 8 T') 9 F') 10 0) 5 = nI G := e5
    rw [this]
    exact g1
  rw [ht, ob_s]
  dsimp only
  rcases hX with ⟨rfl, rfl⟩ | ⟨rfl, rfl, rfl, hS, e6, hsm⟩ | ⟨rfl, rfl, rfl, hS, e7, hsm, hbar⟩
  · rw [if_neg (by decide), if_neg (by decide)]
    exact ⟨T1, F1, f1, rfl, g2.weak (fun T F q => ⟨q, fun k hk => by omega⟩)⟩
  · rw [if_pos rfl]
    have e6' : (fu (fu (fu I 8 T1) 9 F1) 10 (zf f1)) 6 = nI S := e6
    unfold f_X0_followLemmas f_X2_howMany
    rw [ob_s, e6']
    cases f1
    · have hp1 : Pg N (ClC G J a S (a 4) (a 5)) (RwC G J a) A0 A1 (bt T1) (bt F1) (bt T1) (bt F1) false (xQ (a 4) (a 5) 0) := Pg.start g2.2.1 g2.2.2.1 g2.2.2.2.1 g2.2.2.2.2.1 (fun u hu => by omega)
      obtain ⟨T2, F2, f2, k1, k2⟩ := lemmas_loop F (I := fu (fu (fu I 8 T1) 9 F1) 10 (zf false)) (J := J) (b := b) hN hS hsm (Cl := ClC G J a S (a 4) (a 5)) (fun p q h => Or.inr h) S F 0 T1 F1 (by omega) (by omega) (by omega) hp1
      refine ⟨T2, F2, f2, ?_, g2.then k2 (fun T F q1 q2 => ⟨q1, q2⟩)⟩
      have : k_X0_followLemmas_10 F (fu (fu (fu I 8 T1) 9 F1) 10 (zf false)) J a b F (nI S) 0 ((fu (fu (fu I 8 T1) 9 F1) 10 (zf false)) 8) ((fu (fu (fu I 8 T1) 9 F1) 10 (zf false)) 9) ((fu (fu (fu I 8 T1) 9 F1) 10 (zf false)) 10) = some (T2, F2, zf f2) := k1
      rw [this, ob_s]
    · refine ⟨T1, F1, true, ?_, g2.stop⟩
      have : k_X0_followLemmas_10 F (fu (fu (fu I 8 T1) 9 F1) 10 (zf true)) J a b F (nI S) 0 ((fu (fu (fu I 8 T1) 9 F1) 10 (zf true)) 8) ((fu (fu (fu I 8 T1) 9 F1) 10 (zf true)) 9) ((fu (fu (fu I 8 T1) 9 F1) 10 (zf true)) 10) = some (T1, F1, 1) := lemmas_stop F F (by omega) _ _ T1 F1
      rw [this, ob_s]
      rfl
  · rw [if_neg (by decide), if_pos rfl]
    obtain ⟨T2, f2, k1, k2⟩ := learned_c hF (I := fu (fu (fu I 8 T1) 9 F1) 10 (zf f1)) (J := J) (b := b) hN e4 hS e7 hbar hsm (Cl := ClC G J a S (a 6) (fun _ => 0)) (fun p q h => Or.inr h) f1 rfl g2
    rw [k1, ob_s]
    exact ⟨T2, F1, f2, rfl, k2⟩
theorem eq_bt {x y : Int32} (h : bt x = bt y) : x = y := b_ext (fun i _ => congrFun h i)
theorem rounds_c {F : Nat} (hF : 100 ≤ F) {N G S : Nat} {I : Nat → Int32} {J : Nat → Int64} {a : Nat → Nat → Int32} {b : Nat → Nat → Int64} {v3 : Int32} {XP XN : Nat → Int32} (hwf : WfC N G I J a) (hX : XOk F N I J a b v3 S XP XN) {A0 A1 : Nat → Bool} :
    ∀ (m n r : Nat) (T' F' : Int32), 15 - r = m → m < n → (∀ i, bt T' i = true → bt F' i = false) → sm N T' → sm N F' → Bel N (ClC G J a S XP XN) (RwC G J a) A0 A1 (bt T') (bt F') → r ≤ kc N (bt T') (bt F') →
      ∃ (T2 F2 : Int32) (fl : Bool), k_X0_clashes_31 F I J a b n v3 1 (nI r) T' F' 0 = some (zf fl, T2, F2, zf fl) ∧ Out N (ClC G J a S XP XN) (RwC G J a) A0 A1 (bt T2) (bt F2) fl ∧ sm N T2 ∧ sm N F2 := by
  have hN : N ≤ 14 := hwf.1
  have fin : ∀ (n : Nat) (r v4 : Int32) (T2 F2 : Int32) (fl : Bool), 0 < n → (v4 = 0 ∨ fl = true) → k_X0_clashes_31 F I J a b n v3 v4 r T2 F2 (zf fl) = some (zf fl, T2, F2, zf fl) := by
    intro n r v4 T2 F2 fl hn h
    obtain ⟨n, rfl⟩ : ∃ j, n = j + 1 := ⟨n - 1, by omega⟩
    have hg : gz (zf fl) (some (zf fl, T2, F2, zf fl)) = some (zf fl, T2, F2, zf fl) := by
      unfold gz
      rw [if_pos (by cases fl; exact Or.inl rfl; exact Or.inr rfl)]
    rw [k_X0_clashes_31]
    by_cases c : 14 < r
    · rw [if_pos c, hg]
    · rw [if_neg c]
      by_cases c2 : v4 = 0
      · rw [if_pos c2, hg]
      · rw [if_neg c2]
        rcases h with h | rfl
        · exact absurd h c2
        · rw [if_neg (by decide), hg]
  intro m
  induction m with
  | zero =>
    intro n r T' F' h1 h2 h3 h4 h5 h6 h7
    have := kc_le N (bt T') (bt F')
    omega
  | succ m ih =>
    intro n r T' F' h1 h2 h3 h4 h5 h6 h7
    obtain ⟨n, rfl⟩ : ∃ j, n = j + 1 := ⟨n - 1, by omega⟩
    rw [k_X0_clashes_31, if_neg (by
      show ¬ nI 14 < nI r
      rw [nI_ltI (by decide) (by omega)]
      omega), if_neg (by decide), if_pos rfl]
    obtain ⟨T2, F2, fl, e1, e2⟩ := round_c hF hwf hX T' F' h3 h4 h5 h6 (k_X0_clashes_31 F I J a b n) (nI r) (T' ||| F')
    have e3 : ∃ (T3 F3 : Int32) (f3 : Bool), k_X0_clashes_86 F I J a b (k_X0_clashes_31 F I J a b n) v3 (nI r) (T' ||| F') T2 F2 (zf fl) = some (zf f3, T3, F3, zf f3) ∧ Out N (ClC G J a S XP XN) (RwC G J a) A0 A1 (bt T3) (bt F3) f3 ∧ sm N T3 ∧ sm N F3 := by
      obtain ⟨q1, q2, q3, q4, q5, q6, q7⟩ := e2
      unfold k_X0_clashes_86
      cases fl
      · by_cases c : T2 ||| F2 = T' ||| F'
        · rw [if_pos c]
          obtain ⟨d1, d2⟩ := same_of_union q1 q2 (fun i => by rw [← b_or, c, b_or])
          refine ⟨T2, F2, false, fin n _ _ T2 F2 false (by omega) (Or.inl rfl), Or.inr ⟨rfl, ?_⟩, q3, q4⟩
          have hq := q7 rfl d1 d2
          rw [← d1, ← d2] at hq
          exact lst_of hq.1 hq.2 q2 q5
        · rw [if_neg c, nI_1]
          refine ih n (r + 1) T2 F2 (by omega) (by omega) q2 q3 q4 q5 ?_
          have : ∃ k, k < N ∧ bt T' k = false ∧ bt F' k = false ∧ (bt T2 k = true ∨ bt F2 k = true) := by
            apply Classical.byContradiction
            intro hno
            refine c (b_ext (fun i _ => ?_))
            rw [b_or, b_or]
            have a1 := q1.1 i
            have a2 := q1.2 i
            cases x1 : bt T' i
            · cases x2 : bt F' i
              · cases x3 : bt T2 i
                · cases x4 : bt F2 i
                  · rfl
                  · exact absurd ⟨i, q4 i x4, x1, x2, Or.inr x4⟩ hno
                · exact absurd ⟨i, q3 i x3, x1, x2, Or.inl x3⟩ hno
              · rw [a2 x2]
                simp
            · rw [a1 x1]
              simp
          obtain ⟨k, y1, y2, y3, y4⟩ := this
          have := kc_grow (n := N) q1 y1 y2 y3 y4
          omega
      · by_cases c : T2 ||| F2 = T' ||| F'
        · rw [if_pos c]
          exact ⟨T2, F2, true, fin n _ _ T2 F2 true (by omega) (Or.inr rfl), Or.inl ⟨rfl, q6 rfl⟩, q3, q4⟩
        · rw [if_neg c]
          exact ⟨T2, F2, true, fin n _ _ T2 F2 true (by omega) (Or.inr rfl), Or.inl ⟨rfl, q6 rfl⟩, q3, q4⟩
    obtain ⟨T3, F3, f3, e4, e5⟩ := e3
    refine ⟨T3, F3, f3, ?_, e5⟩
    rw [← e4, ← e1]
    rfl
theorem clashes_c {F : Nat} (hF : 100 ≤ F) {N G S : Nat} {I : Nat → Int32} {J : Nat → Int64} {a : Nat → Nat → Int32} {b : Nat → Nat → Int64} {v3 : Int32} {XP XN : Nat → Int32} (hwf : WfC N G I J a) (hX : XOk F N I J a b v3 S XP XN) {v1 v2 : Int32} (h1 : sm N v1) (h2 : sm N v2) :
    ∃ (T2 F2 : Int32) (fl : Bool), f_X0_clashes F I J a b v1 v2 v3 = some (zf fl, T2, F2, zf fl) ∧ Out N (ClC G J a S XP XN) (RwC G J a) (bt v1) (bt v2) (bt T2) (bt F2) fl ∧ sm N T2 ∧ sm N F2 := by
  unfold f_X0_clashes
  by_cases c : v1 &&& v2 = 0
  · rw [if_pos c]
    exact rounds_c hF hwf hX 15 F 0 v1 v2 (by omega) (by omega) (b_dis c) h1 h2 Bel.start (by omega)
  · rw [if_neg c]
    refine ⟨v1, v2, true, ?_, Or.inl ⟨rfl, ?_⟩, h1, h2⟩
    · obtain ⟨n, hn⟩ : ∃ j, F = j + 1 := ⟨F - 1, by omega⟩
      have hg : gz 1 (some ((1 : Int32), v1, v2, (1 : Int32))) = some (1, v1, v2, 1) := by
        unfold gz
        rw [if_pos (Or.inr rfl)]
      have : ∀ n, k_X0_clashes_31 F I J a b (n + 1) v3 1 0 v1 v2 1 = some (1, v1, v2, 1) := fun n => by
        rw [k_X0_clashes_31, if_neg (by decide), if_neg (by decide), if_neg (by decide), hg]
      have h9 := this n
      rw [← hn] at h9
      exact h9
    · obtain ⟨i, x, y⟩ := b_meet c
      exact Bel.start.bad (Or.inl ⟨i, x, y⟩)
