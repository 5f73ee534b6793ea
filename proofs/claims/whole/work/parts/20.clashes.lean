/-! AT ONCE in the class: f_X0_clashes -/
theorem ob_s {α β : Type} (x : α) (k : α → Option β) : ob (some x) k = k x := rfl
def WfC (N G : Nat) (I : Nat → Int32) (J : Nat → Int64) (a : Nat → Nat → Int32) : Prop :=
  N ≤ 14 ∧ G ≤ 60 ∧ I 4 = nI N ∧ I 5 = nI G ∧
  ∀ t, t < G → bl (J 0) t = true → (bl (J 1) t = false → sm N (a 0 t) ∧ sm N (a 1 t)) ∧ (bl (J 1) t = true → (∀ i, i < 14 → -20 ≤ (a 3 (14 * t + i)).toInt ∧ (a 3 (14 * t + i)).toInt ≤ 20) ∧ -200 ≤ (a 2 t).toInt ∧ (a 2 t).toInt ≤ 200)
abbrev wC (a : Nat → Nat → Int32) : Nat → Nat → Int := fun t i => (a 3 (14 * t + i)).toInt
abbrev bC (a : Nat → Nat → Int32) : Nat → Int := fun t => (a 2 t).toInt
theorem stands_c (F : Nat) {I : Nat → Int32} {J : Nat → Int64} {a : Nat → Nat → Int32} {b : Nat → Nat → Int64} {t G : Nat} (hG : G ≤ 60) (h5 : I 5 = nI G) (ht : t < G) : f_X5_stands F I J a b (nI t) = some (zf (bl (J 0) t)) := by
  unfold f_X5_stands
  rw [if_neg (nI_pos (by omega)), h5, if_neg (nI_ge ht (by omega))]
  cases h : bl (J 0) t
  · rw [if_neg (by rw [l_t (by omega), h]; decide)]
    rfl
  · rw [if_pos ((l_t (by omega)).mpr h)]
    rfl
theorem isRow_c (F : Nat) {I : Nat → Int32} {J : Nat → Int64} {a : Nat → Nat → Int32} {b : Nat → Nat → Int64} {t G : Nat} (hG : G ≤ 60) (h5 : I 5 = nI G) (ht : t < G) : f_X5_isRow F I J a b (nI t) = some (zf (bl (J 0) t && bl (J 1) t)) := by
  unfold f_X5_isRow
  rw [stands_c F hG h5 ht, ob_s]
  cases h : bl (J 0) t
  · rfl
  · rw [if_neg (by decide)]
    cases h1 : bl (J 1) t
    · rw [if_neg (by rw [l_t (by omega), h1]; decide)]
      rfl
    · rw [if_pos ((l_t (by omega)).mpr h1)]
      rfl
theorem tQ_next {n : Nat} {st rw : Nat → Bool} {P N : Nat → Int32} {W : Nat → Nat → Int} {B : Nat → Int} {t : Nat} {T F : Nat → Bool} (h : tQ n st rw P N W B t T F) (h1 : st t = true → (rw t = false → ClAt (bt (P t)) (bt (N t)) T F) ∧ (rw t = true → RwAt n (W t) (B t) T F)) : tQ n st rw P N W B (t + 1) T F := fun u hu hs => by
  by_cases e : u = t
  · subst e
    exact h1 hs
  · exact h u (by omega) hs
theorem things_stop (F : Nat) {I : Nat → Int32} {J : Nat → Int64} {a : Nat → Nat → Int32} {b : Nat → Nat → Int64} (n : Nat) (hn : 0 < n) (v1 v2 T' F' : Int32) : k_X0_followThings_10 F I J a b n v1 v2 T' F' 1 = some (T', F', 1) := by
  obtain ⟨n, rfl⟩ : ∃ j, n = j + 1 := ⟨n - 1, by omega⟩
  rw [k_X0_followThings_10]
  by_cases c : v1 ≤ v2
  · rw [if_pos c]
  · rw [if_neg c, if_neg (by decide)]
theorem things_loop {F : Nat} (hF : 20 ≤ F) {N G : Nat} {I : Nat → Int32} {J : Nat → Int64} {a : Nat → Nat → Int32} {b : Nat → Nat → Int64} (hwf : WfC N G I J a) {Cl : ClT} {A0 A1 T0 F0 : Nat → Bool} (hcl : ∀ p q, tCl G (bl (J 0)) (bl (J 1)) (a 0) (a 1) p q → Cl p q) :
    ∀ (m n t : Nat) (T' F' : Int32), t ≤ G → G - t = m → m < n → Pg N Cl (tRw G (bl (J 0)) (bl (J 1)) (wC a) (bC a)) A0 A1 T0 F0 (bt T') (bt F') false (tQ N (bl (J 0)) (bl (J 1)) (a 0) (a 1) (wC a) (bC a) t) →
      ∃ (T2 F2 : Int32) (fl : Bool), k_X0_followThings_10 F I J a b n (nI G) (nI t) T' F' 0 = some (T2, F2, zf fl) ∧ Pg N Cl (tRw G (bl (J 0)) (bl (J 1)) (wC a) (bC a)) A0 A1 T0 F0 (bt T2) (bt F2) fl (tQ N (bl (J 0)) (bl (J 1)) (a 0) (a 1) (wC a) (bC a) G) := by
  obtain ⟨hN, hG, h4, h5, hth⟩ := hwf
  intro m
  induction m with
  | zero =>
    intro n t T' F' h1 h2 h3 hp
    obtain ⟨n, rfl⟩ : ∃ j, n = j + 1 := ⟨n - 1, by omega⟩
    have : t = G := by omega
    subst this
    rw [k_X0_followThings_10, if_pos (nI_le (Nat.le_refl _) (by omega))]
    exact ⟨T', F', false, rfl, hp⟩
  | succ m ih =>
    intro n t T' F' h1 h2 h3 hp
    obtain ⟨n, rfl⟩ : ∃ j, n = j + 1 := ⟨n - 1, by omega⟩
    have go : ∀ (T2 F2 : Int32) (fl : Bool), Pg N Cl (tRw G (bl (J 0)) (bl (J 1)) (wC a) (bC a)) A0 A1 T0 F0 (bt T2) (bt F2) fl (tQ N (bl (J 0)) (bl (J 1)) (a 0) (a 1) (wC a) (bC a) (t + 1)) → ∃ (T3 F3 : Int32) (f3 : Bool), k_X0_followThings_10 F I J a b n (nI G) (nI t + 1) T2 F2 (zf fl) = some (T3, F3, zf f3) ∧ Pg N Cl (tRw G (bl (J 0)) (bl (J 1)) (wC a) (bC a)) A0 A1 T0 F0 (bt T3) (bt F3) f3 (tQ N (bl (J 0)) (bl (J 1)) (a 0) (a 1) (wC a) (bC a) G) := fun T2 F2 fl hq => by
      cases fl
      · rw [nI_1]
        exact ih n (t + 1) T2 F2 (by omega) (by omega) (by omega) hq
      · exact ⟨T2, F2, true, things_stop F n (by omega) _ _ T2 F2, hq.stop⟩
    have hI5 : (fu (fu (fu I 8 T') 9 F') 10 0) 5 = nI G := h5
    have hI4 : (fu (fu (fu I 8 T') 9 F') 10 0) 4 = nI N := h4
    rw [k_X0_followThings_10, if_neg (nI_ge (by omega) (by omega)), if_pos rfl, isRow_c F hG hI5 (by omega), ob_s]
    cases hs : bl (J 0) t
    · rw [Bool.false_and, if_pos zf_0, stands_c F hG hI5 (by omega), ob_s, hs, if_pos zf_0]
      exact go T' F' false (hp.weak (fun T F h => tQ_next h (fun x => by rw [hs] at x; cases x)))
    · have ht := hth t (by omega) hs
      cases hr : bl (J 1) t
      · rw [Bool.true_and, if_pos zf_0, stands_c F hG hI5 (by omega), ob_s, hs, if_neg (by decide)]
        unfold f_X5_wantedTrue f_X5_wantedFalse
        rw [gd_nI (by omega) (by decide), gd_nI (by omega) (by decide), nI_clamp (by omega), ob_s, ob_s]
        obtain ⟨hm1, hm2⟩ := ht.1 hr
        obtain ⟨T2, F2, fl, e1, e2⟩ := fc_c F (I := fu (fu (fu I 8 T') 9 F') 10 0) (J := J) (a := a) (b := b) (hm1.mono hN) (hm2.mono hN) hp.2.1 rfl
        rw [e1, ob_s]
        have hq := CSt.pg (n := N) (Cl := Cl) (Rw := tRw G (bl (J 0)) (bl (J 1)) (wC a) (bC a)) (A0 := A0) (A1 := A1) e2 (hcl _ _ ⟨t, by omega, hs, hr, rfl, rfl⟩) hm1 hm2 hp.2.1 hp.2.2.1 hp.2.2.2.1 hp.2.2.2.2.1
        exact go T2 F2 fl (hp.then hq (fun T F q1 q2 => tQ_next q1 (fun _ => ⟨fun _ => q2, fun x => by rw [hr] at x; cases x⟩)))
      · rw [Bool.true_and, if_neg (by decide)]
        obtain ⟨hw, hB⟩ := ht.2 hr
        obtain ⟨T2, F2, fl, e1, e2⟩ := fr_c hF (I := fu (fu (fu I 8 T') 9 F') 10 0) (J := J) (a := a) (b := b) (t := t) (by omega) hN hI4 hw hB hp.2.1 rfl
        rw [e1, ob_s]
        have hq := RSt.pg (n := N) (Cl := Cl) (Rw := tRw G (bl (J 0)) (bl (J 1)) (wC a) (bC a)) (A0 := A0) (A1 := A1) e2 ⟨t, by omega, hs, hr, rfl, rfl⟩ hp.2.1 hp.2.2.1 hp.2.2.2.1 hp.2.2.2.2.1
        exact go T2 F2 fl (hp.then hq (fun T F q1 q2 => tQ_next q1 (fun _ => ⟨fun x => absurd (hr.symm.trans x) (by decide), fun _ => q2⟩)))
theorem xQ_next {P N : Nat → Int32} {k : Nat} {T F : Nat → Bool} (h : xQ P N k T F) (h1 : ClAt (bt (P k)) (bt (N k)) T F) : xQ P N (k + 1) T F := fun j hj => by
  by_cases e : j = k
  · subst e
    exact h1
  · exact h j (by omega)
theorem lemmas_stop (F : Nat) {I : Nat → Int32} {J : Nat → Int64} {a : Nat → Nat → Int32} {b : Nat → Nat → Int64} (n : Nat) (hn : 0 < n) (v1 v2 T' F' : Int32) : k_X0_followLemmas_10 F I J a b n v1 v2 T' F' 1 = some (T', F', 1) := by
  obtain ⟨n, rfl⟩ : ∃ j, n = j + 1 := ⟨n - 1, by omega⟩
  rw [k_X0_followLemmas_10]
  by_cases c : v1 ≤ v2
  · rw [if_pos c]
  · rw [if_neg c, if_neg (by decide)]
theorem lemmas_loop (F : Nat) {N S : Nat} {I : Nat → Int32} {J : Nat → Int64} {a : Nat → Nat → Int32} {b : Nat → Nat → Int64} (hN : N ≤ 14) (hS : S ≤ 40) (hsm : ∀ k, k < S → sm N (a 4 k) ∧ sm N (a 5 k)) {Cl : ClT} {Rw : RwT} {A0 A1 T0 F0 : Nat → Bool} (hcl : ∀ p q, xCl S (a 4) (a 5) p q → Cl p q) :
    ∀ (m n t : Nat) (T' F' : Int32), t ≤ S → S - t = m → m < n → Pg N Cl Rw A0 A1 T0 F0 (bt T') (bt F') false (xQ (a 4) (a 5) t) →
      ∃ (T2 F2 : Int32) (fl : Bool), k_X0_followLemmas_10 F I J a b n (nI S) (nI t) T' F' 0 = some (T2, F2, zf fl) ∧ Pg N Cl Rw A0 A1 T0 F0 (bt T2) (bt F2) fl (xQ (a 4) (a 5) S) := by
  intro m
  induction m with
  | zero =>
    intro n t T' F' h1 h2 h3 hp
    obtain ⟨n, rfl⟩ : ∃ j, n = j + 1 := ⟨n - 1, by omega⟩
    have : t = S := by omega
    subst this
    rw [k_X0_followLemmas_10, if_pos (nI_le (Nat.le_refl _) (by omega))]
    exact ⟨T', F', false, rfl, hp⟩
  | succ m ih =>
    intro n t T' F' h1 h2 h3 hp
    obtain ⟨n, rfl⟩ : ∃ j, n = j + 1 := ⟨n - 1, by omega⟩
    have go : ∀ (T2 F2 : Int32) (fl : Bool), Pg N Cl Rw A0 A1 T0 F0 (bt T2) (bt F2) fl (xQ (a 4) (a 5) (t + 1)) → ∃ (T3 F3 : Int32) (f3 : Bool), k_X0_followLemmas_10 F I J a b n (nI S) (nI t + 1) T2 F2 (zf fl) = some (T3, F3, zf f3) ∧ Pg N Cl Rw A0 A1 T0 F0 (bt T3) (bt F3) f3 (xQ (a 4) (a 5) S) := fun T2 F2 fl hq => by
      cases fl
      · rw [nI_1]
        exact ih n (t + 1) T2 F2 (by omega) (by omega) (by omega) hq
      · exact ⟨T2, F2, true, lemmas_stop F n (by omega) _ _ T2 F2, hq.stop⟩
    rw [k_X0_followLemmas_10, if_neg (nI_ge (by omega) (by omega)), if_pos rfl]
    unfold f_X2_wantedTrue f_X2_wantedFalse
    rw [gd_nI (by omega) (by decide), gd_nI (by omega) (by decide), nI_clamp (by omega), ob_s, ob_s]
    obtain ⟨hm1, hm2⟩ := hsm t (by omega)
    obtain ⟨T2, F2, fl, e1, e2⟩ := fc_c F (I := fu (fu (fu I 8 T') 9 F') 10 0) (J := J) (a := a) (b := b) (hm1.mono hN) (hm2.mono hN) hp.2.1 rfl
    rw [e1, ob_s]
    have hq := CSt.pg (n := N) (Cl := Cl) (Rw := Rw) (A0 := A0) (A1 := A1) e2 (hcl _ _ ⟨t, by omega, rfl, rfl⟩) hm1 hm2 hp.2.1 hp.2.2.1 hp.2.2.2.1 hp.2.2.2.2.1
    exact go T2 F2 fl (hp.then hq (fun T F q1 q2 => xQ_next q1 q2))
