/-! AT ONCE in the reference: THINGS, the rounds -/
theorem skip_143 {F : Nat} (hF : 100 ≤ F) {I : Nat → Int32} {J : Nat → Int64} {a : Nat → Nat → Int32} {b : Nat → Nat → Int64} (kh : Int32 → Int32 → Int32 → Int32 → Int32 → Option (Int32 × Int32 × Int32 × Int32)) {v3 : Int32} (v4 T' F' f : Int32) (h : v3 ≠ 1 ∨ f ≠ 0) : k_X7_conflicts_143 F I J a b kh F v3 v4 0 T' F' f = k_X7_conflicts_204 F I J a b kh F v3 v4 0 T' F' f := by
  obtain ⟨n, hn⟩ : ∃ j, F = j + 1 := ⟨F - 1, by omega⟩
  have : ∀ n, k_X7_conflicts_143 F I J a b kh (n + 1) v3 v4 0 T' F' f = k_X7_conflicts_204 F I J a b kh F v3 v4 0 T' F' f := fun n => by
    rw [k_X7_conflicts_143]
    by_cases c : I 14 ≤ 0
    · rw [if_pos c]
    · rw [if_neg c]
      by_cases c2 : v3 = 1
      · rw [if_pos c2, if_neg (h.resolve_left (fun x => x c2))]
      · rw [if_neg c2]
  have h9 := this n
  rw [← hn] at h9
  exact h9
theorem skip_204 {F : Nat} (hF : 100 ≤ F) {I : Nat → Int32} {J : Nat → Int64} {a : Nat → Nat → Int32} {b : Nat → Nat → Int64} (kh : Int32 → Int32 → Int32 → Int32 → Int32 → Option (Int32 × Int32 × Int32 × Int32)) {v3 : Int32} (v4 T' F' f : Int32) (h : v3 ≠ 2 ∨ f ≠ 0) : k_X7_conflicts_204 F I J a b kh F v3 v4 0 T' F' f = kh v3 v4 T' F' f := by
  obtain ⟨n, hn⟩ : ∃ j, F = j + 1 := ⟨F - 1, by omega⟩
  have : ∀ n, k_X7_conflicts_204 F I J a b kh (n + 1) v3 v4 0 T' F' f = kh v3 v4 T' F' f := fun n => by
    rw [k_X7_conflicts_204]
    by_cases c : I 7 ≤ 0
    · rw [if_pos c]
    · rw [if_neg c]
      by_cases c2 : v3 = 2
      · rw [if_pos c2, if_neg (h.resolve_left (fun x => x c2))]
      · rw [if_neg c2]
  have h9 := this n
  rw [← hn] at h9
  exact h9
theorem things_m {F : Nat} (hF : 100 ≤ F) {N G : Nat} {I : Nat → Int32} {J : Nat → Int64} {a : Nat → Nat → Int32} {b : Nat → Nat → Int64} (hwf : WfM N G I a) {Cl : ClT} {A0 A1 T0 F0 : Nat → Bool} (hcl : ∀ p q, tCl G (stM a) (rwM a) (a 2) (a 3) p q → Cl p q) (kh : Int32 → Int32 → Int32 → Int32 → Int32 → Option (Int32 × Int32 × Int32 × Int32)) (v3 : Int32) :
    ∀ (m n t : Nat) (T' F' : Int32) (mb : Bool), t ≤ G → G - t = m → m < n → Pg N Cl (RwM G a) A0 A1 T0 F0 (bt T') (bt F') false (tQ N (stM a) (rwM a) (a 2) (a 3) (wM a) (bM a) t) → Mb N T0 F0 (bt T') (bt F') mb →
      ∃ (T2 F2 : Int32) (m2 fl : Bool), k_X7_conflicts_52 F I J a b kh n v3 (zf mb) (nI t) T' F' 0 = k_X7_conflicts_143 F I J a b kh F v3 (zf m2) 0 T2 F2 (zf fl) ∧ Pg N Cl (RwM G a) A0 A1 T0 F0 (bt T2) (bt F2) fl (tQ N (stM a) (rwM a) (a 2) (a 3) (wM a) (bM a) G) ∧ (fl = false → Mb N T0 F0 (bt T2) (bt F2) m2) := by
  obtain ⟨hN, hG, e0, e1, hth⟩ := hwf
  intro m
  induction m with
  | zero =>
    intro n t T' F' mb h1 h2 h3 hp hm
    obtain ⟨n, rfl⟩ : ∃ j, n = j + 1 := ⟨n - 1, by omega⟩
    have : t = G := by omega
    subst this
    rw [k_X7_conflicts_52, e1, if_pos (nI_le (Nat.le_refl _) (by omega))]
    exact ⟨T', F', mb, false, rfl, hp, fun _ => hm⟩
  | succ m ih =>
    intro n t T' F' mb h1 h2 h3 hp hm
    obtain ⟨n, rfl⟩ : ∃ j, n = j + 1 := ⟨n - 1, by omega⟩
    have go : ∀ (T2 F2 : Int32) (m1 fl : Bool), Pg N Cl (RwM G a) A0 A1 T0 F0 (bt T2) (bt F2) fl (tQ N (stM a) (rwM a) (a 2) (a 3) (wM a) (bM a) (t + 1)) → Mb N T0 F0 (bt T2) (bt F2) m1 →
        ∃ (T3 F3 : Int32) (m2 f3 : Bool), k_X7_conflicts_52 F I J a b kh n v3 (zf m1) (nI t + 1) T2 F2 (zf fl) = k_X7_conflicts_143 F I J a b kh F v3 (zf m2) 0 T3 F3 (zf f3) ∧ Pg N Cl (RwM G a) A0 A1 T0 F0 (bt T3) (bt F3) f3 (tQ N (stM a) (rwM a) (a 2) (a 3) (wM a) (bM a) G) ∧ (f3 = false → Mb N T0 F0 (bt T3) (bt F3) m2) := fun T2 F2 m1 fl hq hmm => by
      cases fl
      · rw [nI_1]
        exact ih n (t + 1) T2 F2 m1 (by omega) (by omega) (by omega) hq hmm
      · refine ⟨T2, F2, m1, true, ?_, hq.stop, fun h => absurd h (by decide)⟩
        obtain ⟨n, rfl⟩ : ∃ j, n = j + 1 := ⟨n - 1, by omega⟩
        rw [k_X7_conflicts_52]
        by_cases c : I 1 ≤ nI t + 1
        · rw [if_pos c]
        · rw [if_neg c, if_neg (by decide)]
    have k115 : ∀ (T2 F2 : Int32) (mo fl : Bool), k_X7_conflicts_115 F I J a b kh (k_X7_conflicts_52 F I J a b kh n) v3 (zf mb) (nI t) (zf mo) T2 F2 (zf fl) = k_X7_conflicts_52 F I J a b kh n v3 (zf (mb || mo)) (nI t + 1) T2 F2 (zf fl) := fun T2 F2 mo fl => by
      unfold k_X7_conflicts_115
      cases mb <;> cases mo <;> rfl
    rw [k_X7_conflicts_52, e1, if_neg (nI_ge (by omega) (by omega)), if_pos rfl, gd_nI (by omega) (by decide), nI_clamp (by omega)]
    by_cases hs0 : a 0 t = 0
    · rw [if_pos hs0]
      refine go T' F' mb false (hp.weak (fun T F h => tQ_next h (fun x => ?_))) hm
      simp [hs0] at x
    · rw [if_neg hs0, gd_nI (by omega) (by decide)]
      have hs : stM a t = true := by simp [hs0]
      have ht := hth t (by omega) hs
      by_cases hr0 : a 1 t = 0
      · rw [if_pos hr0, gd_nI (by omega) (by decide), gd_nI (by omega) (by decide)]
        have hr : rwM a t = false := by simp [hr0]
        obtain ⟨hm1, hm2⟩ := ht.1 hr
        obtain ⟨T2, F2, mo, fl, g1, g2, g3⟩ := fc_m2 (F := F) (by omega) hN (I := fu (fu (fu I 10 T') 11 F') 12 0) (J := J) (a := a) (b := b) hm1 hm2 hp.2.1 rfl
        rw [g1, ob_s]
        dsimp only
        rw [k115]
        have hq := CSt.pg (n := N) (Cl := Cl) (Rw := RwM G a) (A0 := A0) (A1 := A1) g2 (hcl _ _ ⟨t, by omega, hs, hr, rfl, rfl⟩) hm1 hm2 hp.2.1 hp.2.2.1 hp.2.2.2.1 hp.2.2.2.2.1
        exact go T2 F2 (mb || mo) fl (hp.then hq (fun T F q1 q2 => tQ_next q1 (fun _ => ⟨fun _ => q2, fun x => absurd (hr.symm.trans x) (by decide)⟩))) (hm.go hq.1 g3)
      · rw [if_neg hr0]
        have hr : rwM a t = true := by simp [hr0]
        have hw := ht.2 hr
        obtain ⟨T2, F2, mo, fl, g1, g2, g3⟩ := fr_m (F := F) (by omega) (I := fu (fu (fu I 10 T') 11 F') 12 0) (J := J) (a := a) (b := b) (t := t) (by omega) hN e0 hw hp.2.1 rfl
        rw [g1, ob_s]
        dsimp only
        rw [k115]
        have hq := RSt.pg (n := N) (Cl := Cl) (Rw := RwM G a) (A0 := A0) (A1 := A1) g2 ⟨t, by omega, hs, hr, rfl, rfl⟩ hp.2.1 hp.2.2.1 hp.2.2.2.1 hp.2.2.2.2.1
        exact go T2 F2 (mb || mo) fl (hp.then hq (fun T F q1 q2 => tQ_next q1 (fun _ => ⟨fun x => absurd (hr.symm.trans x) (by decide), fun _ => q2⟩))) (hm.go hq.1 ⟨g3.1, fun h => (g3.2 h).2⟩)
def XOkM (N : Nat) (I : Nat → Int32) (a : Nat → Nat → Int32) (v3 : Int32) (S : Nat) (XP XN : Nat → Int32) : Prop :=
  (v3 = 0 ∧ S = 0) ∨ (v3 = 2 ∧ XP = a 7 ∧ XN = a 8 ∧ S ≤ 40 ∧ I 7 = nI S ∧ ∀ k, k < S → sm N (a 7 k) ∧ sm N (a 8 k)) ∨
  (v3 = 1 ∧ XP = a 10 ∧ XN = (fun _ => 0) ∧ S ≤ 20000 ∧ I 14 = nI S ∧ ∀ k, k < S → sm N (a 10 k))
abbrev qM (N G : Nat) (a : Nat → Nat → Int32) (S : Nat) (XP XN : Nat → Int32) (T F : Nat → Bool) : Prop := tQ N (stM a) (rwM a) (a 2) (a 3) (wM a) (bM a) G T F ∧ xQ XP XN S T F
theorem round_m {F : Nat} (hF : 30000 ≤ F) {N G S : Nat} {I : Nat → Int32} {J : Nat → Int64} {a : Nat → Nat → Int32} {b : Nat → Nat → Int64} {v3 : Int32} {XP XN : Nat → Int32} (hwf : WfM N G I a) (hX : XOkM N I a v3 S XP XN) {A0 A1 : Nat → Bool} (T' F' : Int32)
    (h1 : ∀ i, bt T' i = true → bt F' i = false) (h2 : sm N T') (h3 : sm N F') (h4 : Bel N (ClM G a S XP XN) (RwM G a) A0 A1 (bt T') (bt F')) (kh : Int32 → Int32 → Int32 → Int32 → Int32 → Option (Int32 × Int32 × Int32 × Int32)) :
    ∃ (T2 F2 : Int32) (m2 fl : Bool), k_X7_conflicts_52 F I J a b kh F v3 0 0 T' F' 0 = kh v3 (zf m2) T2 F2 (zf fl) ∧ Pg N (ClM G a S XP XN) (RwM G a) A0 A1 (bt T') (bt F') (bt T2) (bt F2) fl (qM N G a S XP XN) ∧ (fl = false → Mb N (bt T') (bt F') (bt T2) (bt F2) m2) := by
  have hwf' := hwf
  obtain ⟨hN, hG, -, -, -⟩ := hwf'
  have hp0 : Pg N (ClM G a S XP XN) (RwM G a) A0 A1 (bt T') (bt F') (bt T') (bt F') false (tQ N (stM a) (rwM a) (a 2) (a 3) (wM a) (bM a) 0) := Pg.start h1 h2 h3 h4 (fun u hu => by omega)
  have hm0 : Mb N (bt T') (bt F') (bt T') (bt F') false := ⟨fun _ => ⟨rfl, rfl⟩, fun h => absurd h (by decide)⟩
  obtain ⟨T1, F1, m1, f1, g1, g2, g3⟩ := things_m (F := F) (by omega) (J := J) (b := b) hwf (Cl := ClM G a S XP XN) (fun p q h => Or.inl h) kh v3 G F 0 T' F' false (by omega) (by omega) (by omega) hp0 hm0
  have ht : k_X7_conflicts_52 F I J a b kh F v3 0 0 T' F' 0 = k_X7_conflicts_143 F I J a b kh F v3 (zf m1) 0 T1 F1 (zf f1) := g1
  rw [ht]
  cases f1
  · rcases hX with ⟨rfl, rfl⟩ | ⟨rfl, rfl, rfl, hS, e7, hsm⟩ | ⟨rfl, rfl, rfl, hS, e14, hsm⟩
    · rw [skip_143 (by omega) kh _ _ _ _ (Or.inl (by decide)), skip_204 (by omega) kh _ _ _ _ (Or.inl (by decide))]
      exact ⟨T1, F1, m1, false, rfl, g2.weak (fun T F q => ⟨q, fun k hk => by omega⟩), g3⟩
    · rw [skip_143 (by omega) kh _ _ _ _ (Or.inl (by decide))]
      exact lem_m (F := F) (by omega) (J := J) (b := b) hN hS e7 hsm (Cl := ClM G a S (a 7) (a 8)) (fun p q h => Or.inr h) kh S F 0 T1 F1 m1 (by omega) (by omega) (by omega) (g2.weak (fun T F q => ⟨q, fun k hk => by omega⟩)) (g3 rfl)
    · obtain ⟨T2, F2, m2, f2, k1, k2, k3⟩ := lrn_m (F := F) (by omega) (J := J) (b := b) hN hS e14 hsm (Cl := ClM G a S (a 10) (fun _ => 0)) (fun p q h => Or.inr h) kh S F 0 T1 F1 m1 (by omega) (by omega) (by omega) (g2.weak (fun T F q => ⟨q, fun k hk => by omega⟩)) (g3 rfl)
      have k1' : k_X7_conflicts_143 F I J a b kh F 1 (zf m1) 0 T1 F1 (zf false) = k_X7_conflicts_204 F I J a b kh F 1 (zf m2) 0 T2 F2 (zf f2) := k1
      rw [k1', skip_204 (by omega) kh _ _ _ _ (Or.inl (by decide))]
      exact ⟨T2, F2, m2, f2, rfl, k2, k3⟩
  · rw [skip_143 (by omega) kh _ _ _ _ (Or.inr (by decide)), skip_204 (by omega) kh _ _ _ _ (Or.inr (by decide))]
    exact ⟨T1, F1, m1, true, rfl, g2.stop, g3⟩
theorem rounds_m {F : Nat} (hF : 30000 ≤ F) {N G S : Nat} {I : Nat → Int32} {J : Nat → Int64} {a : Nat → Nat → Int32} {b : Nat → Nat → Int64} {v3 : Int32} {XP XN : Nat → Int32} (hwf : WfM N G I a) (hX : XOkM N I a v3 S XP XN) {A0 A1 : Nat → Bool} :
    ∀ (m n : Nat) (T' F' : Int32), N - kc N (bt T') (bt F') = m → m + 1 < n → (∀ i, bt T' i = true → bt F' i = false) → sm N T' → sm N F' → Bel N (ClM G a S XP XN) (RwM G a) A0 A1 (bt T') (bt F') →
      ∃ (T2 F2 : Int32) (fl : Bool), k_X7_conflicts_34 F I J a b n v3 1 T' F' 0 = some (zf fl, T2, F2, zf fl) ∧ Out N (ClM G a S XP XN) (RwM G a) A0 A1 (bt T2) (bt F2) fl ∧ sm N T2 ∧ sm N F2 := by
  have fin : ∀ (n : Nat) (v4 : Int32) (T2 F2 : Int32) (fl : Bool), 0 < n → (v4 = 0 ∨ fl = true) → k_X7_conflicts_34 F I J a b n v3 v4 T2 F2 (zf fl) = some (zf fl, T2, F2, zf fl) := by
    intro n v4 T2 F2 fl hn h
    obtain ⟨n, rfl⟩ : ∃ j, n = j + 1 := ⟨n - 1, by omega⟩
    have hg : gz (zf fl) (some (zf fl, T2, F2, zf fl)) = some (zf fl, T2, F2, zf fl) := by
      unfold gz
      rw [if_pos (by cases fl; exact Or.inl rfl; exact Or.inr rfl)]
    rw [k_X7_conflicts_34]
    by_cases c2 : v4 = 0
    · rw [if_pos c2, hg]
    · rw [if_neg c2]
      rcases h with h | rfl
      · exact absurd h c2
      · rw [if_neg (by decide), hg]
  intro m
  induction m using Nat.strongRecOn with
  | ind m ih =>
    intro n T' F' h1 h2 h3 h4 h5 h6
    obtain ⟨n, rfl⟩ : ∃ j, n = j + 1 := ⟨n - 1, by omega⟩
    obtain ⟨T2, F2, m2, fl, e1, e2, e3⟩ := round_m hF (J := J) (b := b) hwf hX T' F' h3 h4 h5 h6 (k_X7_conflicts_34 F I J a b n)
    rw [k_X7_conflicts_34, if_neg (by decide), if_pos rfl, e1]
    obtain ⟨q1, q2, q3, q4, q5, q6, q7⟩ := e2
    cases fl
    · have hm := e3 rfl
      cases m2
      · obtain ⟨d1, d2⟩ := hm.1 rfl
        refine ⟨T2, F2, false, fin n _ T2 F2 false (by omega) (Or.inl rfl), Or.inr ⟨rfl, ?_⟩, q3, q4⟩
        have hq := q7 rfl d1 d2
        rw [← d1, ← d2] at hq
        exact lst_of hq.1 hq.2 q2 q5
      · obtain ⟨k, y1, y2, y3, y4⟩ := hm.2 rfl
        have g := kc_grow (n := N) q1 y1 y2 y3 y4
        have l1 := kc_le N (bt T2) (bt F2)
        exact ih (N - kc N (bt T2) (bt F2)) (by omega) n T2 F2 rfl (by omega) q2 q3 q4 q5
    · exact ⟨T2, F2, true, fin n _ T2 F2 true (by omega) (Or.inr rfl), Or.inl ⟨rfl, q6 rfl⟩, q3, q4⟩
theorem conflicts_m {F : Nat} (hF : 30000 ≤ F) {N G S : Nat} {I : Nat → Int32} {J : Nat → Int64} {a : Nat → Nat → Int32} {b : Nat → Nat → Int64} {v3 : Int32} {XP XN : Nat → Int32} (hwf : WfM N G I a) (hX : XOkM N I a v3 S XP XN) {v1 v2 : Int32} (h1 : sm N v1) (h2 : sm N v2) :
    ∃ (T2 F2 : Int32) (fl : Bool), f_X7_conflicts F I J a b v1 v2 v3 = some (zf fl, T2, F2, zf fl) ∧ Out N (ClM G a S XP XN) (RwM G a) (bt v1) (bt v2) (bt T2) (bt F2) fl ∧ sm N T2 ∧ sm N F2 := by
  unfold f_X7_conflicts
  have hN := hwf.1
  by_cases c : v1 &&& v2 = 0
  · rw [if_pos c]
    exact rounds_m hF hwf hX _ F v1 v2 rfl (by omega) (b_dis c) h1 h2 Bel.start
  · rw [if_neg c]
    refine ⟨v1, v2, true, ?_, Or.inl ⟨rfl, ?_⟩, h1, h2⟩
    · obtain ⟨n, hn⟩ : ∃ j, F = j + 1 := ⟨F - 1, by omega⟩
      have hg : gz 1 (some ((1 : Int32), v1, v2, (1 : Int32))) = some (1, v1, v2, 1) := by
        unfold gz
        rw [if_pos (Or.inr rfl)]
      have : ∀ n, k_X7_conflicts_34 F I J a b (n + 1) v3 1 v1 v2 1 = some (1, v1, v2, 1) := fun n => by
        rw [k_X7_conflicts_34, if_neg (by decide), if_neg (by decide), hg]
      have h9 := this n
      rw [← hn] at h9
      exact h9
    · obtain ⟨i, x, y⟩ := b_meet c
      exact Bel.start.bad (Or.inl ⟨i, x, y⟩)
