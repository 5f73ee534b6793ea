/-! AT ONCE in the reference: f_X7_conflicts -/
abbrev stM (a : Nat → Nat → Int32) : Nat → Bool := fun t => !decide (a 0 t = 0)
abbrev rwM (a : Nat → Nat → Int32) : Nat → Bool := fun t => !decide (a 1 t = 0)
abbrev wM (a : Nat → Nat → Int32) : Nat → Nat → Int := fun t i => (a 5 (14 * t + i)).toInt
abbrev bM (a : Nat → Nat → Int32) : Nat → Int := fun t => (a 4 t).toInt
def WfM (N G : Nat) (I : Nat → Int32) (a : Nat → Nat → Int32) : Prop :=
  N ≤ 14 ∧ G ≤ 60 ∧ I 0 = nI N ∧ I 1 = nI G ∧
  ∀ t, t < G → stM a t = true → (rwM a t = false → sm N (a 2 t) ∧ sm N (a 3 t)) ∧ (rwM a t = true → ∀ i, i < 14 → -20 ≤ (a 5 (14 * t + i)).toInt ∧ (a 5 (14 * t + i)).toInt ≤ 20)
abbrev ClM (G : Nat) (a : Nat → Nat → Int32) (S : Nat) (XP XN : Nat → Int32) : ClT := fun p q => tCl G (stM a) (rwM a) (a 2) (a 3) p q ∨ xCl S XP XN p q
abbrev RwM (G : Nat) (a : Nat → Nat → Int32) : RwT := tRw G (stM a) (rwM a) (wM a) (bM a)
/-- whether more came -/
def Mb (N : Nat) (T0 F0 T' F' : Nat → Bool) (mb : Bool) : Prop := (mb = false → T' = T0 ∧ F' = F0) ∧ (mb = true → ∃ k, k < N ∧ T0 k = false ∧ F0 k = false ∧ (T' k = true ∨ F' k = true))
theorem Mb.go {N : Nat} {T0 F0 T1 F1 T2 F2 : Nat → Bool} {m1 m2 : Bool} (h1 : Mb N T0 F0 T1 F1 m1) (hs : sub2 T1 F1 T2 F2) (h2 : Mb N T1 F1 T2 F2 m2) : Mb N T0 F0 T2 F2 (m1 || m2) := by
  cases m1
  · obtain ⟨rfl, rfl⟩ := h1.1 rfl
    exact h2
  · refine ⟨fun h => absurd h (by simp), fun _ => ?_⟩
    obtain ⟨k, a, b, c, d⟩ := h1.2 rfl
    exact ⟨k, a, b, c, d.elim (fun x => Or.inl (hs.1 k x)) (fun x => Or.inr (hs.2 k x))⟩
theorem CSt.mb {N : Nat} {P Q T F T' F' : Nat → Bool} {fl : Bool} (h : CSt P Q T F T' F' fl) (hP : ∀ i, P i = true → i < N) (hQ : ∀ i, Q i = true → i < N) {mo : Bool} (h1 : mo = false → T' = T ∧ F' = F) (h2 : mo = true → ¬ (T' = T ∧ F' = F)) : Mb N T F T' F' mo := by
  refine ⟨h1, fun hm => ?_⟩
  have hn := h2 hm
  rcases h with ⟨-, rfl, rfl, -⟩ | ⟨-, rfl, rfl, -⟩ | ⟨-, k, a, b, c, -, -, rfl, rfl⟩ | ⟨-, k, a, b, c, -, -, rfl, rfl⟩
  · exact absurd ⟨rfl, rfl⟩ hn
  · exact absurd ⟨rfl, rfl⟩ hn
  · exact ⟨k, hP k a, c, b, Or.inl (by simp [fset])⟩
  · exact ⟨k, hQ k a, b, c, Or.inr (by simp [fset])⟩
/-- a clause in the reference, with 'more' as a flag -/
theorem fc_m2 {F : Nat} (hF : 20 ≤ F) {N : Nat} (hN : N ≤ 14) {I : Nat → Int32} {J : Nat → Int64} {a : Nat → Nat → Int32} {b : Nat → Nat → Int64} {P Q : Int32} (hP : sm N P) (hQ : sm N Q) (hd : ∀ i, bt (I 10) i = true → bt (I 11) i = false) (h12 : I 12 = 0) :
    ∃ (T' F' : Int32) (mo fl : Bool), f_X7_byClause F I J a b P Q = some (zf mo, T', F', zf fl) ∧ CSt (bt P) (bt Q) (bt (I 10)) (bt (I 11)) (bt T') (bt F') fl ∧ Mb N (bt (I 10)) (bt (I 11)) (bt T') (bt F') mo := by
  obtain ⟨mo, T', F', fl, e1, e2, e3⟩ := fc_m hF (J := J) (a := a) (b := b) (hP.mono hN) (hQ.mono hN) hd h12
  rcases e3 with ⟨rfl, g1, g2⟩ | ⟨rfl, g1, g2⟩
  · exact ⟨T', F', false, fl, e1, e2, e2.mb hP hQ (fun _ => ⟨by rw [g1], by rw [g2]⟩) (fun h => absurd h (by decide))⟩
  · exact ⟨T', F', true, fl, e1, e2, e2.mb hP hQ (fun h => absurd h (by decide)) (fun _ => g2)⟩
theorem mo_z {mb mo : Bool} {β : Type} {A B : β} : (if zf mb = 0 then (if zf mo = 0 then A else B) else B) = if (mb || mo) = false then A else B := by
  cases mb <;> cases mo <;> rfl
theorem lem_m {F : Nat} (hF : 20 ≤ F) {N S : Nat} {I : Nat → Int32} {J : Nat → Int64} {a : Nat → Nat → Int32} {b : Nat → Nat → Int64} (hN : N ≤ 14) (hS : S ≤ 40) (h7 : I 7 = nI S) (hsm : ∀ k, k < S → sm N (a 7 k) ∧ sm N (a 8 k)) {Cl : ClT} {Rw : RwT} {A0 A1 T0 F0 : Nat → Bool} (hcl : ∀ p q, xCl S (a 7) (a 8) p q → Cl p q) (kh : Int32 → Int32 → Int32 → Int32 → Int32 → Option (Int32 × Int32 × Int32 × Int32)) {Q : (Nat → Bool) → (Nat → Bool) → Prop} :
    ∀ (m n t : Nat) (T' F' : Int32) (mb : Bool), t ≤ S → S - t = m → m < n → Pg N Cl Rw A0 A1 T0 F0 (bt T') (bt F') false (fun T F => Q T F ∧ xQ (a 7) (a 8) t T F) → Mb N T0 F0 (bt T') (bt F') mb →
      ∃ (T2 F2 : Int32) (m2 fl : Bool), k_X7_conflicts_204 F I J a b kh n 2 (zf mb) (nI t) T' F' 0 = kh 2 (zf m2) T2 F2 (zf fl) ∧ Pg N Cl Rw A0 A1 T0 F0 (bt T2) (bt F2) fl (fun T F => Q T F ∧ xQ (a 7) (a 8) S T F) ∧ (fl = false → Mb N T0 F0 (bt T2) (bt F2) m2) := by
  intro m
  induction m with
  | zero =>
    intro n t T' F' mb h1 h2 h3 hp hm
    obtain ⟨n, rfl⟩ : ∃ j, n = j + 1 := ⟨n - 1, by omega⟩
    have : t = S := by omega
    subst this
    rw [k_X7_conflicts_204, h7, if_pos (nI_le (Nat.le_refl _) (by omega))]
    exact ⟨T', F', mb, false, rfl, hp, fun _ => hm⟩
  | succ m ih =>
    intro n t T' F' mb h1 h2 h3 hp hm
    obtain ⟨n, rfl⟩ : ∃ j, n = j + 1 := ⟨n - 1, by omega⟩
    obtain ⟨hm1, hm2⟩ := hsm t (by omega)
    obtain ⟨T2, F2, mo, fl, e1, e2, e3⟩ := fc_m2 hF hN (I := fu (fu (fu I 10 T') 11 F') 12 0) (J := J) (a := a) (b := b) hm1 hm2 hp.2.1 rfl
    have hq := CSt.pg (n := N) (Cl := Cl) (Rw := Rw) (A0 := A0) (A1 := A1) e2 (hcl _ _ ⟨t, by omega, rfl, rfl⟩) hm1 hm2 hp.2.1 hp.2.2.1 hp.2.2.2.1 hp.2.2.2.2.1
    have hpq : Pg N Cl Rw A0 A1 T0 F0 (bt T2) (bt F2) fl (fun T F => Q T F ∧ xQ (a 7) (a 8) (t + 1) T F) := hp.then hq (fun T F q1 q2 => ⟨q1.1, xQ_next q1.2 q2⟩)
    have hmm : Mb N T0 F0 (bt T2) (bt F2) (mb || mo) := hm.go hq.1 e3
    have go : ∃ (T3 F3 : Int32) (m2 f3 : Bool), k_X7_conflicts_204 F I J a b kh n 2 (zf (mb || mo)) (nI t + 1) T2 F2 (zf fl) = kh 2 (zf m2) T3 F3 (zf f3) ∧ Pg N Cl Rw A0 A1 T0 F0 (bt T3) (bt F3) f3 (fun T F => Q T F ∧ xQ (a 7) (a 8) S T F) ∧ (f3 = false → Mb N T0 F0 (bt T3) (bt F3) m2) := by
      cases fl
      · rw [nI_1]
        exact ih n (t + 1) T2 F2 (mb || mo) (by omega) (by omega) (by omega) hpq hmm
      · refine ⟨T2, F2, mb || mo, true, ?_, hpq.stop, fun h => absurd h (by decide)⟩
        obtain ⟨n, rfl⟩ : ∃ j, n = j + 1 := ⟨n - 1, by omega⟩
        rw [k_X7_conflicts_204]
        by_cases c : I 7 ≤ nI t + 1
        · rw [if_pos c]
        · rw [if_neg c, if_pos rfl, if_neg (by decide)]
    obtain ⟨T3, F3, m2, f3, g1, g2⟩ := go
    refine ⟨T3, F3, m2, f3, ?_, g2⟩
    rw [k_X7_conflicts_204, h7, if_neg (nI_ge (by omega) (by omega)), if_pos rfl, if_pos rfl, gd_nI (by omega) (by decide), gd_nI (by omega) (by decide), nI_clamp (by omega), e1, ob_s]
    rw [← g1]
    cases mb <;> cases mo <;> rfl
theorem lrn_m {F : Nat} (hF : 100 ≤ F) {N S : Nat} {I : Nat → Int32} {J : Nat → Int64} {a : Nat → Nat → Int32} {b : Nat → Nat → Int64} (hN : N ≤ 14) (hS : S ≤ 20000) (h14 : I 14 = nI S) (hsm : ∀ k, k < S → sm N (a 10 k)) {Cl : ClT} {Rw : RwT} {A0 A1 T0 F0 : Nat → Bool} (hcl : ∀ p q, xCl S (a 10) (fun _ => 0) p q → Cl p q) (kh : Int32 → Int32 → Int32 → Int32 → Int32 → Option (Int32 × Int32 × Int32 × Int32)) {Q : (Nat → Bool) → (Nat → Bool) → Prop} :
    ∀ (m n t : Nat) (T' F' : Int32) (mb : Bool), t ≤ S → S - t = m → m < n → Pg N Cl Rw A0 A1 T0 F0 (bt T') (bt F') false (fun T F => Q T F ∧ xQ (a 10) (fun _ => 0) t T F) → Mb N T0 F0 (bt T') (bt F') mb →
      ∃ (T2 F2 : Int32) (m2 fl : Bool), k_X7_conflicts_143 F I J a b kh n 1 (zf mb) (nI t) T' F' 0 = k_X7_conflicts_204 F I J a b kh F 1 (zf m2) 0 T2 F2 (zf fl) ∧ Pg N Cl Rw A0 A1 T0 F0 (bt T2) (bt F2) fl (fun T F => Q T F ∧ xQ (a 10) (fun _ => 0) S T F) ∧ (fl = false → Mb N T0 F0 (bt T2) (bt F2) m2) := by
  intro m
  induction m with
  | zero =>
    intro n t T' F' mb h1 h2 h3 hp hm
    obtain ⟨n, rfl⟩ : ∃ j, n = j + 1 := ⟨n - 1, by omega⟩
    have : t = S := by omega
    subst this
    rw [k_X7_conflicts_143, h14, if_pos (nI_le (Nat.le_refl _) (by omega))]
    exact ⟨T', F', mb, false, rfl, hp, fun _ => hm⟩
  | succ m ih =>
    intro n t T' F' mb h1 h2 h3 hp hm
    obtain ⟨n, rfl⟩ : ∃ j, n = j + 1 := ⟨n - 1, by omega⟩
    have hm1 := hsm t (by omega)
    obtain ⟨T2, F2, mo, fl, e1, e2, e3⟩ := fc_m2 (F := F) (by omega) hN (I := fu (fu (fu I 10 T') 11 F') 12 0) (J := J) (a := a) (b := b) hm1 (sm.z (n := N)) hp.2.1 rfl
    have hq := CSt.pg (n := N) (Cl := Cl) (Rw := Rw) (A0 := A0) (A1 := A1) e2 (hcl _ _ ⟨t, by omega, rfl, rfl⟩) hm1 (sm.z (n := N)) hp.2.1 hp.2.2.1 hp.2.2.2.1 hp.2.2.2.2.1
    have hpq : Pg N Cl Rw A0 A1 T0 F0 (bt T2) (bt F2) fl (fun T F => Q T F ∧ xQ (a 10) (fun _ => 0) (t + 1) T F) := hp.then hq (fun T F q1 q2 => ⟨q1.1, xQ_next q1.2 q2⟩)
    have hmm : Mb N T0 F0 (bt T2) (bt F2) (mb || mo) := hm.go hq.1 e3
    have go : ∃ (T3 F3 : Int32) (m2 f3 : Bool), k_X7_conflicts_143 F I J a b kh n 1 (zf (mb || mo)) (nI t + 1) T2 F2 (zf fl) = k_X7_conflicts_204 F I J a b kh F 1 (zf m2) 0 T3 F3 (zf f3) ∧ Pg N Cl Rw A0 A1 T0 F0 (bt T3) (bt F3) f3 (fun T F => Q T F ∧ xQ (a 10) (fun _ => 0) S T F) ∧ (f3 = false → Mb N T0 F0 (bt T3) (bt F3) m2) := by
      cases fl
      · rw [nI_1]
        exact ih n (t + 1) T2 F2 (mb || mo) (by omega) (by omega) (by omega) hpq hmm
      · refine ⟨T2, F2, mb || mo, true, ?_, hpq.stop, fun h => absurd h (by decide)⟩
        obtain ⟨n, rfl⟩ : ∃ j, n = j + 1 := ⟨n - 1, by omega⟩
        rw [k_X7_conflicts_143]
        by_cases c : I 14 ≤ nI t + 1
        · rw [if_pos c]
        · rw [if_neg c, if_pos rfl, if_neg (by decide)]
    obtain ⟨T3, F3, m2, f3, g1, g2⟩ := go
    refine ⟨T3, F3, m2, f3, ?_, g2⟩
    rw [k_X7_conflicts_143, h14, if_neg (nI_ge (by omega) (by omega)), if_pos rfl, if_pos rfl, gd_nI (by omega) (by decide), nI_clamp (by omega), e1, ob_s]
    rw [← g1]
    cases mb <;> cases mo <;> rfl
