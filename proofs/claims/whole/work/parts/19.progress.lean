/-! a round AT ONCE: what holds on the way -/
def Pg (n : Nat) (Cl : ClT) (Rw : RwT) (A0 A1 T F T' F' : Nat → Bool) (fl : Bool) (Q : (Nat → Bool) → (Nat → Bool) → Prop) : Prop :=
  sub2 T F T' F' ∧ (∀ i, T' i = true → F' i = false) ∧ (∀ i, T' i = true → i < n) ∧ (∀ i, F' i = true → i < n) ∧ Bel n Cl Rw A0 A1 T' F' ∧ (fl = true → AllBad n Cl Rw A0 A1) ∧ (fl = false → T' = T → F' = F → Q T F)
theorem Pg.start {n : Nat} {Cl : ClT} {Rw : RwT} {A0 A1 T F : Nat → Bool} (h1 : ∀ i, T i = true → F i = false) (h2 : ∀ i, T i = true → i < n) (h3 : ∀ i, F i = true → i < n) (h4 : Bel n Cl Rw A0 A1 T F) {Q : (Nat → Bool) → (Nat → Bool) → Prop} (hQ : Q T F) : Pg n Cl Rw A0 A1 T F T F false Q :=
  ⟨sub2.rf, h1, h2, h3, h4, fun h => absurd h (by decide), fun _ _ _ => hQ⟩
theorem sub2.eq {T F T1 F1 T2 F2 : Nat → Bool} (h1 : sub2 T F T1 F1) (h2 : sub2 T1 F1 T2 F2) (e1 : T2 = T) (e2 : F2 = F) : T1 = T ∧ F1 = F := by
  subst e1 e2
  refine ⟨funext fun i => ?_, funext fun i => ?_⟩
  · have a := h1.1 i
    have b := h2.1 i
    cases hx : T2 i <;> cases hy : T1 i <;> rw [hx, hy] at a b <;> simp at a b ⊢
  · have a := h1.2 i
    have b := h2.2 i
    cases hx : F2 i <;> cases hy : F1 i <;> rw [hx, hy] at a b <;> simp at a b ⊢
theorem Pg.then {n : Nat} {Cl : ClT} {Rw : RwT} {A0 A1 T F T1 F1 T2 F2 : Nat → Bool} {fl : Bool} {Q1 Q2 Q : (Nat → Bool) → (Nat → Bool) → Prop} (h1 : Pg n Cl Rw A0 A1 T F T1 F1 false Q1) (h2 : Pg n Cl Rw A0 A1 T1 F1 T2 F2 fl Q2) (hQ : ∀ T F, Q1 T F → Q2 T F → Q T F) : Pg n Cl Rw A0 A1 T F T2 F2 fl Q := by
  refine ⟨h1.1.tr h2.1, h2.2.1, h2.2.2.1, h2.2.2.2.1, h2.2.2.2.2.1, h2.2.2.2.2.2.1, fun a b c => ?_⟩
  obtain ⟨e1, e2⟩ := h1.1.eq h2.1 b c
  subst e1 e2
  exact hQ _ _ (h1.2.2.2.2.2.2 rfl rfl rfl) (h2.2.2.2.2.2.2 a b c)
theorem Pg.stop {n : Nat} {Cl : ClT} {Rw : RwT} {A0 A1 T F T' F' : Nat → Bool} {Q1 Q2 : (Nat → Bool) → (Nat → Bool) → Prop} (h : Pg n Cl Rw A0 A1 T F T' F' true Q1) : Pg n Cl Rw A0 A1 T F T' F' true Q2 :=
  ⟨h.1, h.2.1, h.2.2.1, h.2.2.2.1, h.2.2.2.2.1, h.2.2.2.2.2.1, fun a => absurd a (by decide)⟩
theorem Pg.weak {n : Nat} {Cl : ClT} {Rw : RwT} {A0 A1 T F T' F' : Nat → Bool} {fl : Bool} {Q1 Q2 : (Nat → Bool) → (Nat → Bool) → Prop} (h : Pg n Cl Rw A0 A1 T F T' F' fl Q1) (hQ : ∀ T F, Q1 T F → Q2 T F) : Pg n Cl Rw A0 A1 T F T' F' fl Q2 :=
  ⟨h.1, h.2.1, h.2.2.1, h.2.2.2.1, h.2.2.2.2.1, h.2.2.2.2.2.1, fun a b c => hQ _ _ (h.2.2.2.2.2.2 a b c)⟩
theorem CSt.pg {n : Nat} {Cl : ClT} {Rw : RwT} {A0 A1 P N T F T' F' : Nat → Bool} {fl : Bool} (h : CSt P N T F T' F' fl) (hc : Cl P N) (hP : ∀ i, P i = true → i < n) (hN : ∀ i, N i = true → i < n) (h1 : ∀ i, T i = true → F i = false) (h2 : ∀ i, T i = true → i < n) (h3 : ∀ i, F i = true → i < n) (h4 : Bel n Cl Rw A0 A1 T F) : Pg n Cl Rw A0 A1 T F T' F' fl (ClAt P N) := by
  have hs := h.sub
  have hb := h.bel hc h4
  exact ⟨hs.1, h.dis h1, fun i x => (hs.2.1 i x).elim (h2 i) (hP i), fun i x => (hs.2.2 i x).elim (h3 i) (hN i), hb.1, hb.2, fun a b c => h.quiet a b c⟩
theorem RSt.pg {n : Nat} {Cl : ClT} {Rw : RwT} {A0 A1 : Nat → Bool} {w : Nat → Int} {B : Int} {T F T' F' : Nat → Bool} {fl : Bool} (h : RSt n w B T F T' F' fl) (hc : Rw w B) (h1 : ∀ i, T i = true → F i = false) (h2 : ∀ i, T i = true → i < n) (h3 : ∀ i, F i = true → i < n) (h4 : Bel n Cl Rw A0 A1 T F) : Pg n Cl Rw A0 A1 T F T' F' fl (RwAt n w B) := by
  have hs := h.sub
  have hb := h.bel hc h4
  exact ⟨hs.1, h.dis h1, fun i x => (hs.2.1 i x).elim (h2 i) id, fun i x => (hs.2.2 i x).elim (h3 i) id, hb.1, hb.2, fun a b c => h.quiet a b c h1⟩
/-! THINGS as clauses and rows -/
def tCl (G : Nat) (st rw : Nat → Bool) (P N : Nat → Int32) : ClT := fun p q => ∃ t, t < G ∧ st t = true ∧ rw t = false ∧ p = bt (P t) ∧ q = bt (N t)
def tRw (G : Nat) (st rw : Nat → Bool) (W : Nat → Nat → Int) (B : Nat → Int) : RwT := fun w c => ∃ t, t < G ∧ st t = true ∧ rw t = true ∧ w = W t ∧ c = B t
/-- the first t THINGS are quiet -/
def tQ (n : Nat) (st rw : Nat → Bool) (P N : Nat → Int32) (W : Nat → Nat → Int) (B : Nat → Int) (t : Nat) (T F : Nat → Bool) : Prop :=
  ∀ u, u < t → st u = true → (rw u = false → ClAt (bt (P u)) (bt (N u)) T F) ∧ (rw u = true → RwAt n (W u) (B u) T F)
/-- a list of clauses -/
def xCl (S : Nat) (P N : Nat → Int32) : ClT := fun p q => ∃ k, k < S ∧ p = bt (P k) ∧ q = bt (N k)
def xQ (P N : Nat → Int32) (k : Nat) (T F : Nat → Bool) : Prop := ∀ j, j < k → ClAt (bt (P j)) (bt (N j)) T F
/-- all quiet: closed, and not bad -/
theorem lst_of {n G S : Nat} {st rw : Nat → Bool} {P N : Nat → Int32} {W : Nat → Nat → Int} {B : Nat → Int} {XP XN : Nat → Int32} {A0 A1 T F : Nat → Bool}
    (h1 : tQ n st rw P N W B G T F) (h2 : xQ XP XN S T F) (hd : ∀ i, T i = true → F i = false) (hb : Bel n (fun p q => tCl G st rw P N p q ∨ xCl S XP XN p q) (tRw G st rw W B) A0 A1 T F) :
    Lst n (fun p q => tCl G st rw P N p q ∨ xCl S XP XN p q) (tRw G st rw W B) A0 A1 T F := by
  have hc : ∀ p q, (tCl G st rw P N p q ∨ xCl S XP XN p q) → ClAt p q T F := by
    rintro p q (⟨t, a, b, c, rfl, rfl⟩ | ⟨k, a, rfl, rfl⟩)
    · exact (h1 t a b).1 c
    · exact h2 k a
  have hr : ∀ w c, tRw G st rw W B w c → RwAt n w c T F := by
    rintro w c ⟨t, a, b, c', rfl, rfl⟩
    exact (h1 t a b).2 c'
  refine ⟨hb, ⟨fun p q h => (hc p q h).1, fun p q h => (hc p q h).2.1, fun w c h => (hr w c h).1, fun w c h => (hr w c h).2.1⟩, ?_⟩
  rintro (⟨i, x, y⟩ | ⟨p, q, h, x, y⟩ | ⟨w, c, h, x⟩)
  · rw [hd i x] at y
    cases y
  · exact (hc p q h).2.2 ⟨x, y⟩
  · exact (hr w c h).2.2 x
/-- what an AT ONCE gives -/
def Out (n : Nat) (Cl : ClT) (Rw : RwT) (A0 A1 T F : Nat → Bool) (fl : Bool) : Prop := (fl = true ∧ AllBad n Cl Rw A0 A1) ∨ (fl = false ∧ Lst n Cl Rw A0 A1 T F)
theorem Out.uniq {n : Nat} {Cl : ClT} {Rw : RwT} {A0 A1 T F T' F' : Nat → Bool} {fl fl' : Bool} (h : Out n Cl Rw A0 A1 T F fl) (h' : Out n Cl Rw A0 A1 T' F' fl') : fl = fl' ∧ (fl = false → T = T' ∧ F = F') := by
  rcases h with ⟨rfl, a⟩ | ⟨rfl, a⟩ <;> rcases h' with ⟨rfl, b⟩ | ⟨rfl, b⟩
  · exact ⟨rfl, fun h => absurd h (by decide)⟩
  · exact absurd a b.not
  · exact absurd b a.not
  · exact ⟨rfl, fun _ => a.uniq b⟩
/-- how many are known -/
def kc (n : Nat) (T F : Nat → Bool) : Nat := cnt (fun i => T i || F i) n
theorem cnt_mono {f g : Nat → Bool} : ∀ {n : Nat}, (∀ i, i < n → f i = true → g i = true) → cnt f n ≤ cnt g n
  | 0, _ => Nat.le_refl _
  | n + 1, h => by
    have h1 := cnt_mono (f := f) (g := g) (n := n) (fun i hi => h i (by omega))
    have h2 := h n (by omega)
    show cnt f n + (if f n = true then 1 else 0) ≤ cnt g n + (if g n = true then 1 else 0)
    cases hf : f n
    · simp
      omega
    · rw [h2 hf]
      simp
      omega
theorem cnt_grow {f g : Nat → Bool} {k : Nat} : ∀ {n : Nat}, k < n → (∀ i, i < n → f i = true → g i = true) → f k = false → g k = true → cnt f n < cnt g n
  | 0, hk, _, _, _ => absurd hk (by omega)
  | n + 1, hk, h, a, b => by
    show cnt f n + (if f n = true then 1 else 0) < cnt g n + (if g n = true then 1 else 0)
    by_cases e : k = n
    · subst e
      have h1 := cnt_mono (f := f) (g := g) (n := k) (fun i hi => h i (by omega))
      rw [a, b]
      simp
      omega
    · have h1 := cnt_grow (f := f) (g := g) (k := k) (n := n) (by omega) (fun i hi => h i (by omega)) a b
      have h2 := h n (by omega)
      cases hf : f n
      · simp
        omega
      · rw [h2 hf]
        simp
        omega
theorem kc_mono {n : Nat} {T F T' F' : Nat → Bool} (h : sub2 T F T' F') : kc n T F ≤ kc n T' F' := cnt_mono (fun i _ x => by
  rcases Bool.or_eq_true_iff.mp x with y | y
  · rw [h.1 i y]; rfl
  · rw [h.2 i y]; simp)
theorem kc_grow {n k : Nat} {T F T' F' : Nat → Bool} (h : sub2 T F T' F') (hk : k < n) (h1 : T k = false) (h2 : F k = false) (h3 : T' k = true ∨ F' k = true) : kc n T F < kc n T' F' := cnt_grow hk (fun i _ x => by
  rcases Bool.or_eq_true_iff.mp x with y | y
  · rw [h.1 i y]; rfl
  · rw [h.2 i y]; simp) (by rw [h1, h2]; rfl) (by rcases h3 with y | y <;> rw [y] <;> simp)
theorem kc_le (n : Nat) (T F : Nat → Bool) : kc n T F ≤ n := cnt_le _ n
