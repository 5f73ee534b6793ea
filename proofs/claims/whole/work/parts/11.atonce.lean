/-! AT ONCE, without an order: closed sets of what is known -/
/-- a sum over the first n numbers -/
def nsum (f : Nat → Int) : Nat → Int
  | 0 => 0
  | n + 1 => nsum f n + f n
theorem nsum_congr {f g : Nat → Int} : ∀ {n : Nat}, (∀ i, i < n → f i = g i) → nsum f n = nsum g n
  | 0, _ => rfl
  | n + 1, h => by
    show nsum f n + f n = nsum g n + g n
    rw [nsum_congr (fun i hi => h i (by omega)), h n (by omega)]
theorem nsum_le {f g : Nat → Int} : ∀ {n : Nat}, (∀ i, i < n → f i ≤ g i) → nsum f n ≤ nsum g n
  | 0, _ => Int.le_refl _
  | n + 1, h => by
    show nsum f n + f n ≤ nsum g n + g n
    have h1 := nsum_le (f := f) (g := g) (n := n) (fun i hi => h i (by omega))
    have h2 := h n (by omega)
    omega
/-- a sum with one place left out -/
theorem nsum_out {f : Nat → Int} {k : Nat} : ∀ {n : Nat}, k < n → nsum f n = nsum (fun i => if i = k then 0 else f i) n + f k
  | 0, h => absurd h (by omega)
  | n + 1, h => by
    show nsum f n + f n = nsum _ n + (if n = k then 0 else f n) + f k
    by_cases e : n = k
    · subst e
      rw [if_pos rfl, nsum_congr (g := f) (fun i hi => if_neg (by omega))]
      omega
    · have ih := nsum_out (f := f) (k := k) (n := n) (by omega)
      rw [if_neg e]
      omega
/-- what a name brings to the least sum of a row -/
def ctr (w : Nat → Int) (T F : Nat → Bool) (i : Nat) : Int := if (0 < w i ∧ T i = true) ∨ (w i < 0 ∧ F i = false) then w i else 0
def msum (n : Nat) (w : Nat → Int) (T F : Nat → Bool) : Int := nsum (ctr w T F) n
def msumx (n : Nat) (w : Nat → Int) (T F : Nat → Bool) (k : Nat) : Int := nsum (fun i => if i = k then 0 else ctr w T F i) n
def sub2 (T F T' F' : Nat → Bool) : Prop := (∀ i, T i = true → T' i = true) ∧ (∀ i, F i = true → F' i = true)
theorem sub2.rf {T F : Nat → Bool} : sub2 T F T F := ⟨fun _ h => h, fun _ h => h⟩
theorem sub2.tr {T F T' F' T2 F2 : Nat → Bool} (h : sub2 T F T' F') (h' : sub2 T' F' T2 F2) : sub2 T F T2 F2 := ⟨fun i x => h'.1 i (h.1 i x), fun i x => h'.2 i (h.2 i x)⟩
theorem ctr_mono {w : Nat → Int} {T F T' F' : Nat → Bool} (h : sub2 T F T' F') (i : Nat) : ctr w T F i ≤ ctr w T' F' i := by
  have h1 := h.1 i
  have h2 := h.2 i
  unfold ctr
  cases hT : T i <;> cases hF : F i <;> cases hT' : T' i <;> cases hF' : F' i <;> rw [hT, hT'] at h1 <;> rw [hF, hF'] at h2 <;> simp at h1 h2 ⊢ <;> (repeat' split) <;> omega
theorem msum_mono {n : Nat} {w : Nat → Int} {T F T' F' : Nat → Bool} (h : sub2 T F T' F') : msum n w T F ≤ msum n w T' F' := nsum_le (fun i _ => ctr_mono h i)
theorem msumx_mono {n : Nat} {w : Nat → Int} {T F T' F' : Nat → Bool} (h : sub2 T F T' F') (k : Nat) : msumx n w T F k ≤ msumx n w T' F' k := nsum_le (fun i _ => by
  by_cases e : i = k
  · rw [if_pos e, if_pos e]; exact Int.le_refl _
  · rw [if_neg e, if_neg e]; exact ctr_mono h i)
theorem msum_x {n k : Nat} (hk : k < n) (w : Nat → Int) (T F : Nat → Bool) : msum n w T F = msumx n w T F k + ctr w T F k := nsum_out hk
abbrev ClT : Type := (Nat → Bool) → (Nat → Bool) → Prop
abbrev RwT : Type := (Nat → Int) → Int → Prop
/-- nothing more comes of the clauses and rows -/
def Cld (n : Nat) (Cl : ClT) (Rw : RwT) (T F : Nat → Bool) : Prop :=
  (∀ P N, Cl P N → ∀ i, P i = true → (∀ j, P j = true → j ≠ i → F j = true) → (∀ j, N j = true → T j = true) → T i = true) ∧
  (∀ P N, Cl P N → ∀ i, N i = true → (∀ j, P j = true → F j = true) → (∀ j, N j = true → j ≠ i → T j = true) → F i = true) ∧
  (∀ w B, Rw w B → ∀ k, k < n → 0 < w k → B < msumx n w T F k + w k → F k = true) ∧
  (∀ w B, Rw w B → ∀ k, k < n → w k < 0 → B < msumx n w T F k → T k = true)
def Bad (n : Nat) (Cl : ClT) (Rw : RwT) (T F : Nat → Bool) : Prop :=
  (∃ i, T i = true ∧ F i = true) ∨ (∃ P N, Cl P N ∧ (∀ j, P j = true → F j = true) ∧ (∀ j, N j = true → T j = true)) ∨ (∃ w B, Rw w B ∧ B < msum n w T F)
theorem Bad.mono {n : Nat} {Cl : ClT} {Rw : RwT} {T F T' F' : Nat → Bool} (h : sub2 T F T' F') (hb : Bad n Cl Rw T F) : Bad n Cl Rw T' F' := by
  rcases hb with ⟨i, a, b⟩ | ⟨P, N, c, a, b⟩ | ⟨w, B, c, a⟩
  · exact Or.inl ⟨i, h.1 i a, h.2 i b⟩
  · exact Or.inr (Or.inl ⟨P, N, c, fun j x => h.2 j (a j x), fun j x => h.1 j (b j x)⟩)
  · exact Or.inr (Or.inr ⟨w, B, c, Int.lt_of_lt_of_le a (msum_mono h)⟩)
/-- every closed set above what is taken is bad -/
def AllBad (n : Nat) (Cl : ClT) (Rw : RwT) (A0 A1 : Nat → Bool) : Prop := ∀ T F, sub2 A0 A1 T F → Cld n Cl Rw T F → Bad n Cl Rw T F
/-- within every closed set above what is taken -/
def Bel (n : Nat) (Cl : ClT) (Rw : RwT) (A0 A1 T F : Nat → Bool) : Prop := sub2 A0 A1 T F ∧ ∀ T' F', sub2 A0 A1 T' F' → Cld n Cl Rw T' F' → sub2 T F T' F'
def Lst (n : Nat) (Cl : ClT) (Rw : RwT) (A0 A1 T F : Nat → Bool) : Prop := Bel n Cl Rw A0 A1 T F ∧ Cld n Cl Rw T F ∧ ¬ Bad n Cl Rw T F
theorem Bel.start {n : Nat} {Cl : ClT} {Rw : RwT} {A0 A1 : Nat → Bool} : Bel n Cl Rw A0 A1 A0 A1 := ⟨sub2.rf, fun _ _ h _ => h⟩
theorem Bel.bad {n : Nat} {Cl : ClT} {Rw : RwT} {A0 A1 T F : Nat → Bool} (h : Bel n Cl Rw A0 A1 T F) (hb : Bad n Cl Rw T F) : AllBad n Cl Rw A0 A1 := fun T' F' h1 h2 => hb.mono (h.2 T' F' h1 h2)
theorem Lst.not {n : Nat} {Cl : ClT} {Rw : RwT} {A0 A1 T F : Nat → Bool} (h : Lst n Cl Rw A0 A1 T F) : ¬ AllBad n Cl Rw A0 A1 := fun ha => h.2.2 (ha T F h.1.1 h.2.1)
theorem Lst.uniq {n : Nat} {Cl : ClT} {Rw : RwT} {A0 A1 T F T' F' : Nat → Bool} (h : Lst n Cl Rw A0 A1 T F) (h' : Lst n Cl Rw A0 A1 T' F') : T = T' ∧ F = F' := by
  have a := h.1.2 T' F' h'.1.1 h'.2.1
  have b := h'.1.2 T F h.1.1 h.2.1
  refine ⟨funext fun i => ?_, funext fun i => ?_⟩
  · have a1 := a.1 i
    have b1 := b.1 i
    cases hx : T i <;> cases hy : T' i <;> rw [hx, hy] at a1 b1 <;> simp at a1 b1 ⊢
  · have a1 := a.2 i
    have b1 := b.2 i
    cases hx : F i <;> cases hy : F' i <;> rw [hx, hy] at a1 b1 <;> simp at a1 b1 ⊢
/-- one more becomes known, by a clause -/
def fset (T : Nat → Bool) (k : Nat) : Nat → Bool := fun i => T i || decide (i = k)
theorem Bel.addT {n : Nat} {Cl : ClT} {Rw : RwT} {A0 A1 T F : Nat → Bool} {k : Nat} (h : Bel n Cl Rw A0 A1 T F) (hk : ∀ T' F', sub2 T F T' F' → Cld n Cl Rw T' F' → T' k = true) : Bel n Cl Rw A0 A1 (fset T k) F := by
  refine ⟨⟨fun i x => by simp [fset, h.1.1 i x], h.1.2⟩, fun T' F' h1 h2 => ?_⟩
  have hs := h.2 T' F' h1 h2
  refine ⟨fun i x => ?_, hs.2⟩
  by_cases e : i = k
  · rw [e]; exact hk T' F' hs h2
  · simp [fset, e] at x
    exact hs.1 i x
theorem Bel.addF {n : Nat} {Cl : ClT} {Rw : RwT} {A0 A1 T F : Nat → Bool} {k : Nat} (h : Bel n Cl Rw A0 A1 T F) (hk : ∀ T' F', sub2 T F T' F' → Cld n Cl Rw T' F' → F' k = true) : Bel n Cl Rw A0 A1 T (fset F k) := by
  refine ⟨⟨h.1.1, fun i x => by simp [fset, h.1.2 i x]⟩, fun T' F' h1 h2 => ?_⟩
  have hs := h.2 T' F' h1 h2
  refine ⟨hs.1, fun i x => ?_⟩
  by_cases e : i = k
  · rw [e]; exact hk T' F' hs h2
  · simp [fset, e] at x
    exact hs.2 i x
theorem Bel.clT {n : Nat} {Cl : ClT} {Rw : RwT} {A0 A1 T F P N : Nat → Bool} {k : Nat} (h : Bel n Cl Rw A0 A1 T F) (hc : Cl P N) (hk : P k = true) (h1 : ∀ j, P j = true → j ≠ k → F j = true) (h2 : ∀ j, N j = true → T j = true) : Bel n Cl Rw A0 A1 (fset T k) F :=
  h.addT (fun T' F' hs hd => hd.1 P N hc k hk (fun j a b => hs.2 j (h1 j a b)) (fun j a => hs.1 j (h2 j a)))
theorem Bel.clF {n : Nat} {Cl : ClT} {Rw : RwT} {A0 A1 T F P N : Nat → Bool} {k : Nat} (h : Bel n Cl Rw A0 A1 T F) (hc : Cl P N) (hk : N k = true) (h1 : ∀ j, P j = true → F j = true) (h2 : ∀ j, N j = true → j ≠ k → T j = true) : Bel n Cl Rw A0 A1 T (fset F k) :=
  h.addF (fun T' F' hs hd => hd.2.1 P N hc k hk (fun j a => hs.2 j (h1 j a)) (fun j a b => hs.1 j (h2 j a b)))
theorem Bel.rwF {n : Nat} {Cl : ClT} {Rw : RwT} {A0 A1 T F : Nat → Bool} {w : Nat → Int} {B : Int} {k : Nat} (h : Bel n Cl Rw A0 A1 T F) (hc : Rw w B) (hk : k < n) (hw : 0 < w k) (h1 : B < msumx n w T F k + w k) : Bel n Cl Rw A0 A1 T (fset F k) :=
  h.addF (fun T' F' hs hd => hd.2.2.1 w B hc k hk hw (by have := msumx_mono (n := n) (w := w) hs k; omega))
theorem Bel.rwT {n : Nat} {Cl : ClT} {Rw : RwT} {A0 A1 T F : Nat → Bool} {w : Nat → Int} {B : Int} {k : Nat} (h : Bel n Cl Rw A0 A1 T F) (hc : Rw w B) (hk : k < n) (hw : w k < 0) (h1 : B < msumx n w T F k) : Bel n Cl Rw A0 A1 (fset T k) F :=
  h.addT (fun T' F' hs hd => hd.2.2.2 w B hc k hk hw (by have := msumx_mono (n := n) (w := w) hs k; omega))
/-- a model is a closed set that isn't bad -/
def Kept (n : Nat) (Cl : ClT) (Rw : RwT) (m : Nat → Bool) : Prop :=
  (∀ P N, Cl P N → (∃ i, P i = true ∧ m i = true) ∨ (∃ i, N i = true ∧ m i = false)) ∧ (∀ w B, Rw w B → nsum (fun i => if m i = true then w i else 0) n ≤ B)
theorem ctr_mod {w : Nat → Int} {m : Nat → Bool} (i : Nat) : ctr w m (fun j => !m j) i = if m i = true then w i else 0 := by
  unfold ctr
  cases hm : m i
  · simp [hm]
  · by_cases h : w i = 0
    · simp [h]
    · rw [if_pos rfl, if_pos]
      rcases Int.lt_trichotomy (w i) 0 with g | g | g
      · exact Or.inr ⟨g, by simp [hm]⟩
      · exact absurd g h
      · exact Or.inl ⟨g, rfl⟩
theorem Kept.cld {n : Nat} {Cl : ClT} {Rw : RwT} {m : Nat → Bool} (h : Kept n Cl Rw m) : Cld n Cl Rw m (fun j => !m j) ∧ ¬ Bad n Cl Rw m (fun j => !m j) := by
  have hs : ∀ w, msum n w m (fun j => !m j) = nsum (fun i => if m i = true then w i else 0) n := fun w => nsum_congr (fun i _ => ctr_mod i)
  refine ⟨⟨?_, ?_, ?_, ?_⟩, ?_⟩
  · intro P N hc i hi h1 h2
    rcases h.1 P N hc with ⟨j, a, b⟩ | ⟨j, a, b⟩
    · by_cases e : j = i
      · rw [← e]; exact b
      · have := h1 j a e
        simp [b] at this
    · have := h2 j a
      rw [b] at this
      cases this
  · intro P N hc i hi h1 h2
    rcases h.1 P N hc with ⟨j, a, b⟩ | ⟨j, a, b⟩
    · have := h1 j a
      simp [b] at this
    · by_cases e : j = i
      · rw [← e]; simp [b]
      · have := h2 j a e
        rw [b] at this
        cases this
  · intro w B hc k hk hw h1
    have h2 := h.2 w B hc
    rw [← hs w, msum_x hk, ctr_mod] at h2
    cases hm : m k
    · simp [hm]
    · rw [hm, if_pos rfl] at h2
      omega
  · intro w B hc k hk hw h1
    have h2 := h.2 w B hc
    rw [← hs w, msum_x hk, ctr_mod] at h2
    cases hm : m k
    · rw [hm] at h2
      simp at h2
      omega
    · rfl
  · rintro (⟨i, a, b⟩ | ⟨P, N, c, a, b⟩ | ⟨w, B, c, a⟩)
    · simp [a] at b
    · rcases h.1 P N c with ⟨j, x, y⟩ | ⟨j, x, y⟩
      · have := a j x
        simp [y] at this
      · have := b j x
        rw [y] at this
        cases this
    · have h2 := h.2 w B c
      rw [← hs w] at h2
      omega
/-- what is within every closed set holds in every model above what is taken -/
theorem Bel.mod {n : Nat} {Cl : ClT} {Rw : RwT} {A0 A1 T F m : Nat → Bool} (h : Bel n Cl Rw A0 A1 T F) (hm : Kept n Cl Rw m) (h0 : ∀ i, A0 i = true → m i = true) (h1 : ∀ i, A1 i = true → m i = false) : (∀ i, T i = true → m i = true) ∧ (∀ i, F i = true → m i = false) := by
  have := h.2 m (fun j => !m j) ⟨h0, fun i x => by simp [h1 i x]⟩ hm.cld.1
  exact ⟨this.1, fun i x => by have := this.2 i x; simpa using this⟩
theorem AllBad.none {n : Nat} {Cl : ClT} {Rw : RwT} {A0 A1 m : Nat → Bool} (h : AllBad n Cl Rw A0 A1) (hm : Kept n Cl Rw m) (h0 : ∀ i, A0 i = true → m i = true) (h1 : ∀ i, A1 i = true → m i = false) : False :=
  hm.cld.2 (h m (fun j => !m j) ⟨h0, fun i x => by simp [h1 i x]⟩ hm.cld.1)
/-- a closed set that isn't bad and tells every name is a model -/
theorem kept_of {n : Nat} {Cl : ClT} {Rw : RwT} {T F : Nat → Bool} (hb : ¬ Bad n Cl Rw T F) (hn : ∀ P N, Cl P N → ∀ i, (P i = true → i < n) ∧ (N i = true → i < n)) (ht : ∀ i, i < n → T i = true ∨ F i = true) : Kept n Cl Rw T := by
  have hd : ∀ i, ¬ (T i = true ∧ F i = true) := fun i x => hb (Or.inl ⟨i, x⟩)
  refine ⟨fun P N hc => ?_, fun w B hc => ?_⟩
  · apply Classical.byContradiction
    intro hno
    refine hb (Or.inr (Or.inl ⟨P, N, hc, fun j x => ?_, fun j x => ?_⟩))
    · rcases ht j ((hn P N hc j).1 x) with y | y
      · exact absurd (Or.inl ⟨j, x, y⟩) hno
      · exact y
    · rcases ht j ((hn P N hc j).2 x) with y | y
      · exact y
      · refine absurd (Or.inr ⟨j, x, ?_⟩) hno
        cases hT : T j
        · rfl
        · exact absurd ⟨hT, y⟩ (hd j)
  · apply Classical.byContradiction
    intro hno
    refine hb (Or.inr (Or.inr ⟨w, B, hc, ?_⟩))
    have e : msum n w T F = nsum (fun i => if T i = true then w i else 0) n := nsum_congr (fun i hi => by
      have h1 := hd i
      rcases ht i hi with y | y
      · have hF : F i = false := by
          cases hF : F i
          · rfl
          · exact absurd ⟨y, hF⟩ h1
        unfold ctr
        rw [y, hF]
        simp
        omega
      · have hT : T i = false := by
          cases hT : T i
          · rfl
          · exact absurd ⟨hT, y⟩ h1
        unfold ctr
        rw [y, hT]
        simp)
    rw [e]
    omega
