/-! THE SEARCH, as words of its own -/
/-- the greatest member below k -/
def hbit (x : Int32) : Nat → Option Nat
  | 0 => none
  | k + 1 => if bt x k = true then some k else hbit x k
theorem hbit_some {x : Int32} : ∀ {k j : Nat}, hbit x k = some j → j < k ∧ bt x j = true ∧ ∀ i, i < k → bt x i = true → i ≤ j
  | 0, j, h => by cases h
  | k + 1, j, h => by
    have h : (if bt x k = true then some k else hbit x k) = some j := h
    by_cases c : bt x k = true
    · rw [if_pos c] at h
      cases h
      exact ⟨by omega, c, fun i hi _ => by omega⟩
    · rw [if_neg c] at h
      obtain ⟨h1, h2, h3⟩ := hbit_some h
      refine ⟨by omega, h2, fun i hi hx => ?_⟩
      by_cases e : i = k
      · rw [e] at hx
        exact absurd hx c
      · exact h3 i (by omega) hx
theorem hbit_none {x : Int32} : ∀ {k : Nat}, hbit x k = none → ∀ i, i < k → bt x i = false
  | 0, _, i, hi => absurd hi (by omega)
  | k + 1, h, i, hi => by
    have h : (if bt x k = true then some k else hbit x k) = none := h
    by_cases c : bt x k = true
    · rw [if_pos c] at h
      cases h
    · rw [if_neg c] at h
      by_cases e : i = k
      · rw [e]
        simpa using c
      · exact hbit_none h i (by omega)
abbrev one (k : Nat) : Int32 := (1 : Int32) <<< (nI k &&& 31)
/-- a set without a member -/
abbrev wo (x : Int32) (k : Nat) : Int32 := x &&& (one k ^^^ (-1))
def hval (o : Option Nat) : Int32 := match o with
  | none => 0
  | some k => one k
/-- the CHOICES that stay: those up to the last but one of the REASON -/
def keep (c R : Int32) : Int32 := match hbit R 14 with
  | none => 0
  | some k => match hbit (wo R k) 14 with
    | none => 0
    | some j => c &&& (2 * one j - 1)
/-- the REASON out of CHOICES: from the latest down each is left out with which there is a conflict without it as well -/
def Rsn (cf : Int32 → Prop) : Nat → Int32 → Int32 → Prop
  | 0, x, R => R = x
  | k + 1, x, R => (bt x k = true ∧ cf (wo x k) ∧ Rsn cf k (wo x k) R) ∨ ((bt x k = true → ¬ cf (wo x k)) ∧ Rsn cf k x R)
theorem Rsn.uniq {cf : Int32 → Prop} : ∀ {k : Nat} {x R R' : Int32}, Rsn cf k x R → Rsn cf k x R' → R = R'
  | 0, x, R, R', h, h' => h.trans h'.symm
  | k + 1, x, R, R', h, h' => by
    rcases h with ⟨a, b, c⟩ | ⟨a, c⟩ <;> rcases h' with ⟨a', b', c'⟩ | ⟨a', c'⟩
    · exact Rsn.uniq c c'
    · exact absurd b (a' a)
    · exact absurd b' (a a')
    · exact Rsn.uniq c c'
abbrev nob : Nat → Bool := fun _ => false
/-- clauses and learned ones -/
def ClL (Cl0 : ClT) (L : List Int32) : ClT := fun p q => Cl0 p q ∨ ∃ m, m ∈ L ∧ p = bt m ∧ q = bt 0
def cfl (N : Nat) (Cl0 : ClT) (Rw : RwT) (L : List Int32) (c : Int32) : Prop := AllBad N (ClL Cl0 L) Rw nob (bt c)
def knw (N : Nat) (Cl0 : ClT) (Rw : RwT) (L : List Int32) (c T F : Int32) : Prop := Lst N (ClL Cl0 L) Rw nob (bt c) (bt T) (bt F) ∧ sm N T ∧ sm N F
/-- the least name that isn't known -/
def lun (N : Nat) (T F : Int32) (k : Nat) : Prop := k < N ∧ bt T k = false ∧ bt F k = false ∧ ∀ i, i < k → bt T i = true ∨ bt F i = true
abbrev Res : Type := Bool × Int32 × Nat × Nat × List Int32
/-- THE SEARCH from some CHOICES c, learned clauses L, cf CONFLICTS and ch CHOICES made: within n steps it ends with r -/
def SRn (N : Nat) (Cl0 : ClT) (Rw : RwT) : Nat → Int32 → List Int32 → Nat → Nat → Res → Prop
  | 0, _, _, _, _, _ => False
  | n + 1, c, L, cf, ch, r =>
    (cfl N Cl0 Rw L c ∧ c = 0 ∧ r = (false, 0, cf + 1, ch, L)) ∨
    (cfl N Cl0 Rw L c ∧ c ≠ 0 ∧ ∃ R, Rsn (cfl N Cl0 Rw L) 14 c R ∧ SRn N Cl0 Rw n (keep c R) (L ++ [R]) (cf + 1) ch r) ∨
    (∃ T F, knw N Cl0 Rw L c T F ∧ (∀ i, i < N → bt T i = true ∨ bt F i = true) ∧ r = (true, T, cf, ch, L)) ∨
    (∃ T F k, knw N Cl0 Rw L c T F ∧ lun N T F k ∧ SRn N Cl0 Rw n (c ||| one k) L cf (ch + 1) r)
theorem lun.uniq {N : Nat} {T F : Int32} {k k' : Nat} (h : lun N T F k) (h' : lun N T F k') : k = k' := by
  rcases Nat.lt_trichotomy k k' with x | x | x
  · rcases h'.2.2.2 k x with y | y
    · rw [h.2.1] at y
      cases y
    · rw [h.2.2.1] at y
      cases y
  · exact x
  · rcases h.2.2.2 k' x with y | y
    · rw [h'.2.1] at y
      cases y
    · rw [h'.2.2.1] at y
      cases y
theorem knw.uniq {N : Nat} {Cl0 : ClT} {Rw : RwT} {L : List Int32} {c T F T' F' : Int32} (h : knw N Cl0 Rw L c T F) (h' : knw N Cl0 Rw L c T' F') : T = T' ∧ F = F' := by
  obtain ⟨a, b⟩ := h.1.uniq h'.1
  exact ⟨eq_bt a, eq_bt b⟩
theorem knw.not {N : Nat} {Cl0 : ClT} {Rw : RwT} {L : List Int32} {c T F : Int32} (h : knw N Cl0 Rw L c T F) : ¬ cfl N Cl0 Rw L c := h.1.not
theorem lun.nall {N : Nat} {T F : Int32} {k : Nat} (h : lun N T F k) : ¬ ∀ i, i < N → bt T i = true ∨ bt F i = true := fun x => by
  rcases x k h.1 with y | y
  · rw [h.2.1] at y
    cases y
  · rw [h.2.2.1] at y
    cases y
/-- one end alone -/
theorem SRn.uniq {N : Nat} {Cl0 : ClT} {Rw : RwT} : ∀ {n n' : Nat} {c : Int32} {L : List Int32} {cf ch : Nat} {r r' : Res}, SRn N Cl0 Rw n c L cf ch r → SRn N Cl0 Rw n' c L cf ch r' → r = r'
  | 0, _, _, _, _, _, _, _, h, _ => h.elim
  | _ + 1, 0, _, _, _, _, _, _, _, h' => h'.elim
  | n + 1, n' + 1, c, L, cf, ch, r, r', h, h' => by
    rcases h with ⟨a, b, e⟩ | ⟨a, b, R, d, e⟩ | ⟨T, F, a, b, e⟩ | ⟨T, F, k, a, b, e⟩ <;> rcases h' with ⟨a', b', e'⟩ | ⟨a', b', R', d', e'⟩ | ⟨T', F', a', b', e'⟩ | ⟨T', F', k', a', b', e'⟩
    · rw [e, e']
    · exact absurd b b'
    · exact absurd a a'.not
    · exact absurd a a'.not
    · exact absurd b' b
    · obtain rfl := d.uniq d'
      exact SRn.uniq e e'
    · exact absurd a a'.not
    · exact absurd a a'.not
    · exact absurd a' a.not
    · exact absurd a' a.not
    · obtain ⟨rfl, rfl⟩ := a.uniq a'
      rw [e, e']
    · obtain ⟨rfl, rfl⟩ := a.uniq a'
      exact absurd b b'.nall
    · exact absurd a' a.not
    · exact absurd a' a.not
    · obtain ⟨rfl, rfl⟩ := a.uniq a'
      exact absurd b' b.nall
    · obtain ⟨rfl, rfl⟩ := a.uniq a'
      obtain rfl := b.uniq b'
      exact SRn.uniq e e'
