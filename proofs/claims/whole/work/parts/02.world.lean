/-- the cells of the unit -/
def CUW (cI cJ : ClassId) (q : Nat → Nat) (I : Nat → Int32) (J : Nat → Int64) (a : Nat → Nat → Int32) (b : Nat → Nat → Int64) : va_W :=
  [(q 0, .inr (6, [.ref (q 1), .ref (q 2), .ref (q 4), .ref (q 5), .ref (q 6), .int (I 0), .int (I 1), .int (I 2), .int (I 3)])),
   (q 1, .inr (5, [.int (I 4), .int (I 5), .long (J 0), .long (J 1), .long (J 2), .ref (q 7), .ref (q 8), .ref (q 9), .ref (q 10)])),
   (q 2, .inr (2, [.int (I 6), .ref (q 11), .ref (q 12)])),
   (q 3, .inr (1, [.int (I 7), .ref (q 13), .ref (q 14)])),
   (q 4, .inr (0, [.ref (q 1), .ref (q 2), .ref (q 3), .int (I 8), .int (I 9), .int (I 10)])),
   (q 5, .inr (4, [.ref (q 1), .ref (q 4), .ref (q 3), .int (I 11), .int (I 12), .int (I 13), .int (I 14), .int (I 15), .int (I 16)])),
   (q 6, .inr (3, [.ref (q 1), .ref (q 15), .ref (q 16), .ref (q 17), .ref (q 18), .int (I 17), .int (I 18), .int (I 19), .int (I 20), .int (I 21), .int (I 22), .int (I 23), .long (J 3)])),
   (q 7, .inl (cI, 60, .inl (a 0))),
   (q 8, .inl (cI, 60, .inl (a 1))),
   (q 9, .inl (cI, 60, .inl (a 2))),
   (q 10, .inl (cI, 840, .inl (a 3))),
   (q 11, .inl (cI, 40, .inl (a 4))),
   (q 12, .inl (cI, 40, .inl (a 5))),
   (q 13, .inl (cI, 8192, .inl (a 6))),
   (q 14, .inl (cI, 512, .inl (a 7))),
   (q 15, .inl (cJ, 16384, .inr (.inl (b 0)))),
   (q 16, .inl (cI, 14, .inl (a 8))),
   (q 17, .inl (cI, 128, .inl (a 9))),
   (q 18, .inl (cI, 128, .inl (a 10)))]
def CUQ (q : Nat → Nat) : Prop := ∀ i j, i < 19 → j < 19 → q i = q j → i = j
def CUA (q : Nat → Nat) : Nat → Prop := fun x => ∃ i, i < 19 ∧ x = q i
theorem CUW_at {cI cJ : ClassId} {q : Nat → Nat} {I : Nat → Int32} {J : Nat → Int64} {a : Nat → Nat → Int32} {b : Nat → Nat → Int64} : ∀ (k : Nat) (x : Nat × va_E), (CUW cI cJ q I J a b)[k]? = some x → k < 19 ∧ x.1 = q k
  | 0, x, h => by
    have h := Option.some.inj h
    subst h
    exact ⟨by decide, rfl⟩
  | 1, x, h => by
    have h := Option.some.inj h
    subst h
    exact ⟨by decide, rfl⟩
  | 2, x, h => by
    have h := Option.some.inj h
    subst h
    exact ⟨by decide, rfl⟩
  | 3, x, h => by
    have h := Option.some.inj h
    subst h
    exact ⟨by decide, rfl⟩
  | 4, x, h => by
    have h := Option.some.inj h
    subst h
    exact ⟨by decide, rfl⟩
  | 5, x, h => by
    have h := Option.some.inj h
    subst h
    exact ⟨by decide, rfl⟩
  | 6, x, h => by
    have h := Option.some.inj h
    subst h
    exact ⟨by decide, rfl⟩
  | 7, x, h => by
    have h := Option.some.inj h
    subst h
    exact ⟨by decide, rfl⟩
  | 8, x, h => by
    have h := Option.some.inj h
    subst h
    exact ⟨by decide, rfl⟩
  | 9, x, h => by
    have h := Option.some.inj h
    subst h
    exact ⟨by decide, rfl⟩
  | 10, x, h => by
    have h := Option.some.inj h
    subst h
    exact ⟨by decide, rfl⟩
  | 11, x, h => by
    have h := Option.some.inj h
    subst h
    exact ⟨by decide, rfl⟩
  | 12, x, h => by
    have h := Option.some.inj h
    subst h
    exact ⟨by decide, rfl⟩
  | 13, x, h => by
    have h := Option.some.inj h
    subst h
    exact ⟨by decide, rfl⟩
  | 14, x, h => by
    have h := Option.some.inj h
    subst h
    exact ⟨by decide, rfl⟩
  | 15, x, h => by
    have h := Option.some.inj h
    subst h
    exact ⟨by decide, rfl⟩
  | 16, x, h => by
    have h := Option.some.inj h
    subst h
    exact ⟨by decide, rfl⟩
  | 17, x, h => by
    have h := Option.some.inj h
    subst h
    exact ⟨by decide, rfl⟩
  | 18, x, h => by
    have h := Option.some.inj h
    subst h
    exact ⟨by decide, rfl⟩
  | k + 19, x, h => by
    have h : (none : Option (Nat × va_E)) = some x := h
    cases h
theorem CUW_D {cI cJ : ClassId} {q : Nat → Nat} {I : Nat → Int32} {J : Nat → Int64} {a : Nat → Nat → Int32} {b : Nat → Nat → Int64} (hq : CUQ q) : va_D (CUA q) (CUW cI cJ q I J a b) := by
  refine ⟨fun i j x y h1 h2 e => ?_, fun k x h => ?_⟩
  · obtain ⟨a1, a2⟩ := CUW_at i x h1
    obtain ⟨b1, b2⟩ := CUW_at j y h2
    exact hq i j a1 b1 (by rw [← a2, ← b2]; exact e)
  · obtain ⟨a1, a2⟩ := CUW_at k x h
    exact ⟨k, a1, a2⟩
theorem CUW_get {cI cJ : ClassId} {q : Nat → Nat} {I : Nat → Int32} {J : Nat → Int64} {a : Nat → Nat → Int32} {b : Nat → Nat → Int64} : ∀ (k : Nat), k < 19 → ∃ e, (CUW cI cJ q I J a b)[k]? = some (q k, e)
  | 0, _ => ⟨_, rfl⟩
  | 1, _ => ⟨_, rfl⟩
  | 2, _ => ⟨_, rfl⟩
  | 3, _ => ⟨_, rfl⟩
  | 4, _ => ⟨_, rfl⟩
  | 5, _ => ⟨_, rfl⟩
  | 6, _ => ⟨_, rfl⟩
  | 7, _ => ⟨_, rfl⟩
  | 8, _ => ⟨_, rfl⟩
  | 9, _ => ⟨_, rfl⟩
  | 10, _ => ⟨_, rfl⟩
  | 11, _ => ⟨_, rfl⟩
  | 12, _ => ⟨_, rfl⟩
  | 13, _ => ⟨_, rfl⟩
  | 14, _ => ⟨_, rfl⟩
  | 15, _ => ⟨_, rfl⟩
  | 16, _ => ⟨_, rfl⟩
  | 17, _ => ⟨_, rfl⟩
  | 18, _ => ⟨_, rfl⟩
  | k + 19, h => absurd h (by omega)
abbrev CUPc (D : va_G) (cI cJ : ClassId) (q : Nat → Nat) (I : Nat → Int32) (J : Nat → Int64) (a : Nat → Nat → Int32) (b : Nat → Nat → Int64) (av : List Value) : Array Value → State → Prop := va_Pc av (fun U => va_P D vwCl (CUW cI cJ q I J a b) U.heap ∧ va_K D vwCl [(cI, .int), (cJ, .long)] U ∧ va_Nw (.methodLinkNest RX0 90 yX6_literalsIn "LearnedReasons") U)
theorem CUPc_blind {D : va_G} {cI cJ : ClassId} {q : Nat → Nat} {I : Nat → Int32} {J : Nat → Int64} {a : Nat → Nat → Int32} {b : Nat → Nat → Int64} {av : List Value} : FrameBlind (CUPc D cI cJ q I J a b av) := fun x U g mk h => ⟨h.1, h.2.1, va_K.moved (u := U) (U := U.calling g mk x) (Vm.Alike.refl U.vm) h.2.2.1, va_Nw.same rfl rfl h.2.2.2⟩
/-- the cells of the unit -/
def MUW (cI cJ cZ : ClassId) (q : Nat → Nat) (I : Nat → Int32) (J : Nat → Int64) (a : Nat → Nat → Int32) (b : Nat → Nat → Int64) : va_W :=
  [(q 0, .inr (7, [.int (I 0), .int (I 1), .ref (q 1), .ref (q 2), .ref (q 3), .ref (q 4), .ref (q 5), .ref (q 6), .ref (q 7), .int (I 2), .int (I 3), .int (I 4), .int (I 5), .int (I 6), .int (I 7), .ref (q 8), .ref (q 9), .int (I 8), .int (I 9), .int (I 10), .int (I 11), .int (I 12), .ref (q 10), .int (I 13), .ref (q 11), .int (I 14), .int (I 15), .int (I 16), .int (I 17), .int (I 18), .ref (q 12), .int (I 19), .int (I 20), .int (I 21), .int (I 22), .int (I 23), .int (I 24), .long (J 0)])),
   (q 1, .inl (cZ, 60, .inl (a 0))),
   (q 2, .inl (cZ, 60, .inl (a 1))),
   (q 3, .inl (cI, 60, .inl (a 2))),
   (q 4, .inl (cI, 60, .inl (a 3))),
   (q 5, .inl (cI, 60, .inl (a 4))),
   (q 6, .inl (cI, 840, .inl (a 5))),
   (q 7, .inl (cI, 14, .inl (a 6))),
   (q 8, .inl (cI, 40, .inl (a 7))),
   (q 9, .inl (cI, 40, .inl (a 8))),
   (q 10, .inl (cI, 15, .inl (a 9))),
   (q 11, .inl (cI, 20000, .inl (a 10))),
   (q 12, .inl (cJ, 16384, .inr (.inl (b 0))))]
def MUQ (q : Nat → Nat) : Prop := ∀ i j, i < 13 → j < 13 → q i = q j → i = j
def MUA (q : Nat → Nat) : Nat → Prop := fun x => ∃ i, i < 13 ∧ x = q i
theorem MUW_at {cI cJ cZ : ClassId} {q : Nat → Nat} {I : Nat → Int32} {J : Nat → Int64} {a : Nat → Nat → Int32} {b : Nat → Nat → Int64} : ∀ (k : Nat) (x : Nat × va_E), (MUW cI cJ cZ q I J a b)[k]? = some x → k < 13 ∧ x.1 = q k
  | 0, x, h => by
    have h := Option.some.inj h
    subst h
    exact ⟨by decide, rfl⟩
  | 1, x, h => by
    have h := Option.some.inj h
    subst h
    exact ⟨by decide, rfl⟩
  | 2, x, h => by
    have h := Option.some.inj h
    subst h
    exact ⟨by decide, rfl⟩
  | 3, x, h => by
    have h := Option.some.inj h
    subst h
    exact ⟨by decide, rfl⟩
  | 4, x, h => by
    have h := Option.some.inj h
    subst h
    exact ⟨by decide, rfl⟩
  | 5, x, h => by
    have h := Option.some.inj h
    subst h
    exact ⟨by decide, rfl⟩
  | 6, x, h => by
    have h := Option.some.inj h
    subst h
    exact ⟨by decide, rfl⟩
  | 7, x, h => by
    have h := Option.some.inj h
    subst h
    exact ⟨by decide, rfl⟩
  | 8, x, h => by
    have h := Option.some.inj h
    subst h
    exact ⟨by decide, rfl⟩
  | 9, x, h => by
    have h := Option.some.inj h
    subst h
    exact ⟨by decide, rfl⟩
  | 10, x, h => by
    have h := Option.some.inj h
    subst h
    exact ⟨by decide, rfl⟩
  | 11, x, h => by
    have h := Option.some.inj h
    subst h
    exact ⟨by decide, rfl⟩
  | 12, x, h => by
    have h := Option.some.inj h
    subst h
    exact ⟨by decide, rfl⟩
  | k + 13, x, h => by
    have h : (none : Option (Nat × va_E)) = some x := h
    cases h
theorem MUW_D {cI cJ cZ : ClassId} {q : Nat → Nat} {I : Nat → Int32} {J : Nat → Int64} {a : Nat → Nat → Int32} {b : Nat → Nat → Int64} (hq : MUQ q) : va_D (MUA q) (MUW cI cJ cZ q I J a b) := by
  refine ⟨fun i j x y h1 h2 e => ?_, fun k x h => ?_⟩
  · obtain ⟨a1, a2⟩ := MUW_at i x h1
    obtain ⟨b1, b2⟩ := MUW_at j y h2
    exact hq i j a1 b1 (by rw [← a2, ← b2]; exact e)
  · obtain ⟨a1, a2⟩ := MUW_at k x h
    exact ⟨k, a1, a2⟩
theorem MUW_get {cI cJ cZ : ClassId} {q : Nat → Nat} {I : Nat → Int32} {J : Nat → Int64} {a : Nat → Nat → Int32} {b : Nat → Nat → Int64} : ∀ (k : Nat), k < 13 → ∃ e, (MUW cI cJ cZ q I J a b)[k]? = some (q k, e)
  | 0, _ => ⟨_, rfl⟩
  | 1, _ => ⟨_, rfl⟩
  | 2, _ => ⟨_, rfl⟩
  | 3, _ => ⟨_, rfl⟩
  | 4, _ => ⟨_, rfl⟩
  | 5, _ => ⟨_, rfl⟩
  | 6, _ => ⟨_, rfl⟩
  | 7, _ => ⟨_, rfl⟩
  | 8, _ => ⟨_, rfl⟩
  | 9, _ => ⟨_, rfl⟩
  | 10, _ => ⟨_, rfl⟩
  | 11, _ => ⟨_, rfl⟩
  | 12, _ => ⟨_, rfl⟩
  | k + 13, h => absurd h (by omega)
abbrev MUPc (D : va_G) (cI cJ cZ : ClassId) (q : Nat → Nat) (I : Nat → Int32) (J : Nat → Int64) (a : Nat → Nat → Int32) (b : Nat → Nat → Int64) (av : List Value) : Array Value → State → Prop := va_Pc av (fun U => va_P D vwCl (MUW cI cJ cZ q I J a b) U.heap ∧ va_K D vwCl [(cI, .int), (cJ, .long), (cZ, .boolean)] U ∧ True)
theorem MUPc_blind {D : va_G} {cI cJ cZ : ClassId} {q : Nat → Nat} {I : Nat → Int32} {J : Nat → Int64} {a : Nat → Nat → Int32} {b : Nat → Nat → Int64} {av : List Value} : FrameBlind (MUPc D cI cJ cZ q I J a b av) := fun x U g mk h => ⟨h.1, h.2.1, va_K.moved (u := U) (U := U.calling g mk x) (Vm.Alike.refl U.vm) h.2.2.1, trivial⟩
