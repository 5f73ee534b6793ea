/-- a function changed at one place -/
def fu {α : Type} (f : Nat → α) (k : Nat) (v : α) : Nat → α := fun j => bif Nat.beq j k then v else f j
theorem fu_self {α : Type} (f : Nat → α) (k : Nat) (v : α) : fu f k v k = v := by simp [fu]
theorem fu_ne {α : Type} (f : Nat → α) {k j : Nat} (v : α) (h : j ≠ k) : fu f k v j = f j := by
  unfold fu
  rw [show Nat.beq j k = false from by rw [Bool.eq_false_iff]; exact fun e => h (Nat.eq_of_beq_eq_true e)]
  rfl
/-- one after the other -/
def ob {α β : Type} (x : Option α) (k : α → Option β) : Option β := match x with
  | none => none
  | some a => k a
theorem ob_some {α β : Type} {x : Option α} {k : α → Option β} {r : β} (h : ob x k = some r) : ∃ a, x = some a ∧ k a = some r := by
  cases x with
  | none =>
    have h : (none : Option β) = some r := h
    cases h
  | some a => exact ⟨a, rfl, h⟩
/-- a number gets a name -/
def nmI {β : Type} (e : Int32) (k : Int32 → Option β) : Option β := k e
def nmJ {β : Type} (e : Int64) (k : Int64 → Option β) : Option β := k e
theorem nmI_at {β : Type} {e x : Int32} {k : Int32 → Option β} {r : β} (hx : x = e) (h : nmI e k = some r) : k x = some r := by
  subst hx
  exact h
theorem nmJ_at {β : Type} {e x : Int64} {k : Int64 → Option β} {r : β} (hx : x = e) (h : nmJ e k = some r) : k x = some r := by
  subst hx
  exact h
/-- an index is in its row -/
def gd {β : Type} (i : Int32) (n : Nat) (k : Option β) : Option β := if i < 0 ∨ n ≤ i.toNatClampNeg then none else k
theorem gd_some {β : Type} {i : Int32} {n : Nat} {k : Option β} {r : β} (h : gd i n k = some r) : vp_in i n ∧ k = some r := by
  unfold gd at h
  split at h
  · cases h
  · rename_i hn
    exact ⟨hn, h⟩
/-- a number that is a boolean -/
def gz {β : Type} (v : Int32) (k : Option β) : Option β := if v = 0 ∨ v = 1 then k else none
theorem gz_some {β : Type} {v : Int32} {k : Option β} {r : β} (h : gz v k = some r) : (narrow .boolean (.int v) = .int v ∧ fits .boolean (.int v) = true) ∧ k = some r := by
  unfold gz at h
  split at h
  · rename_i hv
    rcases hv with rfl | rfl
    · exact ⟨⟨rfl, rfl⟩, h⟩
    · exact ⟨⟨rfl, rfl⟩, h⟩
  · cases h
theorem if_t {c : Prop} [Decidable c] {β : Type} {A B : Option β} {r : β} (hc : c) (h : (if c then A else B) = some r) : A = some r := by
  rw [if_pos hc] at h
  exact h
theorem if_f {c : Prop} [Decidable c] {β : Type} {A B : Option β} {r : β} (hc : ¬ c) (h : (if c then A else B) = some r) : B = some r := by
  rw [if_neg hc] at h
  exact h
/-- a contract out of a walk, its room and its end as variables -/
theorem mt_of {l : Launch} {y : MethodName} {ws ws' : List Cond} {rm : Room} {Pc : Array Value → State → Prop} {Qc : Array Value → State → Outcome → State → Prop} {mc ms : Nat} {free : Addr → Prop} {cc : ByteArray} {maxL : Nat} {ret : Option FieldType}
    (hy : plainName y.cls = true) (hw : ws = Cond.code y cc maxL ret :: ws')
    (body : ∀ p e s m args below meth c s₁, BodyLoose p l y (headSpec ws rm) cc maxL ret e s m args below meth c s₁ → c.maxLocals = maxL → Pc args s → ∀ (R : Room) (Q : State → Prop), R = (headSpec ws rm).room → Q = MQ below Qc args s mc ms free →
      W p l e R s m args below meth c s.heap [] 0 0 Q (entryFrame m args maxL)) : Met l y ws rm Pc Qc mc ms free :=
  Met.ofW hy hw (fun p e s m args below meth c s₁ B hml hP => body p e s m args below meth c s₁ B hml hP _ _ rfl rfl)
