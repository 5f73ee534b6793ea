/-! the search's model is the first one -/
def LH (L : List Int32) (m : Nat → Bool) : Prop := ∀ x, x ∈ L → ∃ i, bt x i = true ∧ m i = true
theorem Kept.l {N : Nat} {Cl0 : ClT} {Rw : RwT} {L : List Int32} {m : Nat → Bool} (h : Kept N Cl0 Rw m) (hL : LH L m) : Kept N (ClL Cl0 L) Rw m := by
  refine ⟨fun P Q hc => ?_, h.2⟩
  rcases hc with x | ⟨y, y1, rfl, rfl⟩
  · exact h.1 P Q x
  · exact Or.inl (hL y y1)
theorem Kept.unl {N : Nat} {Cl0 : ClT} {Rw : RwT} {L : List Int32} {m : Nat → Bool} (h : Kept N (ClL Cl0 L) Rw m) : Kept N Cl0 Rw m := ⟨fun P Q hc => h.1 P Q (Or.inl hc), h.2⟩
/-- a model, and none is before it -/
def Fst (N : Nat) (Cl0 : ClT) (Rw : RwT) (t : Nat → Bool) : Prop := Kept N Cl0 Rw t ∧ ∀ m, Kept N Cl0 Rw m → ∀ n, n < N → (∀ j, j < n → m j = t j) → t n = true → m n = true
theorem least_ex {P : Nat → Prop} : ∀ i, P i → ∃ k, P k ∧ ∀ j, j < k → ¬ P j := by
  intro i
  induction i using Nat.strongRecOn with
  | _ i ih =>
    intro h
    by_cases x : ∃ j, j < i ∧ P j
    · obtain ⟨j, j1, j2⟩ := x
      exact ih j j1 j2
    · exact ⟨i, h, fun j j1 j2 => x ⟨j, j1, j2⟩⟩
theorem knw.fst {N : Nat} {Cl0 : ClT} {Rw : RwT} {c T F : Int32} {L : List Int32} (hN : N ≤ 14) (hw : wthn N Cl0) (hd : dcd N Cl0 Rw) (hi : SI N Cl0 Rw c L) (hL : ∀ m, Kept N Cl0 Rw m → LH L m) (hk : knw N Cl0 Rw L c T F) (ha : ∀ i, i < N → bt T i = true ∨ bt F i = true) : Fst N Cl0 Rw (bt T) := by
  obtain ⟨⟨k1, k2, k3⟩, k4, k5⟩ := hk
  obtain ⟨s1, s2, s3, s4, s5, s6⟩ := hi
  have hl : L.length ≤ 8191 := Nat.le_trans s6 (brd_le L)
  have dis : ∀ i, bt T i = true → bt F i = true → False := fun i x y => k3 (Or.inl ⟨i, x, y⟩)
  refine ⟨(kept_of k3 (hw.l s2) ha).unl, fun m hm n hn heq hT => ?_⟩
  have hm' := hm.l (hL m hm)
  have hcF : ∀ i, bt c i = true → bt F i = true := k1.1.2
  have hcn : ∀ j, bt c j = true → j ≤ n → m j = false := fun j hj hjn => by
    have h1 : j ≠ n := fun e => dis n hT (by rw [← e]; exact hcF j hj)
    rw [heq j (by omega)]
    cases y : bt T j
    · rfl
    · exact (dis j y (hcF j hj)).elim
  by_cases hE : ∃ i, bt c i = true ∧ n < i
  · obtain ⟨i0, hi0⟩ := hE
    obtain ⟨i, ⟨h1, h2⟩, h3⟩ := least_ex (P := fun i => bt c i = true ∧ n < i) i0 hi0
    have hb : ∀ j, bt (c &&& (2 * one n - 1)) j = (bt c j && decide (j ≤ n)) := fun j => bt_cut (by omega) j
    have hb1 : ∀ j, bt (c &&& (2 * one n - 1)) j = true → bt c j = true ∧ j ≤ n := fun j hj => by
      rw [hb] at hj
      obtain ⟨y1, y2⟩ := Bool.and_eq_true_iff.mp hj
      exact ⟨y1, of_decide_eq_true y2⟩
    have hmf : ∀ j, bt (c &&& (2 * one n - 1)) j = true → m j = false := fun j hj => hcn j (hb1 j hj).1 (hb1 j hj).2
    rcases hd L (c &&& (2 * one n - 1)) s2 (by omega) (s1.andL _) with x | ⟨T2, F2, ⟨x1, x2, x3⟩, x4, x5⟩
    · exact (AllBad.none x hm' (fun _ z => Bool.noConfusion z) hmf).elim
    · have q := s4 i h1 (bt T2) (bt F2) x2 (fun j j1 j2 => x1.1.2 j (by
        rw [hb, j2, decide_eq_true]
        · rfl
        · rcases Nat.lt_or_ge n j with z | z
          · exact absurd ⟨j2, z⟩ (h3 j j1)
          · exact z)) n h2
      rcases q with q | q
      · exact (x1.mod hm' (fun _ z => Bool.noConfusion z) hmf).1 n q
      · have := (x1.2 (bt T) (bt F) ⟨fun _ z => Bool.noConfusion z, fun j hj => hcF j (hb1 j hj).1⟩ k2).2 n q
        exact (dis n hT this).elim
  · refine (k1.mod hm' (fun _ z => Bool.noConfusion z) (fun j hj => hcn j hj ?_)).1 n hT
    rcases Nat.lt_or_ge n j with z | z
    · exact absurd ⟨j, hj, z⟩ hE
    · exact z
theorem SRn.fst {N : Nat} {Cl0 : ClT} {Rw : RwT} (hN : N ≤ 14) (hw : wthn N Cl0) (hd : dcd N Cl0 Rw) :
    ∀ (n : Nat) (c : Int32) (L : List Int32) (cf ch : Nat) (r : Res), SRn N Cl0 Rw n c L cf ch r → SI N Cl0 Rw c L → (∀ m, Kept N Cl0 Rw m → LH L m) → (r.1 = true → Fst N Cl0 Rw (bt r.2.1) ∧ sm N r.2.1) ∧ (r.1 = false → ∀ m, ¬ Kept N Cl0 Rw m)
  | 0, _, _, _, _, _, h, _, _ => h.elim
  | n + 1, c, L, cf, ch, r, h, hi, hL => by
    rcases h with ⟨x1, x2, x3⟩ | ⟨x1, x2, R, x3, x4⟩ | ⟨T, F, x1, x2, x3⟩ | ⟨T, F, k, x1, x2, x3⟩
    · subst x3
      refine ⟨fun z => Bool.noConfusion z, fun _ m hm => ?_⟩
      subst x2
      exact AllBad.none x1 (hm.l (hL m hm)) (fun _ z => Bool.noConfusion z) (fun i z => Bool.noConfusion ((b_0 i).symm.trans z))
    · refine SRn.fst hN hw hd n _ _ _ _ r x4 (hi.learn hN x1 x2 x3).1 (fun m hm x hx => ?_)
      rcases List.mem_append.mp hx with y | y
      · exact hL m hm x y
      · have y : x = R := by simpa using y
        subst y
        by_cases z : ∃ i, bt x i = true ∧ m i = true
        · exact z
        · have hc := (Rsn.sub (by omega) x3).2 x1
          exact (AllBad.none hc (hm.l (hL m hm)) (fun _ z => Bool.noConfusion z) (fun i hi => by
            cases w : m i
            · rfl
            · exact absurd ⟨i, hi, w⟩ z)).elim
    · subst x3
      exact ⟨fun _ => ⟨x1.fst hN hw hd hi hL x2, x1.2.1⟩, fun z => Bool.noConfusion z⟩
    · exact SRn.fst hN hw hd n _ _ _ _ r x3 (hi.choose hN hw x1 x2).1 hL
theorem SRn.fst0 {N : Nat} {Cl0 : ClT} {Rw : RwT} (hN : N ≤ 14) (hw : wthn N Cl0) (hd : dcd N Cl0 Rw) {n : Nat} {r : Res} (h : SRn N Cl0 Rw n 0 [] 0 0 r) : (r.1 = true → Fst N Cl0 Rw (bt r.2.1) ∧ sm N r.2.1) ∧ (r.1 = false → ∀ m, ¬ Kept N Cl0 Rw m) :=
  SRn.fst hN hw hd n 0 [] 0 0 r h SI.start (fun _ _ x hx => absurd hx (by simp))
