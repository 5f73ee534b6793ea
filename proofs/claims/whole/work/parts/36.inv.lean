/-! THE SEARCH: what holds on the way, and that it ends -/
theorem bt_wo {x : Int32} {k : Nat} (hk : k < 32) (i : Nat) : bt (wo x k) i = (bt x i && !decide (i = k)) := congrFun (bt_clr hk) i
theorem bt_low : ∀ j, j < 14 → ∀ i, i < 32 → bt (2 * one j - 1) i = decide (i ≤ j) := by decide +kernel
theorem bt_cut {c : Int32} {j : Nat} (hj : j < 14) (i : Nat) : bt (c &&& (2 * one j - 1)) i = (bt c i && decide (i ≤ j)) := by
  rw [b_and]
  rcases Nat.lt_or_ge i 32 with h | h
  · rw [bt_low j hj i h]
  · rw [b_big h]
    rfl
theorem keep_spec {c R : Int32} : keep c R = 0 ∨ ∃ j h, j < h ∧ h < 14 ∧ bt R j = true ∧ bt R h = true ∧ (∀ i, i < 14 → bt R i = true → i ≤ h) ∧ (∀ i, i < 14 → bt R i = true → i ≠ h → i ≤ j) ∧ ∀ i, bt (keep c R) i = (bt c i && decide (i ≤ j)) := by
  unfold keep
  cases e1 : hbit R 14 with
  | none => exact Or.inl rfl
  | some h =>
    obtain ⟨a1, a2, a3⟩ := hbit_some e1
    dsimp only
    cases e2 : hbit (wo R h) 14 with
    | none => exact Or.inl rfl
    | some j =>
      obtain ⟨b1, b2, b3⟩ := hbit_some e2
      rw [bt_wo (by omega)] at b2
      simp at b2
      have := a3 j b1 b2.1
      refine Or.inr ⟨j, h, by omega, a1, b2.1, a2, a3, fun i hi hr hn => b3 i hi ?_, fun i => bt_cut b1 i⟩
      rw [bt_wo (by omega), hr, decide_eq_false hn]
      rfl
theorem Rsn.sub {cf : Int32 → Prop} : ∀ {k : Nat} {x R : Int32}, k ≤ 14 → Rsn cf k x R → (∀ i, bt R i = true → bt x i = true) ∧ (cf x → cf R)
  | 0, x, R, _, h => by
    have h : R = x := h
    rw [h]
    exact ⟨fun _ a => a, id⟩
  | k + 1, x, R, hk, h => by
    rcases h with ⟨a, b, c⟩ | ⟨a, c⟩
    · obtain ⟨d, e⟩ := Rsn.sub (by omega) c
      refine ⟨fun i hi => ?_, fun _ => e b⟩
      have := d i hi
      rw [bt_wo (by omega)] at this
      simp at this
      exact this.1
    · exact Rsn.sub (by omega) c
theorem Rsn.ex (cf : Int32 → Prop) : ∀ (k : Nat) (x : Int32), ∃ R, Rsn cf k x R
  | 0, x => ⟨x, rfl⟩
  | k + 1, x => by
    by_cases h : bt x k = true ∧ cf (wo x k)
    · obtain ⟨R, hR⟩ := Rsn.ex cf k (wo x k)
      exact ⟨R, Or.inl ⟨h.1, h.2, hR⟩⟩
    · obtain ⟨R, hR⟩ := Rsn.ex cf k x
      exact ⟨R, Or.inr ⟨fun a b => h ⟨a, b⟩, hR⟩⟩
def Asc (N : Nat) (Cl0 : ClT) (Rw : RwT) (L : List Int32) (c : Int32) : Prop :=
  ∀ i, bt c i = true → ∀ T F, Cld N (ClL Cl0 L) Rw T F → (∀ j, j < i → bt c j = true → F j = true) → ∀ j, j < i → T j = true ∨ F j = true
noncomputable def brd (L : List Int32) : Nat := cnt (fun s => @decide (s ≠ 0 ∧ ∃ m, m ∈ L ∧ ∀ i, bt m i = true → bt (nI s) i = true) (Classical.propDecidable _)) 8192
def SI (N : Nat) (Cl0 : ClT) (Rw : RwT) (c : Int32) (L : List Int32) : Prop :=
  sm N c ∧ (∀ m, m ∈ L → sm N m) ∧ (c = 0 ∨ ∀ m, m ∈ L → ∃ i, bt m i = true ∧ bt c i = false) ∧ Asc N Cl0 Rw L c ∧ (∀ i, i + 1 = N → bt c i = true → ¬ cfl N Cl0 Rw L c) ∧ L.length ≤ brd L
theorem Cld.less {n : Nat} {Cl0 : ClT} {Rw : RwT} {L : List Int32} {R : Int32} {T F : Nat → Bool} (h : Cld n (ClL Cl0 (L ++ [R])) Rw T F) : Cld n (ClL Cl0 L) Rw T F := by
  have hc : ∀ p q, ClL Cl0 L p q → ClL Cl0 (L ++ [R]) p q := by
    rintro p q (x | ⟨m, x, y⟩)
    · exact Or.inl x
    · exact Or.inr ⟨m, by simp [x], y⟩
  exact ⟨fun p q x => h.1 p q (hc p q x), fun p q x => h.2.1 p q (hc p q x), h.2.2⟩
theorem brd_le (L : List Int32) : brd L ≤ 8191 := by
  have h : cnt (fun s => @decide (s ≠ 0 ∧ ∃ m, m ∈ L ∧ ∀ i, bt m i = true → bt (nI s) i = true) (Classical.propDecidable _)) 8192 < cnt (fun _ => true) 8192 := cnt_grow (k := 0) (by decide) (fun _ _ _ => rfl) (by simp) rfl
  have h2 := cnt_le (fun _ => true) 8192
  unfold brd
  omega
theorem brd_grow {L : List Int32} {R c : Int32} (h13 : sm 13 c) (h0 : c ≠ 0) (hL : ∀ m, m ∈ L → ∃ i, bt m i = true ∧ bt c i = false) (hR : ∀ i, bt R i = true → bt c i = true) : brd L < brd (L ++ [R]) := by
  obtain ⟨s, s1, s2, s3⟩ := of_sm (N := 13) (by omega) h13
  subst s2
  have hs0 : s ≠ 0 := fun e => h0 (by rw [e]; rfl)
  refine cnt_grow (k := s) s1 (fun i _ h => ?_) ?_ ?_
  · simp only [decide_eq_true_eq] at h ⊢
    obtain ⟨h1, m, h2, h3⟩ := h
    exact ⟨h1, m, by simp [h2], h3⟩
  · simp only [decide_eq_false_iff_not]
    rintro ⟨_, m, h2, h3⟩
    obtain ⟨i, i1, i2⟩ := hL m h2
    rw [h3 i i1] at i2
    cases i2
  · simp only [decide_eq_true_eq]
    exact ⟨hs0, R, by simp, hR⟩
theorem b_ne0 {x : Int32} (h : x ≠ 0) : ∃ i, bt x i = true := by
  apply Classical.byContradiction
  intro hno
  refine h (b_eq0.mpr (fun i => ?_))
  cases e : bt x i
  · rfl
  · exact absurd ⟨i, e⟩ hno
theorem SI.learn {N : Nat} {Cl0 : ClT} {Rw : RwT} {c R : Int32} {L : List Int32} (hN : N ≤ 14) (h : SI N Cl0 Rw c L) (hc : cfl N Cl0 Rw L c) (h0 : c ≠ 0) (hR : Rsn (cfl N Cl0 Rw L) 14 c R) :
    SI N Cl0 Rw (keep c R) (L ++ [R]) ∧ brd L < brd (L ++ [R]) ∧ sm N R := by
  obtain ⟨i1, i2, i3, i4, i5, i6⟩ := h
  have i3 := i3.resolve_left h0
  obtain ⟨r1, r2⟩ := hR.sub (Nat.le_refl _)
  have h13 : sm 13 c := fun i hi => by
    have a := i1 i hi
    apply Classical.byContradiction
    intro hno
    exact i5 i (by omega) hi hc
  have hb := brd_grow h13 h0 i3 r1
  have hsR : sm N R := fun i hi => i1 i (r1 i hi)
  have hk : ∀ i, bt (keep c R) i = true → bt c i = true ∧ ∀ j, j < i → bt c j = true → bt (keep c R) j = true := fun i hi => by
    rcases keep_spec (c := c) (R := R) with e | ⟨j, h, _, _, _, _, _, _, e⟩
    · rw [e, b_0] at hi
      cases hi
    · rw [e] at hi
      simp at hi
      refine ⟨hi.1, fun k hk hx => ?_⟩
      rw [e, hx, decide_eq_true (by omega)]
      rfl
  refine ⟨⟨fun i hi => i1 i (hk i hi).1, fun m hm => ?_, ?_, fun i hi T F hcl hf => ?_, fun i hi hx => ?_, ?_⟩, hb, hsR⟩
  · rcases List.mem_append.mp hm with x | x
    · exact i2 m x
    · rw [List.mem_singleton.mp x]
      exact hsR
  · rcases keep_spec (c := c) (R := R) with e | ⟨j, h, e1, e2, e3, e4, _, _, e⟩
    · exact Or.inl e
    · refine Or.inr (fun m hm => ?_)
      rcases List.mem_append.mp hm with x | x
      · obtain ⟨i, x1, x2⟩ := i3 m x
        refine ⟨i, x1, ?_⟩
        rw [e, x2]
        rfl
      · rw [List.mem_singleton.mp x]
        refine ⟨h, e4, ?_⟩
        rw [e, decide_eq_false (by omega), Bool.and_false]
  · exact i4 i (hk i hi).1 T F hcl.less (fun j hj hx => hf j hj ((hk i hi).2 j hj hx))
  · exact absurd hc (i5 i hi (hk i hx).1)
  · rw [List.length_append]
    show L.length + 1 ≤ _
    omega
theorem last_ok {n : Nat} {Cl : ClT} {Rw : RwT} {T F : Nat → Bool} {k : Nat} (hc : Cld n Cl Rw T F) (hb : ¬ Bad n Cl Rw T F) (hn : ∀ P N, Cl P N → ∀ i, (P i = true → i < n) ∧ (N i = true → i < n)) (hk : k < n) (h1 : T k = false) (h2 : F k = false) (ht : ∀ i, i < n → i ≠ k → T i = true ∨ F i = true) :
    Cld n Cl Rw T (fset F k) ∧ ¬ Bad n Cl Rw T (fset F k) := by
  have f1 : ∀ i, fset F k i = true → F i = true ∨ i = k := fun i hi => by simpa [fset] using hi
  have f2 : ∀ i, i < n → T i = true ∨ fset F k i = true := fun i hi => by
    by_cases e : i = k
    · right
      simp [fset, e]
    · rcases ht i hi e with x | x
      · exact Or.inl x
      · right
        simp [fset, x]
  have fk : fset F k k = true := by simp [fset]
  have hx : ∀ w, msumx n w T (fset F k) k = msumx n w T F k := fun w => nsum_congr (fun i _ => by
    by_cases e : i = k
    · rw [if_pos e, if_pos e]
    · rw [if_neg e, if_neg e]
      unfold ctr
      simp [fset, e])
  have hb' : ¬ Bad n Cl Rw T (fset F k) := by
    rintro (⟨i, a, b⟩ | ⟨P, Q, c, a, b⟩ | ⟨w, B, c, a⟩)
    · rcases f1 i b with x | x
      · exact hb (Or.inl ⟨i, a, x⟩)
      · rw [x, h1] at a
        cases a
    · by_cases e : P k = true
      · have := hc.1 P Q c k e (fun j x y => (f1 j (a j x)).resolve_right y) b
        rw [h1] at this
        cases this
      · refine hb (Or.inr (Or.inl ⟨P, Q, c, fun j x => (f1 j (a j x)).resolve_right (fun y => e (by rw [← y]; exact x)), b⟩))
    · rw [msum_x hk, hx] at a
      have e0 : ctr w T (fset F k) k = 0 := ctr_F h1 fk
      rw [e0] at a
      by_cases e : w k < 0
      · have := hc.2.2.2 w B c k hk e (by omega)
        rw [h1] at this
        cases this
      · refine hb (Or.inr (Or.inr ⟨w, B, c, ?_⟩))
        rw [msum_x hk, ctr_un h1 h2, if_neg e]
        exact a
  refine ⟨⟨fun P Q c i hi a b => ?_, fun P Q c i hi a b => ?_, fun w B c i hi hw a => ?_, fun w B c i hi hw a => ?_⟩, hb'⟩
  · rcases f2 i ((hn P Q c i).1 hi) with x | x
    · exact x
    · refine absurd (Or.inr (Or.inl ⟨P, Q, c, fun j y => ?_, b⟩)) hb'
      by_cases e : j = i
      · rw [e]
        exact x
      · exact a j y e
  · rcases f2 i ((hn P Q c i).2 hi) with x | x
    · refine absurd (Or.inr (Or.inl ⟨P, Q, c, a, fun j y => ?_⟩)) hb'
      by_cases e : j = i
      · rw [e]
        exact x
      · exact b j y e
    · exact x
  · cases hf : fset F k i
    · have hT := (f2 i hi).resolve_right (by rw [hf]; decide)
      refine absurd (Or.inr (Or.inr ⟨w, B, c, ?_⟩)) hb'
      rw [msum_x hi, ctr_T hT hf]
      exact a
    · rfl
  · cases hf : T i
    · have hF := (f2 i hi).resolve_left (by rw [hf]; decide)
      refine absurd (Or.inr (Or.inr ⟨w, B, c, ?_⟩)) hb'
      rw [msum_x hi, ctr_F hf hF]
      omega
    · rfl
theorem bt_cho {c : Int32} {k : Nat} (hk : k < 32) (i : Nat) : bt (c ||| one k) i = (bt c i || decide (i = k)) := congrFun (bt_fset hk) i
def wthn (N : Nat) (Cl : ClT) : Prop := ∀ P Q, Cl P Q → ∀ i, (P i = true → i < N) ∧ (Q i = true → i < N)
theorem wthn.l {N : Nat} {Cl0 : ClT} {L : List Int32} (h : wthn N Cl0) (hL : ∀ m, m ∈ L → sm N m) : wthn N (ClL Cl0 L) := by
  rintro p q (x | ⟨m, x, rfl, rfl⟩) i
  · exact h p q x i
  · exact ⟨fun a => hL m x i a, fun a => by rw [b_0] at a; cases a⟩
theorem SI.choose {N : Nat} {Cl0 : ClT} {Rw : RwT} {c T F : Int32} {L : List Int32} {k : Nat} (hN : N ≤ 14) (hw : wthn N Cl0) (h : SI N Cl0 Rw c L) (hk : knw N Cl0 Rw L c T F) (hl : lun N T F k) :
    SI N Cl0 Rw (c ||| one k) L ∧ bt c k = false ∧ ∀ i, bt c i = true → i < k := by
  obtain ⟨i1, i2, i3, i4, i5, i6⟩ := h
  obtain ⟨⟨b1, b2, b3⟩, s1, s2⟩ := hk
  obtain ⟨l1, l2, l3, l4⟩ := hl
  have hF : ∀ i, bt c i = true → bt F i = true := b1.1.2
  have hlt : ∀ i, bt c i = true → i < k := fun i hi => by
    rcases Nat.lt_trichotomy i k with x | x | x
    · exact x
    · rw [x] at hi
      have := hF k hi
      rw [l3] at this
      cases this
    · rcases i4 i hi _ _ b2 (fun j _ hx => hF j hx) k x with y | y
      · rw [l2] at y
        cases y
      · rw [l3] at y
        cases y
  have hck : bt c k = false := by
    cases e : bt c k
    · rfl
    · have := hlt k e
      omega
  have hbt := fun i => bt_cho (c := c) (k := k) (by omega) i
  refine ⟨⟨fun i hi => ?_, i2, Or.inr (fun m hm => ?_), fun i hi T' F' hcl hf j hj => ?_, fun i hi hx => ?_, i6⟩, hck, hlt⟩
  · rw [hbt] at hi
    simp at hi
    rcases hi with x | x
    · exact i1 i x
    · omega
  · apply Classical.byContradiction
    intro hno
    have hsub : ∀ i, bt m i = true → bt c i = true ∨ i = k := fun i hi => by
      cases e : bt (c ||| one k) i
      · exact absurd ⟨i, hi, e⟩ hno
      · rw [hbt] at e
        simpa using e
    have hmc : ClL Cl0 L (bt m) (bt 0) := Or.inr ⟨m, hm, rfl, rfl⟩
    have hz : ∀ j, bt 0 j = true → bt T j = true := fun j x => by
      rw [b_0] at x
      cases x
    cases e : bt m k
    · refine b3 (Or.inr (Or.inl ⟨_, _, hmc, fun j x => ?_, hz⟩))
      refine hF j ((hsub j x).resolve_right (fun y => ?_))
      rw [y, e] at x
      cases x
    · have := b2.1 _ _ hmc k e (fun j x y => hF j ((hsub j x).resolve_right y)) hz
      rw [l2] at this
      cases this
  · rw [hbt] at hi
    simp at hi
    have hf' : ∀ j, j < i → bt c j = true → F' j = true := fun j hj hx => hf j hj (by rw [hbt, hx]; rfl)
    rcases hi with x | x
    · exact i4 i x T' F' hcl hf' j hj
    · subst x
      have := b1.2 T' F' ⟨fun j x => Bool.noConfusion x, fun j x => hf' j (hlt j x) x⟩ hcl
      rcases l4 j hj with y | y
      · exact Or.inl (this.1 j y)
      · exact Or.inr (this.2 j y)
  · rw [hbt] at hx
    simp at hx
    have hik : i = k := by
      rcases hx with x | x
      · have := hlt i x
        omega
      · exact x
    subst hik
    have hlo := last_ok b2 b3 (hw.l i2) l1 l2 l3 (fun j hj hne => l4 j (by omega))
    intro hcf
    refine hlo.2 (hcf _ _ ⟨fun j x => Bool.noConfusion x, fun j x => ?_⟩ hlo.1)
    rw [hbt] at x
    simp at x
    show (bt F j || decide (j = i)) = true
    rcases x with y | y
    · rw [hF j y]
      rfl
    · rw [decide_eq_true y, Bool.or_true]
theorem SI.start {N : Nat} {Cl0 : ClT} {Rw : RwT} : SI N Cl0 Rw 0 [] := by
  refine ⟨sm.z, fun m hm => ?_, Or.inl rfl, fun i hi => ?_, fun i _ hi => ?_, Nat.zero_le _⟩
  · cases hm
  · rw [b_0] at hi
    cases hi
  · rw [b_0] at hi
    cases hi
/-- every set that is asked of has an answer -/
def dcd (N : Nat) (Cl0 : ClT) (Rw : RwT) : Prop := ∀ L c, (∀ m, m ∈ L → sm N m) → L.length ≤ 8192 → sm N c → cfl N Cl0 Rw L c ∨ ∃ T F, knw N Cl0 Rw L c T F
theorem lun_ex {N : Nat} {T F : Int32} (h : ¬ ∀ i, i < N → bt T i = true ∨ bt F i = true) : ∃ k, lun N T F k := by
  have key : ∀ n, (∀ i, i < n → i < N → bt T i = true ∨ bt F i = true) ∨ ∃ k, lun N T F k := by
    intro n
    induction n with
    | zero => exact Or.inl (fun i hi => absurd hi (by omega))
    | succ n ih =>
      rcases ih with x | x
      · by_cases e : n < N → bt T n = true ∨ bt F n = true
        · refine Or.inl (fun i hi hiN => ?_)
          by_cases e' : i = n
          · rw [e'] at hiN ⊢
            exact e hiN
          · exact x i (by omega) hiN
        · right
          refine ⟨n, ?_⟩
          have e1 : n < N := Classical.byContradiction (fun y => e (fun z => absurd z y))
          have e2 : ¬ (bt T n = true ∨ bt F n = true) := fun y => e (fun _ => y)
          refine ⟨e1, ?_, ?_, fun i hi => x i hi (by omega)⟩
          · cases y : bt T n
            · rfl
            · exact absurd (Or.inl y) e2
          · cases y : bt F n
            · rfl
            · exact absurd (Or.inr y) e2
      · exact Or.inr x
  rcases key N with x | x
  · exact absurd (fun i hi => x i hi hi) h
  · exact x
theorem SRn.ex {N : Nat} {Cl0 : ClT} {Rw : RwT} (hN : N ≤ 14) (hw : wthn N Cl0) (hd : dcd N Cl0 Rw) : ∀ (n : Nat) (c : Int32) (L : List Int32) (cf ch : Nat), SI N Cl0 Rw c L → 16 * (8192 - brd L) + (15 - cnt (bt c) 14) ≤ n → ∃ r, SRn N Cl0 Rw n c L cf ch r := by
  intro n
  induction n with
  | zero =>
    intro c L cf ch h hn
    have := brd_le L
    omega
  | succ n ih =>
    intro c L cf ch h hn
    have hb := brd_le L
    have hl := h.2.2.2.2.2
    rcases hd L c h.2.1 (by omega) h.1 with x | ⟨T, F, x⟩
    · by_cases e : c = 0
      · exact ⟨_, Or.inl ⟨x, e, rfl⟩⟩
      · obtain ⟨R, hR⟩ := Rsn.ex (cfl N Cl0 Rw L) 14 c
        obtain ⟨y1, y2, -⟩ := h.learn hN x e hR
        have hb2 := brd_le (L ++ [R])
        obtain ⟨r, hr⟩ := ih (keep c R) (L ++ [R]) (cf + 1) ch y1 (by
          have := cnt_le (bt c) 14
          omega)
        exact ⟨r, Or.inr (Or.inl ⟨x, e, R, hR, hr⟩)⟩
    · by_cases e : ∀ i, i < N → bt T i = true ∨ bt F i = true
      · exact ⟨_, Or.inr (Or.inr (Or.inl ⟨T, F, x, e, rfl⟩))⟩
      · obtain ⟨k, hk⟩ := lun_ex e
        obtain ⟨y1, y2, -⟩ := h.choose hN hw x hk
        have hlk := hk.1
        have hc : cnt (bt (c ||| one k)) 14 = cnt (bt c) 14 + 1 := by
          rw [bt_fset (by omega)]
          exact cnt_fset y2 (by omega)
        have hc14 := cnt_le (bt (c ||| one k)) 14
        obtain ⟨r, hr⟩ := ih (c ||| one k) L cf (ch + 1) y1 (by omega)
        exact ⟨r, Or.inr (Or.inr (Or.inr ⟨T, F, k, x, hk, hr⟩))⟩
