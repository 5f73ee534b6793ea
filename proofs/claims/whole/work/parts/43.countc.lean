/-! ALL MODELS in the class: counting -/
theorem layOut_loop {F : Nat} (hF : 20000 ≤ F) {I : Nat → Int32} {J : Nat → Int64} {a : Nat → Nat → Int32} {b : Nat → Nat → Int64} :
    ∀ (m n k : Nat) (a9 a10 : Nat → Int32), 7 - k = m → k ≤ 7 → m < n → SumOk a9 k (a 8) → SumOk a10 k (fun i => a 8 (7 + i)) →
      ∃ a9' a10', k_X3_layOutCosts_16 F I J a b n (nI k) a9 a10 = some (a9', a10') ∧ SumOk a9' 7 (a 8) ∧ SumOk a10' 7 (fun i => a 8 (7 + i)) := by
  intro m
  induction m with
  | zero =>
    intro n k a9 a10 h1 h2 h3 h9 h10
    obtain ⟨n, rfl⟩ : ∃ j, n = j + 1 := ⟨n - 1, by omega⟩
    have : k = 7 := by omega
    subst this
    have u : (7 : Int32) ≤ nI 7 := by decide
    rw [k_X3_layOutCosts_16, if_pos u]
    exact ⟨a9, a10, rfl, h9, h10⟩
  | succ m ih =>
    intro n k a9 a10 h1 h2 h3 h9 h10
    obtain ⟨n, rfl⟩ : ∃ j, n = j + 1 := ⟨n - 1, by omega⟩
    have u : ¬ (7 : Int32) ≤ nI k := nI_ge (b := 7) (by omega) (by decide)
    obtain ⟨A', e1, e2⟩ := widen_c17 (F := F) (by omega) (I := I) (J := J) (a := fu (fu a 9 a9) 10 a10) (b := b) (k := k) (by omega) (w := a 8) h9
    have e7 : nI k + 7 = nI (7 + k) := (nI_add k 7).trans (by rw [Nat.add_comm])
    obtain ⟨A2, e3, e4⟩ := widen_c18 (F := F) (by omega) (I := I) (J := J) (a := fu (fu a 9 A') 10 a10) (b := b) (k := k) (by omega) (w := fun i => a 8 (7 + i)) h10
    rw [k_X3_layOutCosts_16, if_neg u, gd_nI (by omega) (by decide), nI_clamp (by omega), e1, ob_s, e7, gd_nI (by omega) (by decide), nI_clamp (by omega), e3, ob_s, nI_1]
    exact ih n (k + 1) A' A2 (by omega) (by omega) (by omega) e2 e4
theorem layOut_c {F : Nat} (hF : 20000 ≤ F) {I : Nat → Int32} {J : Nat → Int64} {a : Nat → Nat → Int32} {b : Nat → Nat → Int64} : ∃ a9' a10', f_X3_layOutCosts F I J a b = some (a9', a10') ∧ SumOk a9' 7 (a 8) ∧ SumOk a10' 7 (fun i => a 8 (7 + i)) := by
  obtain ⟨a9', a10', e1, e2, e3⟩ := layOut_loop hF (I := I) (J := J) (a := a) (b := b) 7 F 0 (upd (a 9) 0 0) (upd (a 10) 0 0) (by omega) (by omega) (by omega) SumOk.zero SumOk.zero
  refine ⟨a9', a10', ?_, e2, e3⟩
  unfold f_X3_layOutCosts
  have z2 : (0 : Int32).toNatClampNeg = 0 := rfl
  rw [gd_z (by decide) (by decide), gd_z (by decide) (by decide), z2]
  exact e1
/-- strictly before -/
def sbef (x y : Nat → Bool) : Prop := ∃ k, (∀ i, i < k → x i = y i) ∧ x k = false ∧ y k = true
theorem sbef_to {N : Nat} {x y : Nat → Bool} (h : sbef x y) : bef N x y := by
  obtain ⟨k, h1, h2, h3⟩ := h
  intro n hn heq ht
  rcases Nat.lt_trichotomy n k with z | z | z
  · rw [← h1 n z]
    exact ht
  · rw [z, h2] at ht
    cases ht
  · have := heq k z
    rw [h2, h3] at this
    cases this
theorem sbef_non {N : Nat} {x y : Nat → Bool} (h : ¬ sbef x y) : bef N y x := by
  intro n hn heq ht
  cases c : x n
  · exact absurd ⟨n, fun i hi => (heq i hi).symm, c, ht⟩ h
  · rfl
theorem isBefore_c (F : Nat) {x y : Nat} (hx : x < 16384) (hy : y < 16384) : ∃ fl : Bool, f_X3_isBefore F (nI x) (nI y) = some (zf fl) ∧ (fl = true ↔ sbef (tb x) (tb y)) := by
  unfold f_X3_isBefore
  rw [nmI_s]
  have hb : ∀ n i, i < 32 → bt (nI n) i = n.testBit i := fun n i hi => bt_nI hi
  have hbig : ∀ n i, n < 16384 → 32 ≤ i → n.testBit i = false := fun n i h1 h2 => Nat.testBit_lt_two_pow (Nat.lt_of_lt_of_le h1 (Nat.le_trans (by decide : 16384 ≤ 2 ^ 32) (Nat.pow_le_pow_right (by decide) h2)))
  have hd : ∀ i, bt (nI x ^^^ nI y) i = (x.testBit i ^^ y.testBit i) := fun i => by
    rcases Nat.lt_or_ge i 32 with c | c
    · rw [b_xor, hb x i c, hb y i c]
    · rw [b_big c, hbig x i hx c, hbig y i hy c]
      rfl
  by_cases c : nI x ^^^ nI y = 0
  · have e : nI y &&& (nI x ^^^ nI y) &&& -(nI x ^^^ nI y) = 0 := by
      rw [c]
      refine b_eq0.mpr (fun i => ?_)
      rw [b_and, b_and, b_0]
      simp
    rw [if_pos e]
    refine ⟨false, rfl, fun z => Bool.noConfusion z, ?_⟩
    rintro ⟨k, h1, h2, h3⟩
    have := hd k
    rw [c, b_0] at this
    have h2 : x.testBit k = false := h2
    have h3 : y.testBit k = true := h3
    rw [h2, h3] at this
    cases this
  · obtain ⟨i, hi⟩ := b_ne0 c
    obtain ⟨k, h1, h2⟩ := least_ex (P := fun i => bt (nI x ^^^ nI y) i = true) i hi
    have hk : k < 32 := by
      rcases Nat.lt_or_ge k 32 with z | z
      · exact z
      · rw [b_big z] at h1
        cases h1
    have e : nI y &&& (nI x ^^^ nI y) &&& -(nI x ^^^ nI y) = nI y &&& one k := by
      rw [Int32.and_assoc, low_bit hk h1 (fun j hj => by
        cases z : bt (nI x ^^^ nI y) j
        · rfl
        · exact absurd z (h2 j hj))]
    have heq : ∀ i, i < k → tb x i = tb y i := fun i hi => by
      have := h2 i hi
      rw [hd] at this
      show x.testBit i = y.testBit i
      cases e1 : x.testBit i <;> cases e2 : y.testBit i <;> rw [e1, e2] at this <;> simp at this ⊢
    rw [hd] at h1
    have h4 := (set_one (p := nI y) hk).2
    rw [hb y k hk] at h4
    rw [e]
    cases hyk : y.testBit k
    · rw [if_pos (h4.mpr hyk)]
      refine ⟨false, rfl, fun z => Bool.noConfusion z, ?_⟩
      rintro ⟨k', g1, g2, g3⟩
      rcases Nat.lt_trichotomy k k' with z | z | z
      · have := g1 k z
        have : x.testBit k = y.testBit k := this
        rw [this, hyk] at h1
        cases h1
      · rw [← z] at g3
        have g3 : y.testBit k = true := g3
        rw [hyk] at g3
        cases g3
      · have := heq k' z
        rw [g2, g3] at this
        cases this
    · rw [if_neg (fun z => by rw [h4.mp z] at hyk; cases hyk)]
      refine ⟨true, rfl, fun _ => ⟨k, heq, ?_, hyk⟩, fun _ => rfl⟩
      rw [hyk] at h1
      show x.testBit k = false
      cases z : x.testBit k
      · rfl
      · rw [z] at h1
        cases h1
/-- what is known of the first j sets -/
def MI (pS : Nat → Prop) (cst : Nat → Int32) (N j : Nat) (sz inA inS least best : Int32) : Prop :=
  sz = nI (cn pS j) ∧ (∀ i, bt inA i = true ↔ i < N ∧ ∀ s, s < j → pS s → s.testBit i = true) ∧ (∀ i, bt inS i = true ↔ ∃ s, s < j ∧ pS s ∧ s.testBit i = true) ∧
  ((∀ s, s < j → ¬ pS s) ∨ ∃ sb, sb < j ∧ pS sb ∧ best = nI sb ∧ least = cst sb ∧ ∀ s, s < j → pS s → (cst sb).toInt < (cst s).toInt ∨ (cst s = cst sb ∧ bef N (tb sb) (tb s)))
theorem MI.skip {pS : Nat → Prop} {cst : Nat → Int32} {N j : Nat} {sz inA inS least best : Int32} (h : MI pS cst N j sz inA inS least best) (hn : ¬ pS j) : MI pS cst N (j + 1) sz inA inS least best := by
  obtain ⟨h1, h2, h3, h4⟩ := h
  have f : ∀ s, s < j + 1 → pS s → s < j := fun s hs hp => by
    by_cases e : s = j
    · rw [e] at hp
      exact absurd hp hn
    · omega
  refine ⟨by rw [cn_n hn]; exact h1, fun i => ?_, fun i => ?_, ?_⟩
  · rw [h2]
    exact ⟨fun x => ⟨x.1, fun s hs hp => x.2 s (f s hs hp) hp⟩, fun x => ⟨x.1, fun s hs hp => x.2 s (by omega) hp⟩⟩
  · rw [h3]
    exact ⟨fun ⟨s, x1, x2, x3⟩ => ⟨s, by omega, x2, x3⟩, fun ⟨s, x1, x2, x3⟩ => ⟨s, f s x1 x2, x2, x3⟩⟩
  · rcases h4 with h4 | ⟨sb, g1, g2, g3, g4, g5⟩
    · refine Or.inl (fun s hs hp => h4 s (f s hs hp) hp)
    · exact Or.inr ⟨sb, by omega, g2, g3, g4, fun s hs hp => g5 s (f s hs hp) hp⟩
theorem MI.take {pS : Nat → Prop} {cst : Nat → Int32} {N j : Nat} {sz inA inS least best least' best' : Int32} (hj : j < 16384) (h : MI pS cst N j sz inA inS least best) (hp : pS j)
    (hb : (least' = cst j ∧ best' = nI j ∧ ((∀ s, s < j → ¬ pS s) ∨ ∃ sb, best = nI sb ∧ pS sb ∧ sb < j ∧ ((cst j).toInt < least.toInt ∨ (cst j = least ∧ bef N (tb j) (tb sb))))) ∨
      (least' = least ∧ best' = best ∧ (∃ s, s < j ∧ pS s) ∧ ∀ sb, sb < 16384 → best = nI sb → (least.toInt < (cst j).toInt ∨ (cst j = least ∧ bef N (tb sb) (tb j))))) :
    MI pS cst N (j + 1) (sz + 1) (inA &&& nI j) (inS ||| nI j) least' best' := by
  obtain ⟨h1, h2, h3, h4⟩ := h
  have hbj : ∀ i, bt (nI j) i = j.testBit i := fun i => by
    rcases Nat.lt_or_ge i 32 with c | c
    · exact bt_nI c
    · rw [b_big c, Nat.testBit_lt_two_pow (Nat.lt_of_lt_of_le hj (Nat.le_trans (by decide : 16384 ≤ 2 ^ 32) (Nat.pow_le_pow_right (by decide) c)))]
  refine ⟨by rw [cn_p hp, h1, nI_1], fun i => ?_, fun i => ?_, ?_⟩
  · rw [b_and, Bool.and_eq_true_iff, h2, hbj]
    constructor
    · rintro ⟨⟨x1, x2⟩, x3⟩
      refine ⟨x1, fun s hs hq => ?_⟩
      by_cases e : s = j
      · rw [e]; exact x3
      · exact x2 s (by omega) hq
    · rintro ⟨x1, x2⟩
      exact ⟨⟨x1, fun s hs hq => x2 s (by omega) hq⟩, x2 j (by omega) hp⟩
  · rw [b_or, Bool.or_eq_true_iff, h3, hbj]
    constructor
    · rintro (⟨s, x1, x2, x3⟩ | x)
      · exact ⟨s, by omega, x2, x3⟩
      · exact ⟨j, by omega, hp, x⟩
    · rintro ⟨s, x1, x2, x3⟩
      by_cases e : s = j
      · rw [e] at x3
        exact Or.inr x3
      · exact Or.inl ⟨s, by omega, x2, x3⟩
  · right
    rcases hb with ⟨rfl, rfl, hb⟩ | ⟨rfl, rfl, ⟨s0, y1, y2⟩, hb⟩
    · refine ⟨j, by omega, hp, rfl, rfl, fun s hs hq => ?_⟩
      by_cases e : s = j
      · rw [e]
        exact Or.inr ⟨rfl, fun n _ _ z => z⟩
      · rcases hb with hb | ⟨sb, b1, b2, b3, b4⟩
        · exact absurd hq (hb s (by omega))
        · rcases h4 with h4 | ⟨sb', g1, g2, g3, g4, g5⟩
          · exact absurd b2 (h4 sb b3)
          · have es : sb' = sb := by
              have := congrArg Int32.toNatClampNeg (g3.symm.trans b1)
              rw [nI_clamp (by omega), nI_clamp (by omega)] at this
              exact this
            subst es
            rw [g4] at b4
            rcases b4 with b4 | ⟨b4, b5⟩
            · rcases g5 s (by omega) hq with g | ⟨g, -⟩
              · exact Or.inl (by omega)
              · rw [g]
                exact Or.inl b4
            · rw [b4]
              rcases g5 s (by omega) hq with g | ⟨g, g'⟩
              · exact Or.inl g
              · exact Or.inr ⟨g, b5.trans g'⟩
    · rcases h4 with h4 | ⟨sb, g1, g2, g3, g4, g5⟩
      · exact absurd y2 (h4 s0 y1)
      · refine ⟨sb, by omega, g2, g3, g4, fun s hs hq => ?_⟩
        by_cases e : s = j
        · rw [e, ← g4]
          exact hb sb (by omega) g3
        · exact g5 s (by omega) hq
theorem countOne_c (F : Nat) {I : Nat → Int32} {J : Nat → Int64} {a : Nat → Nat → Int32} {b : Nat → Nat → Int64} {pS : Nat → Prop} {N j : Nat} (hj : j < 16384) (h9 : SumOk (a 9) 7 (a 8)) (h10 : SumOk (a 10) 7 (fun i => a 8 (7 + i))) (h : MI pS (fun s => isum (a 8) (tb s) 14) N j (I 19) (I 20) (I 21) (I 22) (I 23)) (hp : pS j) :
    ∃ sz inA inS least best, f_X3_countOne F I J a b (nI j) = some (sz, inA, inS, least, best) ∧ MI pS (fun s => isum (a 8) (tb s) 14) N (j + 1) sz inA inS least best := by
  have hsum := sumOf_c F (I := I) (J := J) (a := a) (b := b) (w := a 8) h9 h10 hj
  unfold f_X3_countOne
  rw [hsum, ob_s]
  have hcl := cn_le pS j
  have h19 := h.1
  by_cases c0 : I 19 = 0
  · rw [if_pos c0]
    have hz : ∀ s, s < j → ¬ pS s := cn_z.mp ((nI_zz (by omega)).mp (h19.symm.trans c0))
    exact ⟨_, _, _, _, _, rfl, h.take hj hp (Or.inl ⟨rfl, rfl, Or.inl hz⟩)⟩
  · rw [if_neg c0]
    have hnz : ¬ ∀ s, s < j → ¬ pS s := fun z => c0 (by rw [h19, cn_z.mpr z]; rfl)
    obtain ⟨sb, g1, g2, g3, g4, g5⟩ := h.2.2.2.resolve_left hnz
    by_cases c1 : isum (a 8) (tb j) 14 < I 22
    · rw [if_pos c1]
      exact ⟨_, _, _, _, _, rfl, h.take hj hp (Or.inl ⟨rfl, rfl, Or.inr ⟨sb, g3, g2, g1, Or.inl (i_lt.mp c1)⟩⟩)⟩
    · rw [if_neg c1]
      by_cases c2 : isum (a 8) (tb j) 14 = I 22
      · rw [if_pos c2, g3]
        obtain ⟨fl, e1, e2⟩ := isBefore_c F hj (show sb < 16384 by omega)
        rw [e1, ob_s]
        cases fl
        · rw [if_pos (show zf false = 0 from rfl)]
          refine ⟨_, _, _, _, _, rfl, h.take hj hp (Or.inr ⟨rfl, g3.symm, ⟨sb, g1, g2⟩, fun sb' hs' hb' => Or.inr ⟨c2, ?_⟩⟩)⟩
          have es : sb' = sb := by
            have := congrArg Int32.toNatClampNeg (hb'.symm.trans g3)
            rw [nI_clamp (by omega), nI_clamp (by omega)] at this
            exact this
          rw [es]
          exact sbef_non (fun z => by have := e2.mpr z; cases this)
        · rw [if_neg (show ¬ zf true = 0 by decide)]
          exact ⟨_, _, _, _, _, rfl, h.take hj hp (Or.inl ⟨rfl, rfl, Or.inr ⟨sb, g3, g2, g1, Or.inr ⟨c2, sbef_to (e2.mp rfl)⟩⟩⟩)⟩
      · rw [if_neg c2]
        refine ⟨_, _, _, _, _, rfl, h.take hj hp (Or.inr ⟨rfl, rfl, ⟨sb, g1, g2⟩, fun _ _ _ => Or.inl ?_⟩)⟩
        have d1 : ¬ (isum (a 8) (tb j) 14).toInt < (I 22).toInt := fun z => c1 (i_lt.mpr z)
        have d2 : (isum (a 8) (tb j) 14).toInt ≠ (I 22).toInt := fun z => c2 (Int32.toInt_inj.mp z)
        show (I 22).toInt < (isum (a 8) (tb j) 14).toInt
        omega
theorem l_and0 {x y : Int64} {G : Nat} (hy : ∀ t, t < 64 → bl y t = true → t < G) : lg_cmp (x &&& y) 0 = 0 ↔ ∀ t, t < G → bl y t = true → bl x t = false := by
  rw [lg_cmp0, l_eq0]
  constructor
  · intro h t ht hb
    have := h t
    rw [l_and, hb, Bool.and_true] at this
    exact this
  · intro h i
    rw [l_and]
    cases c : bl y i
    · simp
    · have hi : i < 64 := by
        rcases Nat.lt_or_ge i 64 with z | z
        · exact z
        · rw [l_big z] at c
          cases c
      rw [h i (hy i hi c) c]
      rfl
/-- a set of truths keeps all that stands -/
def PC (N G : Nat) (J : Nat → Int64) (a : Nat → Nat → Int32) (m : Nat → Bool) : Prop := ∀ t, t < G → bl (J 0) t = true → KC N J a t m
theorem Brk.pc {N G : Nat} {J : Nat → Int64} {a : Nat → Nat → Int32} {B : Nat → Int64} (h : Brk N G J a (fun _ => false) B) (hst : ∀ t, t < 64 → bl (J 0) t = true → t < G) {s : Nat} (hs : s < 2 ^ N) : lg_cmp (B s &&& J 0) 0 = 0 ↔ PC N G J a (tb s) := by
  rw [l_and0 hst]
  constructor
  · intro x t h1 h2
    have := h t h1 h2 rfl s hs
    rw [x t h1 h2] at this
    exact Classical.not_not.mp (fun z => Bool.noConfusion (this.mpr z))
  · intro x t h1 h2
    have := h t h1 h2 rfl s hs
    cases c : bl (B s) t
    · rfl
    · exact absurd (x t h1 h2) (this.mp c)
theorem countAll_loop (F : Nat) {I : Nat → Int32} {J : Nat → Int64} {a : Nat → Nat → Int32} {b : Nat → Nat → Int64} {N G : Nat} (hN : N ≤ 14) (hst : ∀ t, t < 64 → bl (J 0) t = true → t < G) {a9 a10 : Nat → Int32} {B : Nat → Int64} (h9 : SumOk a9 7 (a 8)) (h10 : SumOk a10 7 (fun i => a 8 (7 + i))) (hB : Brk N G J a (fun _ => false) B) :
    ∀ (m n j : Nat) (sz inA inS least best : Int32), 2 ^ N - j = m → j ≤ 2 ^ N → m < n → MI (fun s => PC N G J a (tb s)) (fun s => isum (a 8) (tb s) 14) N j sz inA inS least best →
      ∃ sz' inA' inS' least' best', k_X3_countAll_68 F I J a b n (J 0) (nI (2 ^ N)) (nI j) sz inA inS least best 0 a9 a10 B = some (1, sz', inA', inS', least', best', 0, a9, a10, B) ∧ MI (fun s => PC N G J a (tb s)) (fun s => isum (a 8) (tb s) 14) N (2 ^ N) sz' inA' inS' least' best' := by
  have hp := pow_14 hN
  have hp0 := Nat.two_pow_pos N
  intro m
  induction m with
  | zero =>
    intro n j sz inA inS least best h1 h2 h3 h4
    obtain ⟨n, rfl⟩ : ∃ j, n = j + 1 := ⟨n - 1, by omega⟩
    have : j = 2 ^ N := by omega
    subst this
    have u : nI (2 ^ N) ≤ nI (2 ^ N) := by
      rw [nI_leI (by omega) (by omega)]
      omega
    rw [k_X3_countAll_68, if_pos u]
    exact ⟨sz, inA, inS, least, best, rfl, h4⟩
  | succ m ih =>
    intro n j sz inA inS least best h1 h2 h3 h4
    obtain ⟨n, rfl⟩ : ∃ j, n = j + 1 := ⟨n - 1, by omega⟩
    have u : ¬ nI (2 ^ N) ≤ nI j := by
      rw [nI_leI (by omega) (by omega)]
      omega
    have hpc := hB.pc hst (s := j) (by omega)
    rw [k_X3_countAll_68, if_neg u, gd_nI (by omega) (by decide), nI_clamp (by omega), nI_1]
    by_cases c : lg_cmp (B j &&& J 0) 0 = 0
    · rw [if_pos c]
      obtain ⟨sz', inA', inS', least', best', e1, e2⟩ := countOne_c F (I := (fu (fu (fu (fu (fu I 19 sz) 20 inA) 21 inS) 22 least) 23 best)) (J := fu J 2 0) (a := fu (fu a 9 a9) 10 a10) (b := fu b 0 B) (pS := fun s => PC N G J a (tb s)) (N := N) (j := j) (by omega) h9 h10 h4 (hpc.mp c)
      rw [e1, ob_s]
      exact ih n (j + 1) sz' inA' inS' least' best' (by omega) (by omega) (by omega) e2
    · rw [if_neg c]
      exact ih n (j + 1) sz inA inS least best (by omega) (by omega) (by omega) (h4.skip (fun z => c (hpc.mpr z)))
theorem MI.start {pS : Nat → Prop} {cst : Nat → Int32} {N : Nat} (hN : N ≤ 14) : MI pS cst N 0 0 (nI (2 ^ N - 1)) 0 0 0 := by
  refine ⟨rfl, fun i => ?_, fun i => ?_, Or.inl (fun s hs => absurd hs (by omega))⟩
  · rw [bt_all hN, decide_eq_true_eq]
    exact ⟨fun x => ⟨x, fun s hs => absurd hs (by omega)⟩, fun x => x.1⟩
  · rw [b_0]
    exact ⟨fun x => Bool.noConfusion x, fun ⟨s, hs, _⟩ => absurd hs (by omega)⟩
theorem countAll_c {F : Nat} (hF : 20000 ≤ F) {I : Nat → Int32} {J : Nat → Int64} {a : Nat → Nat → Int32} {b : Nat → Nat → Int64} {N G : Nat} (hN : N ≤ 14) (hG : G ≤ 60) (h4 : I 4 = nI N) (h5 : I 5 = nI G) (hst : ∀ t, t < 64 → bl (J 0) t = true → t < G) (hb : Brk N G J a (bl (J 2)) (b 0)) (h17 : I 17 = 0) :
    ∃ sz inA inS least best a9' a10' B', f_X3_countAll F I J a b = some (1, sz, inA, inS, least, best, 0, a9', a10', B') ∧ MI (fun s => PC N G J a (tb s)) (fun s => isum (a 8) (tb s) 14) N (2 ^ N) sz inA inS least best ∧ Brk N G J a (fun _ => false) B' := by
  have hp := pow_14 hN
  have hp0 := Nat.two_pow_pos N
  obtain ⟨x9, x10, B', e1, e2⟩ := readThings_c hF (I := I) (J := J) (a := a) (b := b) hN hG h4 h5 hb
  obtain ⟨y9, y10, e3, e4, e5⟩ := layOut_c hF (I := I) (J := fu J 2 0) (a := fu (fu a 9 x9) 10 x10) (b := fu b 0 B')
  obtain ⟨sz, inA, inS, least, best, e6, e7⟩ := countAll_loop F (I := I) (J := J) (a := a) (b := b) hN hst (a9 := y9) (a10 := y10) e4 e5 e2 (2 ^ N) F 0 0 (nI (2 ^ N - 1)) 0 0 0 (by omega) (by omega) (by omega) (MI.start hN)
  refine ⟨sz, inA, inS, least, best, y9, y10, B', ?_, e7, e2⟩
  unfold f_X3_countAll
  rw [if_pos h17, e1]
  simp only [ob_s]
  rw [e3]
  unfold f_X5_allNames f_X5_standing f_X5_names
  simp only [ob_s, nmI_s]
  have q : (fu I 19 0) 4 = nI N := h4
  have q2 : (fu (fu (fu (fu (fu I 19 0) 20 (nI (2 ^ N - 1))) 21 0) 22 0) 23 0) 4 = nI N := h4
  rw [q, all_n N hN, q2, one_pow N hN]
  exact e6
