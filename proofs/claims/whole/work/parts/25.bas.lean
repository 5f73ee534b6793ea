/-! what class and reference have in common: hands, assumed, lemmas, THINGS, costs -/
theorem fu_id {α : Type} (f : Nat → α) (k : Nat) : fu f k (f k) = f := by
  funext j
  by_cases e : j = k
  · subst e
    exact fu_self f j _
  · exact fu_ne f _ e
def Hd (N : Nat) (p q s y n : Int32) : Prop := y = p ∧ n = q ∧ sm N p ∧ sm N q ∧ s = nI (cnt (bt p) 14 + cnt (bt q) 14) ∧ cnt (bt p) 14 + cnt (bt q) 14 ≤ 8
def As (N : Nat) (p q y n : Int32) : Prop := y = p ∧ n = q ∧ sm N p ∧ sm N q
def Lm (N LC : Nat) (c m : Int32) (P Q P2 Q2 : Nat → Int32) : Prop := LC ≤ 40 ∧ c = nI LC ∧ m = nI LC ∧ ∀ k, k < LC → P2 k = P k ∧ Q2 k = Q k ∧ sm N (P k) ∧ sm N (Q k)
def Th (N G : Nat) (st rw : Int64) (P Q B W al ro P2 Q2 B2 W2 : Nat → Int32) : Prop :=
  (∀ t, t < 64 → bl st t = (decide (t < G) && !decide (al t = 0))) ∧ (∀ t, t < 64 → bl rw t = (decide (t < G) && !decide (ro t = 0))) ∧
  (∀ t, t < G → ro t = 0 → P2 t = P t ∧ Q2 t = Q t ∧ sm N (P t) ∧ sm N (Q t)) ∧
  (∀ t, t < G → ro t ≠ 0 → B2 t = B t ∧ -200 ≤ (B t).toInt ∧ (B t).toInt ≤ 200 ∧ ∀ i, i < 14 → W2 (14 * t + i) = W (14 * t + i) ∧ -20 ≤ (W (14 * t + i)).toInt ∧ (W (14 * t + i)).toInt ≤ 20 ∧ (N ≤ i → W (14 * t + i) = 0))
def Co (N : Nat) (c c2 : Nat → Int32) : Prop := (∀ i, i < N → c2 i = c i) ∧ (∀ i, i < 14 → -50 ≤ (c i).toInt ∧ (c i).toInt ≤ 50 ∧ (N ≤ i → c i = 0))
def Bas (N G LC : Nat) (I : Nat → Int32) (J : Nat → Int64) (a : Nat → Nat → Int32) (I2 : Nat → Int32) (a2 : Nat → Nat → Int32) : Prop :=
  (N ≤ 14 ∧ G ≤ 60 ∧ I 4 = nI N ∧ I 5 = nI G ∧ I2 0 = nI N ∧ I2 1 = nI G) ∧ Hd N (I 0) (I 1) (I2 2) (I2 3) (I2 4) ∧ As N (I 2) (I 3) (I2 5) (I2 6) ∧ Lm N LC (I 6) (I2 7) (a 4) (a 5) (a2 7) (a2 8) ∧
  Th N G (J 0) (J 1) (a 0) (a 1) (a 2) (a 3) (a2 0) (a2 1) (a2 2) (a2 3) (a2 4) (a2 5) ∧ Co N (a 8) (a2 6)
theorem Th.st {N G : Nat} {st rw : Int64} {P Q B W al ro P2 Q2 B2 W2 : Nat → Int32} (h : Th N G st rw P Q B W al ro P2 Q2 B2 W2) (hG : G ≤ 60) {t : Nat} (ht : t < G) : bl st t = !decide (al t = 0) ∧ bl rw t = !decide (ro t = 0) := by
  rw [h.1 t (by omega), h.2.1 t (by omega), decide_eq_true ht]
  exact ⟨rfl, rfl⟩
theorem Bas.wfC {N G LC : Nat} {I : Nat → Int32} {J : Nat → Int64} {a : Nat → Nat → Int32} {I2 : Nat → Int32} {a2 : Nat → Nat → Int32} (h : Bas N G LC I J a I2 a2) : WfC N G I J a := by
  obtain ⟨⟨hN, hG, h4, h5, -, -⟩, -, -, -, ht, -⟩ := h
  refine ⟨hN, hG, h4, h5, fun t hlt hs => ⟨fun hr => ?_, fun hr => ?_⟩⟩
  · have hr' := (ht.st hG hlt).2
    rw [hr] at hr'
    have := ht.2.2.1 t hlt (by simpa using hr'.symm)
    exact ⟨this.2.2.1, this.2.2.2⟩
  · have hr' := (ht.st hG hlt).2
    rw [hr] at hr'
    have := ht.2.2.2 t hlt (by simpa using hr'.symm)
    exact ⟨fun i hi => ⟨(this.2.2.2 i hi).2.1, (this.2.2.2 i hi).2.2.1⟩, this.2.1, this.2.2.1⟩
theorem Bas.wfM {N G LC : Nat} {I : Nat → Int32} {J : Nat → Int64} {a : Nat → Nat → Int32} {I2 : Nat → Int32} {a2 : Nat → Nat → Int32} (h : Bas N G LC I J a I2 a2) : WfM N G I2 a2 := by
  obtain ⟨⟨hN, hG, -, -, h0, h1⟩, -, -, -, ht, -⟩ := h
  refine ⟨hN, hG, h0, h1, fun t hlt hs => ⟨fun hr => ?_, fun hr i hi => ?_⟩⟩
  · have := ht.2.2.1 t hlt (by simpa using hr)
    rw [this.1, this.2.1]
    exact ⟨this.2.2.1, this.2.2.2⟩
  · have := ht.2.2.2 t hlt (by simpa using hr)
    rw [(this.2.2.2 i hi).1]
    exact ⟨(this.2.2.2 i hi).2.1, (this.2.2.2 i hi).2.2.1⟩
/-- rows that are the same on the names -/
def RwEq (n : Nat) (R R' : RwT) : Prop := (∀ w c, R w c → ∃ w', R' w' c ∧ ∀ i, i < n → w' i = w i) ∧ (∀ w c, R' w c → ∃ w', R w' c ∧ ∀ i, i < n → w' i = w i)
theorem RwEq.symm {n : Nat} {R R' : RwT} (h : RwEq n R R') : RwEq n R' R := ⟨h.2, h.1⟩
theorem ctr_w {w w' : Nat → Int} {T F : Nat → Bool} {i : Nat} (h : w' i = w i) : ctr w' T F i = ctr w T F i := by
  unfold ctr
  rw [h]
theorem msum_w {n : Nat} {w w' : Nat → Int} {T F : Nat → Bool} (h : ∀ i, i < n → w' i = w i) : msum n w' T F = msum n w T F := nsum_congr (fun i hi => ctr_w (h i hi))
theorem msumx_w {n : Nat} {w w' : Nat → Int} {T F : Nat → Bool} (h : ∀ i, i < n → w' i = w i) (k : Nat) : msumx n w' T F k = msumx n w T F k := nsum_congr (fun i hi => by rw [ctr_w (h i hi)])
theorem Cld.rw {n : Nat} {Cl : ClT} {R R' : RwT} (h : RwEq n R R') {T F : Nat → Bool} (hc : Cld n Cl R T F) : Cld n Cl R' T F := by
  refine ⟨hc.1, hc.2.1, fun w c hw k hk h1 h2 => ?_, fun w c hw k hk h1 h2 => ?_⟩
  · obtain ⟨w', g1, g2⟩ := h.2 w c hw
    exact hc.2.2.1 w' c g1 k hk (by rw [g2 k hk]; exact h1) (by rw [msumx_w g2, g2 k hk]; exact h2)
  · obtain ⟨w', g1, g2⟩ := h.2 w c hw
    exact hc.2.2.2 w' c g1 k hk (by rw [g2 k hk]; exact h1) (by rw [msumx_w g2]; exact h2)
theorem Bad.rw {n : Nat} {Cl : ClT} {R R' : RwT} (h : RwEq n R R') {T F : Nat → Bool} (hc : Bad n Cl R T F) : Bad n Cl R' T F := by
  rcases hc with x | x | ⟨w, c, hw, x⟩
  · exact Or.inl x
  · exact Or.inr (Or.inl x)
  · obtain ⟨w', g1, g2⟩ := h.1 w c hw
    exact Or.inr (Or.inr ⟨w', c, g1, by rw [msum_w g2]; exact x⟩)
theorem AllBad.rw {n : Nat} {Cl : ClT} {R R' : RwT} (h : RwEq n R R') {A0 A1 : Nat → Bool} (hc : AllBad n Cl R A0 A1) : AllBad n Cl R' A0 A1 := fun T F h1 h2 => (hc T F h1 (h2.rw h.symm)).rw h
theorem Lst.rw {n : Nat} {Cl : ClT} {R R' : RwT} (h : RwEq n R R') {A0 A1 T F : Nat → Bool} (hc : Lst n Cl R A0 A1 T F) : Lst n Cl R' A0 A1 T F :=
  ⟨⟨hc.1.1, fun T' F' h1 h2 => hc.1.2 T' F' h1 (h2.rw h.symm)⟩, hc.2.1.rw h, fun x => hc.2.2 (x.rw h.symm)⟩
theorem Out.rw {n : Nat} {Cl : ClT} {R R' : RwT} (h : RwEq n R R') {A0 A1 T F : Nat → Bool} {fl : Bool} (hc : Out n Cl R A0 A1 T F fl) : Out n Cl R' A0 A1 T F fl := by
  rcases hc with ⟨e, x⟩ | ⟨e, x⟩
  · exact Or.inl ⟨e, x.rw h⟩
  · exact Or.inr ⟨e, x.rw h⟩
/-- the same clauses and rows -/
theorem Bas.sys {N G LC : Nat} {I : Nat → Int32} {J : Nat → Int64} {a : Nat → Nat → Int32} {I2 : Nat → Int32} {a2 : Nat → Nat → Int32} (h : Bas N G LC I J a I2 a2) :
    tCl G (stM a2) (rwM a2) (a2 2) (a2 3) = tCl G (bl (J 0)) (bl (J 1)) (a 0) (a 1) ∧ RwEq N (RwM G a2) (RwC G J a) := by
  obtain ⟨⟨hN, hG, -, -, -, -⟩, -, -, -, ht, -⟩ := h
  refine ⟨?_, ?_, ?_⟩
  · funext p q
    apply propext
    constructor
    · rintro ⟨t, a1, a2', a3, rfl, rfl⟩
      have hs := ht.st hG a1
      have := ht.2.2.1 t a1 (by simpa using a3)
      exact ⟨t, a1, hs.1.trans a2', hs.2.trans a3, by rw [this.1], by rw [this.2.1]⟩
    · rintro ⟨t, a1, a2', a3, rfl, rfl⟩
      have hs := ht.st hG a1
      rw [hs.2] at a3
      rw [hs.1] at a2'
      have := ht.2.2.1 t a1 (by simpa using a3)
      exact ⟨t, a1, a2', a3, by rw [this.1], by rw [this.2.1]⟩
  · rintro w c ⟨t, a1, a2', a3, rfl, rfl⟩
    have hs := ht.st hG a1
    have := ht.2.2.2 t a1 (by simpa using a3)
    refine ⟨wC a t, ⟨t, a1, hs.1.trans a2', hs.2.trans a3, rfl, ?_⟩, fun i hi => ?_⟩
    · show (a2 4 t).toInt = (a 2 t).toInt
      rw [this.1]
    · show (a 3 (14 * t + i)).toInt = (a2 5 (14 * t + i)).toInt
      rw [(this.2.2.2 i (by omega)).1]
  · rintro w c ⟨t, a1, a2', a3, rfl, rfl⟩
    have hs := ht.st hG a1
    rw [hs.2] at a3
    rw [hs.1] at a2'
    have := ht.2.2.2 t a1 (by simpa using a3)
    refine ⟨wM a2 t, ⟨t, a1, a2', a3, rfl, ?_⟩, fun i hi => ?_⟩
    · show (a 2 t).toInt = (a2 4 t).toInt
      rw [this.1]
    · show (a2 5 (14 * t + i)).toInt = (a 3 (14 * t + i)).toInt
      rw [(this.2.2.2 i (by omega)).1]
/-- AT ONCE, class and reference: the same flag, and without it the same sets -/
theorem Bas.once {F : Nat} (hF : 30000 ≤ F) {N G LC S : Nat} {I : Nat → Int32} {J : Nat → Int64} {a : Nat → Nat → Int32} {b : Nat → Nat → Int64} {I2 : Nat → Int32} {J2 : Nat → Int64} {a2 : Nat → Nat → Int32} {b2 : Nat → Nat → Int64} (h : Bas N G LC I J a I2 a2) {v3 v3' : Int32} {XP XN XP2 XN2 : Nat → Int32} (hX : XOk F N I J a b v3 S XP XN) (hX2 : XOkM N I2 a2 v3' S XP2 XN2) (hxx : ∀ k, k < S → XP2 k = XP k ∧ XN2 k = XN k) {v1 v2 : Int32} (h1 : sm N v1) (h2 : sm N v2) :
    ∃ (fl : Bool) (T F1 T2 F2 : Int32), f_X0_clashes F I J a b v1 v2 v3 = some (zf fl, T, F1, zf fl) ∧ f_X7_conflicts F I2 J2 a2 b2 v1 v2 v3' = some (zf fl, T2, F2, zf fl) ∧ (fl = false → T2 = T ∧ F2 = F1) ∧ Out N (ClC G J a S XP XN) (RwC G J a) (bt v1) (bt v2) (bt T) (bt F1) fl ∧ sm N T ∧ sm N F1 := by
  obtain ⟨T, F1, fl, e1, e2, e3, e4⟩ := clashes_c (F := F) (by omega) (b := b) h.wfC hX h1 h2
  obtain ⟨T2, F2, fl2, g1, g2, g3, g4⟩ := conflicts_m hF (J := J2) (b := b2) h.wfM hX2 h1 h2
  have hs := h.sys
  have hcl : ClM G a2 S XP2 XN2 = ClC G J a S XP XN := by
    funext p q
    apply propext
    show (tCl G (stM a2) (rwM a2) (a2 2) (a2 3) p q ∨ xCl S XP2 XN2 p q) ↔ (tCl G (bl (J 0)) (bl (J 1)) (a 0) (a 1) p q ∨ xCl S XP XN p q)
    rw [hs.1]
    refine or_congr Iff.rfl ⟨?_, ?_⟩
    · rintro ⟨k, hk, rfl, rfl⟩
      exact ⟨k, hk, by rw [(hxx k hk).1], by rw [(hxx k hk).2]⟩
    · rintro ⟨k, hk, rfl, rfl⟩
      exact ⟨k, hk, by rw [(hxx k hk).1], by rw [(hxx k hk).2]⟩
  rw [hcl] at g2
  have g2' := g2.rw hs.2
  obtain ⟨rfl, u⟩ := e2.uniq g2'
  exact ⟨fl, T, F1, T2, F2, e1, g1, fun hf => ⟨eq_bt (u hf).1.symm, eq_bt (u hf).2.symm⟩, e2, e3, e4⟩
