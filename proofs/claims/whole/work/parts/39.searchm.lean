/-! THE SEARCH in the reference -/
/-- the choices c stand in the first C places of A, in their order -/
def ChoE (c : Int32) (C : Nat) (A : Nat → Int32) (e : Nat → Nat) : Prop := (∀ k, k < C → A k = nI (e k) ∧ e k < 14) ∧ (∀ j k, j < k → k < C → e j < e k) ∧ (∀ i, bt c i = true ↔ ∃ k, k < C ∧ e k = i)
def Cho (c : Int32) (C : Nat) (A : Nat → Int32) : Prop := ∃ e, ChoE c C A e
theorem ChoE.le {c : Int32} {C : Nat} {A : Nat → Int32} {e : Nat → Nat} (h : ChoE c C A e) : ∀ k, k < C → k ≤ e k
  | 0, _ => Nat.zero_le _
  | k + 1, hk => by
    have h1 := h.le k (by omega)
    have h2 := h.2.1 k (k + 1) (by omega) hk
    omega
theorem ChoE.le14 {c : Int32} {C : Nat} {A : Nat → Int32} {e : Nat → Nat} (h : ChoE c C A e) : C ≤ 14 := by
  rcases Nat.lt_or_ge 14 C with x | x
  · have h1 := h.le 14 x
    have h2 := (h.1 14 x).2
    omega
  · exact x
theorem ChoE.inj {c : Int32} {C : Nat} {A : Nat → Int32} {e : Nat → Nat} (h : ChoE c C A e) {j k : Nat} (hj : j < C) (hk : k < C) : e j ≤ e k ↔ j ≤ k := by
  rcases Nat.lt_trichotomy j k with x | x | x
  · have := h.2.1 j k x hk
    omega
  · subst x
    omega
  · have := h.2.1 k j x hj
    omega
theorem choiceSet_m {F : Nat} {I : Nat → Int32} {J : Nat → Int64} {a : Nat → Nat → Int32} {b : Nat → Nat → Int64} {c : Int32} {C : Nat} {e : Nat → Nat} (h : ChoE c C (a 9) e) (h13 : I 13 = nI C) :
    ∀ (m n k : Nat) (v : Int32), C - k = m → k ≤ C → m < n → (∀ i, bt v i = true ↔ ∃ j, j < k ∧ e j = i) → k_X7_choiceSet_4 F I J a b n v (nI k) = some c := by
  have hC := h.le14
  intro m
  induction m with
  | zero =>
    intro n k v h1 h2 h3 h4
    obtain ⟨n, rfl⟩ : ∃ j, n = j + 1 := ⟨n - 1, by omega⟩
    have : k = C := by omega
    subst this
    rw [k_X7_choiceSet_4, h13, if_pos (by rw [nI_leI (by omega) (by omega)]; omega)]
    congr 1
    refine b_ext (fun i hi => ?_)
    have h5 := h4 i
    have h6 := h.2.2 i
    cases e1 : bt v i <;> cases e2 : bt c i
    · rfl
    · rw [e1] at h5
      exact absurd (h5.mpr (h6.mp e2)) (by decide)
    · rw [e2] at h6
      exact absurd (h6.mpr (h5.mp e1)) (by decide)
    · rfl
  | succ m ih =>
    intro n k v h1 h2 h3 h4
    obtain ⟨n, rfl⟩ : ∃ j, n = j + 1 := ⟨n - 1, by omega⟩
    have u : ¬ nI C ≤ nI k := by
      rw [nI_leI (by omega) (by omega)]
      omega
    obtain ⟨h5, h6⟩ := h.1 k (by omega)
    rw [k_X7_choiceSet_4, h13, if_neg u, gd_nI (by omega) (by decide), nmI_s, nI_clamp (by omega), h5, nI_1]
    refine ih n (k + 1) _ (by omega) (by omega) (by omega) (fun i => ?_)
    rw [bt_cho (by omega)]
    constructor
    · intro x
      rcases Bool.or_eq_true_iff.mp x with y | y
      · obtain ⟨j, j1, j2⟩ := (h4 i).mp y
        exact ⟨j, by omega, j2⟩
      · exact ⟨k, by omega, (of_decide_eq_true y).symm⟩
    · rintro ⟨j, j1, j2⟩
      by_cases y : j = k
      · subst y
        rw [decide_eq_true j2.symm]
        simp
      · rw [(h4 i).mpr ⟨j, by omega, j2⟩]
        rfl
theorem Rsn.skip {cf : Int32 → Prop} {x R : Int32} {k : Nat} (h : Rsn cf k x R) : ∀ K, k ≤ K → (∀ i, k ≤ i → i < K → bt x i = false) → Rsn cf K x R
  | 0, hK, _ => by
    have : k = 0 := by omega
    subst this
    exact h
  | K + 1, hK, hb => by
    by_cases e : k = K + 1
    · subst e
      exact h
    · have hx : bt x K = true → ¬ cf (wo x K) := fun y => by
        rw [hb K (by omega) (by omega)] at y
        cases y
      exact Or.inr ⟨hx, h.skip K (by omega) (fun i h1 h2 => hb i h1 (by omega))⟩
theorem reason_m {F : Nat} {N : Nat} {I : Nat → Int32} {J : Nat → Int64} {a : Nat → Nat → Int32} {b : Nat → Nat → Int64} {Cl0 : ClT} {Rw : RwT} {L : List Int32} {c : Int32} {C : Nat} {e : Nat → Nat} (h : ChoE c C (a 9) e)
    (ho : ∀ i10 i11 i12 c, sm N c → ∃ T F' fl, f_X7_conflicts F (fu (fu (fu I 10 i10) 11 i11) 12 i12) J a b 0 c 1 = some (zf fl, T, F', zf fl) ∧ Orc N Cl0 Rw L c T F' fl) :
    ∀ (j n K : Nat) (x i10 i11 i12 : Int32), j ≤ C → j < n → K ≤ 14 → (∀ i, i < j → e i < K ∧ bt x (e i) = true) → (∀ i, i < K → bt x i = true → ∃ i', i' < j ∧ e i' = i) → sm N x →
      ∃ R T F' z, k_X7_learn_12 F I J a b n x (dn j) i10 i11 i12 = gd (I 14) 20000 (nmI ((I 14) + 1) (fun v_3 => nmI ((I 13) - 1) (fun v_4 => k_X7_learn_79 F I J a b F R 0 0 v_4 T F' z v_3 (upd (a 10) (I 14).toNatClampNeg R)))) ∧ Rsn (cfl N Cl0 Rw L) K x R
  | 0, n, K, x, i10, i11, i12, _, hn, _, _, h2, _ => by
    obtain ⟨n, rfl⟩ : ∃ j, n = j + 1 := ⟨n - 1, by omega⟩
    rw [k_X7_learn_12, if_pos dn_neg]
    refine ⟨_, _, _, _, rfl, ?_⟩
    refine Rsn.skip (k := 0) rfl K (by omega) (fun i _ hi => ?_)
    cases y : bt x i
    · rfl
    · obtain ⟨i', z, -⟩ := h2 i hi y
      omega
  | j + 1, n, K, x, i10, i11, i12, hj, hn, hK, h1, h2, hs => by
    obtain ⟨n, rfl⟩ : ∃ j, n = j + 1 := ⟨n - 1, by omega⟩
    have hC := h.le14
    obtain ⟨h5, h6⟩ := h.1 j (by omega)
    obtain ⟨g1, g2⟩ := h1 j (by omega)
    have k1 : ∀ i, i < j → e i < e j ∧ bt x (e i) = true := fun i hi => ⟨h.2.1 i j hi (by omega), (h1 i (by omega)).2⟩
    have k2 : ∀ i, i < e j → bt x i = true → ∃ i', i' < j ∧ e i' = i := fun i hi hb => by
      obtain ⟨i', y1, y2⟩ := h2 i (by omega) hb
      refine ⟨i', ?_, y2⟩
      by_cases y : i' = j
      · subst y
        omega
      · omega
    have sk : ∀ R y, (∀ i, e j < i → i < K → bt y i = false) → Rsn (cfl N Cl0 Rw L) (e j + 1) y R → Rsn (cfl N Cl0 Rw L) K y R := fun R y z1 z2 => Rsn.skip z2 K (by omega) (fun i y1 y2 => z1 i (by omega) y2)
    have hx : ∀ i, e j < i → i < K → bt x i = false := fun i y1 y2 => by
      cases y : bt x i
      · rfl
      · obtain ⟨i', z1, z2⟩ := h2 i y2 y
        have := (h.inj (j := i') (k := j) (by omega) (by omega)).mpr (by omega)
        omega
    rw [k_X7_learn_12, dn_s, if_neg (nI_pos (by omega)), gd_nI (by omega) (by decide), nmI_s, nI_clamp (by omega), h5]
    obtain ⟨T, F', fl, q1, q2⟩ := ho i10 i11 i12 (wo x (e j)) (hs.wo (e j))
    rw [q1]
    simp only [ob_s]
    rcases q2 with ⟨rfl, q2⟩ | ⟨rfl, q2⟩
    · rw [if_neg (show ¬ zf true = 0 by decide)]
      obtain ⟨R, T2, F2, z, r1, r2⟩ := reason_m h ho j n (e j) (wo x (e j)) T F' (zf true) (by omega) (by omega) (by omega) (fun i hi => ⟨(k1 i hi).1, by
        rw [bt_wo (by omega), (k1 i hi).2, decide_eq_false (by have := (k1 i hi).1; omega)]
        rfl⟩) (fun i hi hb => k2 i hi (by
        rw [bt_wo (by omega)] at hb
        exact (Bool.and_eq_true_iff.mp hb).1)) (hs.wo (e j))
      exact ⟨R, T2, F2, z, r1, sk R x hx (Or.inl ⟨g2, q2, r2⟩)⟩
    · rw [if_pos (show zf false = 0 from rfl)]
      obtain ⟨R, T2, F2, z, r1, r2⟩ := reason_m h ho j n (e j) x T F' (zf false) (by omega) (by omega) (by omega) k1 k2 hs
      exact ⟨R, T2, F2, z, r1, sk R x hx (Or.inr ⟨fun _ => q2.not, r2⟩)⟩
/-- how many choices stay -/
def lk (R : Int32) (e : Nat → Nat) : Nat → Nat → Nat → Nat
  | _, v, 0 => v
  | s, v, j + 1 => if bt R (e j) = true then lk R e (s + 1) (if s + 1 = 2 then j + 1 else v) j else lk R e s v j
theorem learn79_m (F : Nat) {I : Nat → Int32} {J : Nat → Int64} {a : Nat → Nat → Int32} {b : Nat → Nat → Int64} {c R : Int32} {C : Nat} {e : Nat → Nat} (h : ChoE c C (a 9) e) {i10 i11 i12 i14 : Int32} {a10 : Nat → Int32} :
    ∀ (j n s v : Nat), j ≤ C → j < n → s + j < 40 → k_X7_learn_79 F I J a b n R (nI v) (nI s) (dn j) i10 i11 i12 i14 a10 = some (i10, i11, i12, nI (lk R e s v j), i14, a10)
  | 0, n, s, v, _, hn, _ => by
    obtain ⟨n, rfl⟩ : ∃ j, n = j + 1 := ⟨n - 1, by omega⟩
    rw [k_X7_learn_79, if_pos dn_neg]
    rfl
  | j + 1, n, s, v, hj, hn, hs => by
    obtain ⟨n, rfl⟩ : ∃ j, n = j + 1 := ⟨n - 1, by omega⟩
    have hC := h.le14
    obtain ⟨h5, h6⟩ := h.1 j (by omega)
    rw [k_X7_learn_79, dn_s, if_neg (nI_pos (by omega)), gd_nI (by omega) (by decide), nI_clamp (by omega), h5, b_sel R (by omega)]
    show _ = some (_, _, _, nI (if bt R (e j) = true then lk R e (s + 1) (if s + 1 = 2 then j + 1 else v) j else lk R e s v j), _, _)
    cases y : bt R (e j)
    · rw [if_neg (show ¬ (if false = true then (1 : Int32) else 0) = 1 by decide), if_neg (show ¬ false = true by decide)]
      exact learn79_m F h j n s v (by omega) (by omega) (by omega)
    · rw [if_pos (show (if true = true then (1 : Int32) else 0) = 1 by decide), if_pos (show true = true from rfl), nI_1 s, nmI_s, nI_1 j]
      have u : nI (s + 1) = 2 ↔ s + 1 = 2 := by
        constructor
        · intro z
          have := congrArg Int32.toNatClampNeg z
          rw [nI_clamp (by omega)] at this
          exact this
        · intro z
          rw [z]
          rfl
      by_cases z : s + 1 = 2
      · rw [if_pos (u.mpr z), if_pos z]
        exact learn79_m F h j n (s + 1) (j + 1) (by omega) (by omega) (by omega)
      · rw [if_neg (fun w => z (u.mp w)), if_neg z]
        exact learn79_m F h j n (s + 1) v (by omega) (by omega) (by omega)
theorem lk_2 {R : Int32} {e : Nat → Nat} : ∀ (j s v : Nat), 2 ≤ s → lk R e s v j = v
  | 0, _, _, _ => rfl
  | j + 1, s, v, h => by
    rw [lk]
    by_cases y : bt R (e j) = true
    · rw [if_pos y, if_neg (by omega), lk_2 j (s + 1) v (by omega)]
    · rw [if_neg y, lk_2 j s v h]
theorem lk_1 {R : Int32} {e : Nat → Nat} : ∀ (j : Nat), (lk R e 1 0 j = 0 ∧ ∀ i, i < j → bt R (e i) = false) ∨ ∃ i, i < j ∧ bt R (e i) = true ∧ lk R e 1 0 j = i + 1 ∧ ∀ k, k < j → bt R (e k) = true → k ≤ i
  | 0 => Or.inl ⟨rfl, fun i hi => absurd hi (by omega)⟩
  | j + 1 => by
    rw [lk]
    by_cases y : bt R (e j) = true
    · rw [if_pos y, if_pos (show 1 + 1 = 2 from rfl), lk_2 j _ _ (by omega)]
      exact Or.inr ⟨j, by omega, y, rfl, fun k hk _ => by omega⟩
    · rw [if_neg y]
      rcases lk_1 j with ⟨x1, x2⟩ | ⟨i, x1, x2, x3, x4⟩
      · refine Or.inl ⟨x1, fun i hi => ?_⟩
        by_cases z : i = j
        · rw [z]
          simpa using y
        · exact x2 i (by omega)
      · refine Or.inr ⟨i, by omega, x2, x3, fun k hk hb => ?_⟩
        by_cases z : k = j
        · rw [z] at hb
          exact absurd hb y
        · exact x4 k (by omega) hb
theorem lk_0 {R : Int32} {e : Nat → Nat} : ∀ (j : Nat), (lk R e 0 0 j = 0 ∧ ∀ i k, i < j → k < j → bt R (e i) = true → bt R (e k) = true → i = k) ∨ ∃ i h, i < h ∧ h < j ∧ bt R (e i) = true ∧ bt R (e h) = true ∧ lk R e 0 0 j = i + 1 ∧ ∀ k, k < j → bt R (e k) = true → k ≤ i ∨ k = h
  | 0 => Or.inl ⟨rfl, fun i k hi => absurd hi (by omega)⟩
  | j + 1 => by
    rw [lk]
    by_cases y : bt R (e j) = true
    · rw [if_pos y, if_neg (show ¬ 0 + 1 = 2 by decide)]
      rcases lk_1 (R := R) (e := e) j with ⟨x1, x2⟩ | ⟨i, x1, x2, x3, x4⟩
      · refine Or.inl ⟨x1, fun i k hi hk bi bk => ?_⟩
        have f : ∀ i, i < j + 1 → bt R (e i) = true → i = j := fun i hi bi => by
          by_cases z : i = j
          · exact z
          · rw [x2 i (by omega)] at bi
            cases bi
        rw [f i hi bi, f k hk bk]
      · refine Or.inr ⟨i, j, x1, by omega, x2, y, x3, fun k hk hb => ?_⟩
        by_cases z : k = j
        · exact Or.inr z
        · exact Or.inl (x4 k (by omega) hb)
    · rw [if_neg y]
      have f : ∀ i, i < j + 1 → bt R (e i) = true → i < j := fun i hi bi => by
        by_cases z : i = j
        · rw [z] at bi
          exact absurd bi y
        · omega
      rcases lk_0 (R := R) (e := e) j with ⟨x1, x2⟩ | ⟨i, h, x0, x1, x2, x3, x4, x5⟩
      · exact Or.inl ⟨x1, fun i k hi hk bi bk => x2 i k (f i hi bi) (f k hk bk) bi bk⟩
      · exact Or.inr ⟨i, h, x0, by omega, x2, x3, x4, fun k hk hb => x5 k (f k hk hb) hb⟩
theorem keep_m {c R : Int32} {C : Nat} {A : Nat → Int32} {e : Nat → Nat} (h : ChoE c C A e) (hR : ∀ i, bt R i = true → bt c i = true) : ChoE (keep c R) (lk R e 0 0 C) A e ∧ lk R e 0 0 C ≤ C := by
  have hC := h.le14
  have fR : ∀ i, bt R i = true → ∃ k, k < C ∧ e k = i := fun i hi => (h.2.2 i).mp (hR i hi)
  have f14 : ∀ i, bt R i = true → i < 14 := fun i hi => by
    obtain ⟨k, k1, k2⟩ := fR i hi
    rw [← k2]
    exact (h.1 k k1).2
  have none_0 : ChoE 0 0 A e := ⟨fun k hk => absurd hk (by omega), fun j k _ hk => absurd hk (by omega), fun i => ⟨fun x => Bool.noConfusion ((b_0 i).symm.trans x), fun ⟨k, hk, _⟩ => absurd hk (by omega)⟩⟩
  rcases lk_0 (R := R) (e := e) C with ⟨x1, x2⟩ | ⟨i, h', x0, x1, x2, x3, x4, x5⟩
  · rw [x1]
    refine ⟨?_, by omega⟩
    have : keep c R = 0 := by
      unfold keep
      cases e1 : hbit R 14 with
      | none => rfl
      | some p =>
        dsimp only
        cases e2 : hbit (wo R p) 14 with
        | none => rfl
        | some q =>
          exfalso
          obtain ⟨p1, p2, p3⟩ := hbit_some e1
          obtain ⟨q1, q2, q3⟩ := hbit_some e2
          rw [bt_wo (by omega)] at q2
          obtain ⟨q4, q5⟩ := Bool.and_eq_true_iff.mp q2
          obtain ⟨k1, y1, y2⟩ := fR p p2
          obtain ⟨k2, y3, y4⟩ := fR q q4
          have := x2 k1 k2 y1 y3 (by rw [y2]; exact p2) (by rw [y4]; exact q4)
          rw [this, y4] at y2
          rw [y2, decide_eq_true rfl] at q5
          cases q5
    rw [this]
    exact none_0
  · rw [x4]
    refine ⟨?_, by omega⟩
    have hj : ∀ x, bt (keep c R) x = (bt c x && decide (x ≤ e i)) := by
      intro x
      have m1 : e i < e h' := h.2.1 i h' x0 x1
      have m2 := f14 _ x2
      have m3 := f14 _ x3
      unfold keep
      cases e1 : hbit R 14 with
      | none =>
        have := hbit_none e1 (e i) m2
        rw [x2] at this
        cases this
      | some p =>
        obtain ⟨p1, p2, p3⟩ := hbit_some e1
        have pe : p = e h' := by
          obtain ⟨k1, y1, y2⟩ := fR p p2
          have y3 := p3 (e h') m3 x3
          rcases x5 k1 y1 (by rw [y2]; exact p2) with y4 | y4
          · have := (h.inj y1 (by omega : i < C)).mpr y4
            omega
          · rw [← y2, y4]
        dsimp only
        cases e2 : hbit (wo R p) 14 with
        | none =>
          have := hbit_none e2 (e i) m2
          rw [bt_wo (by omega), x2, decide_eq_false (by omega)] at this
          cases this
        | some q =>
          obtain ⟨q1, q2, q3⟩ := hbit_some e2
          rw [bt_wo (by omega)] at q2
          obtain ⟨q4, q5⟩ := Bool.and_eq_true_iff.mp q2
          have qn : q ≠ p := fun z => by
            rw [z, decide_eq_true rfl] at q5
            cases q5
          have qe : q = e i := by
            obtain ⟨k1, y1, y2⟩ := fR q q4
            have y3 := q3 (e i) m2 (by rw [bt_wo (by omega), x2, decide_eq_false (by omega)]; rfl)
            rcases x5 k1 y1 (by rw [y2]; exact q4) with y4 | y4
            · have := (h.inj y1 (by omega : i < C)).mpr y4
              omega
            · rw [y4] at y2
              omega
          dsimp only
          rw [bt_cut q1, qe]
    refine ⟨fun k hk => h.1 k (by omega), fun j k hj hk => h.2.1 j k hj (by omega), fun x => ?_⟩
    rw [hj]
    constructor
    · intro y
      obtain ⟨y1, y2⟩ := Bool.and_eq_true_iff.mp y
      obtain ⟨k, k1, k2⟩ := (h.2.2 x).mp y1
      refine ⟨k, ?_, k2⟩
      have := (h.inj k1 (by omega : i < C)).mp (by rw [k2]; exact of_decide_eq_true y2)
      omega
    · rintro ⟨k, k1, k2⟩
      rw [(h.2.2 x).mpr ⟨k, by omega, k2⟩, decide_eq_true (by rw [← k2]; exact (h.inj (by omega) (by omega)).mpr (by omega))]
      rfl
theorem orc_m {F : Nat} (hF : 30000 ≤ F) {N G : Nat} {I : Nat → Int32} {J : Nat → Int64} {a : Nat → Nat → Int32} {b : Nat → Nat → Int64} (hwf : WfM N G I a) {Cl0 : ClT} {Rw : RwT} (hcl : tCl G (stM a) (rwM a) (a 2) (a 3) = Cl0) (hrw : RwEq N (RwM G a) Rw) {L : List Int32} (hl : L.length ≤ 8192) (h14 : I 14 = nI L.length) (ha : Lrr (a 10) L) (hs : ∀ m, m ∈ L → sm N m) {c : Int32} (hc : sm N c) :
    ∃ T F' fl, f_X7_conflicts F I J a b 0 c 1 = some (zf fl, T, F', zf fl) ∧ Orc N Cl0 Rw L c T F' fl := by
  have hX : XOkM N I a 1 L.length (a 10) (fun _ => 0) := Or.inr (Or.inr ⟨rfl, rfl, rfl, by omega, h14, fun k hk => hs _ (ha.mem.mpr ⟨k, hk, rfl⟩)⟩)
  obtain ⟨T, F', fl, e1, e2, e3, e4⟩ := conflicts_m hF (J := J) (b := b) hwf hX (v1 := 0) (v2 := c) sm.z hc
  have e5 : Out N (ClL Cl0 L) Rw nob (bt c) (bt T) (bt F') fl := by
    rw [← nob_0, ← ha.cl Cl0, ← hcl]
    exact e2.rw hrw
  exact ⟨T, F', fl, e1, e5.orc e3 e4⟩
theorem least_m (F : Nat) {I : Nat → Int32} {J : Nat → Int64} {a : Nat → Nat → Int32} {b : Nat → Nat → Int64} {N k C ch : Nat} {T F' : Int32} (hN : N ≤ 14) (hl : lun N T F' k) (hC : C < 15) {kh : Int32 → Int32 → Int32 → Int32 → Int32 → Int32 → Int32 → Int32 → Int32 → Int32 → (Nat → Int32) → (Nat → Int32) → Option (Int32 × Int32 × Int32 × Int32 × Int32 × Int32 × Int32 × Int32 × Int32 × Int32 × (Nat → Int32) × (Nat → Int32))} {v1 I9 I12 I14 I15 I17 : Int32} {a9 a10 : Nat → Int32} :
    ∀ (m n j : Nat), k - j = m → j ≤ k → m < n → k_X7_runSearch_114 F I J a b kh n v1 (nI j) I9 T F' I12 (nI C) I14 I15 (nI ch) I17 a9 a10 = kh v1 I9 T F' I12 (nI (C + 1)) I14 I15 (nI (ch + 1)) I17 (upd a9 C (nI k)) a10 := by
  obtain ⟨l1, l2, l3, l4⟩ := hl
  intro m
  induction m with
  | zero =>
    intro n j h1 h2 h3
    obtain ⟨n, rfl⟩ : ∃ j, n = j + 1 := ⟨n - 1, by omega⟩
    have : j = k := by omega
    subst this
    have u : ¬ ((T ||| F') >>> (nI j &&& 31)) &&& 1 = 1 := fun z => by
      have := (b_t (by omega)).mp z
      rw [b_or, l2, l3] at this
      cases this
    rw [k_X7_runSearch_114, if_neg u, gd_nI hC (by decide), nmI_s, nmI_s, nI_clamp (by omega), nI_1, nI_1]
  | succ m ih =>
    intro n j h1 h2 h3
    obtain ⟨n, rfl⟩ : ∃ j, n = j + 1 := ⟨n - 1, by omega⟩
    have u : ((T ||| F') >>> (nI j &&& 31)) &&& 1 = 1 := (b_t (by omega)).mpr (by
      rw [b_or]
      rcases l4 j (by omega) with x | x <;> rw [x] <;> simp)
    rw [k_X7_runSearch_114, if_pos u, nI_1]
    exact ih n (j + 1) (by omega) (by omega) (by omega)
theorem all_iff {N : Nat} (hN : N ≤ 14) {T F' : Int32} (hT : sm N T) (hF : sm N F') : T ||| F' = nI (2 ^ N - 1) ↔ ∀ i, i < N → bt T i = true ∨ bt F' i = true := by
  constructor
  · intro h i hi
    have := bt_all hN i
    rw [← h, b_or, decide_eq_true hi] at this
    exact Bool.or_eq_true_iff.mp this
  · intro h
    refine b_ext (fun i _ => ?_)
    rw [bt_all hN, b_or]
    by_cases hi : i < N
    · rw [decide_eq_true hi]
      exact Bool.or_eq_true_iff.mpr (h i hi)
    · rw [decide_eq_false hi]
      have h1 : bt T i = false := by
        cases y : bt T i
        · rfl
        · exact absurd (hT i y) hi
      have h2 : bt F' i = false := by
        cases y : bt F' i
        · rfl
        · exact absurd (hF i y) hi
      rw [h1, h2]
      rfl
theorem sub_dn (C : Nat) : nI C - 1 = dn C := Int32.sub_eq_add_neg _ _
theorem learn_m {F : Nat} (hF : 30000 ≤ F) {N : Nat} {I : Nat → Int32} {J : Nat → Int64} {a : Nat → Nat → Int32} {b : Nat → Nat → Int64} {Cl0 : ClT} {Rw : RwT} {L : List Int32} {c : Int32} {C : Nat} {e : Nat → Nat} (h : ChoE c C (a 9) e) (hc : sm N c) (h13 : I 13 = nI C) (h14 : I 14 = nI L.length) (hl : L.length < 8192)
    (ho : ∀ i10 i11 i12 c, sm N c → ∃ T F' fl, f_X7_conflicts F (fu (fu (fu I 10 i10) 11 i11) 12 i12) J a b 0 c 1 = some (zf fl, T, F', zf fl) ∧ Orc N Cl0 Rw L c T F' fl) :
    ∃ R T F' z, f_X7_learn F I J a b = some (T, F', z, nI (lk R e 0 0 C), nI (L.length + 1), upd (a 10) L.length R) ∧ Rsn (cfl N Cl0 Rw L) 14 c R := by
  have hC := h.le14
  have e1 : f_X7_choiceSet F I J a b = some c := choiceSet_m h h13 C F 0 0 (by omega) (by omega) (by omega) (fun i => ⟨fun x => Bool.noConfusion ((b_0 i).symm.trans x), fun ⟨k, hk, _⟩ => absurd hk (by omega)⟩)
  obtain ⟨R, T, F', z, e2, e3⟩ := reason_m h ho C F 14 c (I 10) (I 11) (I 12) (by omega) (by omega) (by omega) (fun i hi => ⟨(h.1 i hi).2, (h.2.2 _).mpr ⟨i, hi, rfl⟩⟩) (fun i _ hb => (h.2.2 i).mp hb) hc
  refine ⟨R, T, F', z, ?_, e3⟩
  unfold f_X7_learn
  rw [e1, ob_s, h13, nmI_s, sub_dn, e2, h13, h14, gd_nI (by omega) (by decide), nmI_s, nmI_s, nI_clamp (by omega), sub_dn, nI_1]
  exact learn79_m F h C F 0 0 (by omega) (by omega) (by omega)
theorem ChoE.z {c : Int32} {C : Nat} {A : Nat → Int32} {e : Nat → Nat} (h : ChoE c C A e) : nI C = 0 ↔ c = 0 := by
  have hC := h.le14
  rw [nI_z (by omega)]
  constructor
  · intro x
    subst x
    refine b_eq0.mpr (fun i => ?_)
    cases y : bt c i
    · rfl
    · obtain ⟨k, hk, -⟩ := (h.2.2 i).mp y
      omega
  · intro x
    subst x
    rcases Nat.eq_zero_or_pos C with y | y
    · exact y
    · have := (h.2.2 (e 0)).mpr ⟨0, y, rfl⟩
      rw [b_0] at this
      cases this
theorem ChoE.add {c : Int32} {C k : Nat} {A : Nat → Int32} {e : Nat → Nat} (h : ChoE c C A e) (hk : k < 14) (hb : ∀ i, bt c i = true → i < k) : Cho (c ||| one k) (C + 1) (upd A C (nI k)) := by
  obtain ⟨e', n1, n2⟩ : ∃ e' : Nat → Nat, e' C = k ∧ ∀ i, i ≠ C → e' i = e i := ⟨fun i => if i = C then k else e i, if_pos rfl, fun i hi => if_neg hi⟩
  refine ⟨e', fun i hi => ?_, fun i j hij hj => ?_, fun i => ?_⟩
  · by_cases x : i = C
    · subst x
      rw [pk_us, n1]
      exact ⟨rfl, hk⟩
    · rw [pk_un x, n2 i x]
      exact h.1 i (by omega)
  · have ni : i ≠ C := by omega
    rw [n2 i ni]
    by_cases x : j = C
    · rw [x, n1]
      exact hb _ ((h.2.2 _).mpr ⟨i, by omega, rfl⟩)
    · rw [n2 j x]
      exact h.2.1 i j hij (by omega)
  · rw [bt_cho (by omega)]
    constructor
    · intro x
      rcases Bool.or_eq_true_iff.mp x with y | y
      · obtain ⟨j, j1, j2⟩ := (h.2.2 i).mp y
        exact ⟨j, by omega, by rw [n2 j (by omega)]; exact j2⟩
      · exact ⟨C, by omega, by rw [n1]; exact (of_decide_eq_true y).symm⟩
    · rintro ⟨j, j1, j2⟩
      by_cases y : j = C
      · rw [y, n1] at j2
        rw [decide_eq_true j2.symm]
        simp
      · rw [n2 j y] at j2
        rw [(h.2.2 i).mpr ⟨j, by omega, j2⟩]
        rfl
theorem run_m {F : Nat} (hF : 30000 ≤ F) {N G : Nat} {I : Nat → Int32} {J : Nat → Int64} {a : Nat → Nat → Int32} {b : Nat → Nat → Int64} (hwf : WfM N G I a) {Cl0 : ClT} {Rw : RwT} (hcl : tCl G (stM a) (rwM a) (a 2) (a 3) = Cl0) (hrw : RwEq N (RwM G a) Rw) (hw : wthn N Cl0) :
    ∀ (n m : Nat) (c : Int32) (L : List Int32) (cf ch : Nat) (r : Res) (C : Nat) (i10 i11 i12 : Int32) (a9 a10 : Nat → Int32), SRn N Cl0 Rw n c L cf ch r → SI N Cl0 Rw c L → Cho c C a9 → Lrr a10 L → n ≤ m →
      ∃ T F' z C' M a9' a10', k_X7_runSearch_47 F I J a b m (nI (2 ^ N - 1)) 1 i10 i11 i12 (nI C) (nI L.length) (nI cf) (nI ch) 0 a9 a10 = some (1, T, F', z, C', nI r.2.2.2.2.length, nI r.2.2.1, nI r.2.2.2.1, zf r.1, M, a9', a10') ∧ Lrr a10' r.2.2.2.2 := by
  intro n
  induction n with
  | zero =>
    intro m c L cf ch r C i10 i11 i12 a9 a10 h
    exact h.elim
  | succ n ih =>
    intro m c L cf ch r C i10 i11 i12 a9 a10 h hi hch h6 hm
    obtain ⟨e, hch⟩ := hch
    obtain ⟨m, rfl⟩ : ∃ j, m = j + 1 := ⟨m - 1, by omega⟩
    have hN : N ≤ 14 := hwf.1
    have hC := hch.le14
    have hl : L.length ≤ 8191 := Nat.le_trans hi.2.2.2.2.2 (brd_le L)
    have hsm := hi.2.1
    have hc := hi.1
    have e0 : f_X7_choiceSet F (fu (fu (fu (fu (fu (fu (fu (fu (fu I 9 1) 10 i10) 11 i11) 12 i12) 13 (nI C)) 14 (nI L.length)) 15 (nI cf)) 16 (nI ch)) 17 0) J (fu (fu a 9 a9) 10 a10) b = some c := choiceSet_m (I := (fu (fu (fu (fu (fu (fu (fu (fu (fu I 9 1) 10 i10) 11 i11) 12 i12) 13 (nI C)) 14 (nI L.length)) 15 (nI cf)) 16 (nI ch)) 17 0)) (J := J) (a := (fu (fu a 9 a9) 10 a10)) (b := b) hch rfl C F 0 0 (by omega) (by omega) (by omega) (fun i => ⟨fun x => Bool.noConfusion ((b_0 i).symm.trans x), fun ⟨k, hk, _⟩ => absurd hk (by omega)⟩)
    obtain ⟨T, F1, fl, e1, e2⟩ := orc_m hF (I := (fu (fu (fu (fu (fu (fu (fu (fu (fu I 9 1) 10 i10) 11 i11) 12 i12) 13 (nI C)) 14 (nI L.length)) 15 (nI cf)) 16 (nI ch)) 17 0)) (J := J) (a := (fu (fu a 9 a9) 10 a10)) (b := b) (N := N) (G := G) hwf hcl hrw (L := L) (by omega) rfl h6 hsm hc
    rw [k_X7_runSearch_47, e0]
    simp only [ob_s]
    rw [e1]
    simp only [ob_s, nmI_s, nI_1]
    have z1 : ¬ zf true = 0 := by decide
    have z0 : zf false = 0 := rfl
    rcases h with ⟨x1, x2, x3⟩ | ⟨x1, x2, R, x3, x4⟩ | ⟨T', F', x1, x2, x3⟩ | ⟨T', F', k, x1, x2, x3⟩
    · rcases e2 with ⟨rfl, g⟩ | ⟨rfl, g⟩
      · subst x3
        rw [if_neg z1, if_pos (hch.z.mpr x2)]
        exact ⟨T, F1, zf true, _, _, a9, a10, rfl, h6⟩
      · exact absurd x1 g.not
    · rcases e2 with ⟨rfl, g⟩ | ⟨rfl, g⟩
      · rw [if_neg z1, if_neg (fun z => x2 (hch.z.mp z))]
        obtain ⟨R', T2, F2, z2, g1, g2⟩ := learn_m hF (N := N) (I := (fu (fu (fu (fu (fu (fu (fu (fu (fu I 9 1) 10 T) 11 F1) 12 (zf true)) 13 (nI C)) 14 (nI L.length)) 15 (nI (cf + 1))) 16 (nI ch)) 17 0)) (J := J) (a := (fu (fu a 9 a9) 10 a10)) (b := b) (Cl0 := Cl0) (Rw := Rw) (L := L) hch hc rfl rfl (by omega) (fun j10 j11 j12 c' hc' => orc_m hF (I := fu (fu (fu (fu (fu (fu (fu (fu (fu (fu (fu (fu I 9 1) 10 T) 11 F1) 12 (zf true)) 13 (nI C)) 14 (nI L.length)) 15 (nI (cf + 1))) 16 (nI ch)) 17 0) 10 j10) 11 j11) 12 j12) (J := J) (a := (fu (fu a 9 a9) 10 a10)) (b := b) (N := N) (G := G) hwf hcl hrw (L := L) (by omega) rfl h6 hsm hc')
        obtain rfl := g2.uniq x3
        obtain ⟨y1, y2, y3⟩ := hi.learn hN x1 x2 x3
        rw [g1]
        simp only [ob_s]
        have hlen : (L ++ [R']).length = L.length + 1 := by simp
        have h6' : Lrr (upd a10 L.length R') (L ++ [R']) := h6.add R'
        have q := ih m (keep c R') (L ++ [R']) (cf + 1) ch r (lk R' e 0 0 C) T2 F2 z2 a9 (upd a10 L.length R') x4 y1 ⟨e, (keep_m hch (Rsn.sub (by omega) x3).1).1⟩ h6' (by omega)
        rw [hlen] at q
        exact q
      · exact absurd x1 g.not
    · rcases e2 with ⟨rfl, g⟩ | ⟨rfl, g⟩
      · exact absurd g x1.not
      · obtain ⟨rfl, rfl⟩ := g.uniq x1
        subst x3
        rw [if_pos z0, if_pos ((all_iff hN x1.2.1 x1.2.2).mpr x2)]
        exact ⟨T, F1, zf false, _, _, a9, a10, rfl, h6⟩
    · rcases e2 with ⟨rfl, g⟩ | ⟨rfl, g⟩
      · exact absurd g x1.not
      · obtain ⟨rfl, rfl⟩ := g.uniq x1
        rw [if_pos z0, if_neg (fun z => x2.nall ((all_iff hN x1.2.1 x1.2.2).mp z))]
        have q := least_m F (I := I) (J := J) (a := a) (b := b) (N := N) (k := k) (C := C) (ch := ch) hN x2 (by omega) (kh := k_X7_runSearch_47 F I J a b m) (v1 := nI (2 ^ N - 1)) (I9 := 1) (I12 := zf false) (I14 := nI L.length) (I15 := nI cf) (I17 := 0) (a9 := a9) (a10 := a10) k F 0 (by omega) (by omega) (by have := x2.1; omega)
        have q2 : (0 : Int32) = nI 0 := rfl
        obtain ⟨c1, c2, c3⟩ := hi.choose hN hw x1 x2
        rw [← q2] at q
        rw [q]
        exact ih m (c ||| one k) L cf (ch + 1) r (C + 1) T F1 (zf false) (upd a9 C (nI k)) a10 x3 c1 (hch.add (by have := x2.1; omega) c3) h6 (by omega)
theorem search_m {F : Nat} (hF : 2000000 ≤ F) {N G : Nat} {I : Nat → Int32} {J : Nat → Int64} {a : Nat → Nat → Int32} {b : Nat → Nat → Int64} (hwf : WfM N G I a) {Cl0 : ClT} {Rw : RwT} (hcl : tCl G (stM a) (rwM a) (a 2) (a 3) = Cl0) (hrw : RwEq N (RwM G a) Rw) (hw : wthn N Cl0) {r : Res} (h : SRn N Cl0 Rw 131100 0 [] 0 0 r) (h9 : I 9 = 0) :
    ∃ T F' z C' M a9' a10', f_X7_runSearch F I J a b = some (1, T, F', z, C', nI r.2.2.2.2.length, nI r.2.2.1, nI r.2.2.2.1, zf r.1, M, a9', a10') ∧ Lrr a10' r.2.2.2.2 := by
  unfold f_X7_runSearch
  rw [if_pos h9, nmI_s, hwf.2.2.1, all_n N hwf.1]
  exact run_m (F := F) (by omega) (b := b) hwf hcl hrw hw 131100 F 0 [] 0 0 r 0 (I 10) (I 11) (I 12) (a 9) (a 10) h SI.start ⟨fun _ => 0, fun k hk => absurd hk (by omega), fun j k _ hk => absurd hk (by omega), fun i => ⟨fun x => Bool.noConfusion ((b_0 i).symm.trans x), fun ⟨k, hk, _⟩ => absurd hk (by omega)⟩⟩ (fun k hk => absurd hk (Nat.not_lt_zero k)) (by omega)
/-- AT ONCE decides: what the search wants -/
theorem dcd_m {N G : Nat} {I : Nat → Int32} {a : Nat → Nat → Int32} (hwf : WfM N G I a) {Cl0 : ClT} {Rw : RwT} (hcl : tCl G (stM a) (rwM a) (a 2) (a 3) = Cl0) (hrw : RwEq N (RwM G a) Rw) : dcd N Cl0 Rw := by
  intro L c hs hl hc
  obtain ⟨T, F', fl, -, e⟩ := orc_m (F := 30000) (by omega) (I := fu I 14 (nI L.length)) (J := fun _ => 0) (a := fu a 10 (fun k => L.getD k 0)) (b := fun _ _ => 0) (N := N) (G := G) hwf hcl hrw (L := L) hl rfl (fun k _ => rfl) hs hc
  rcases e with ⟨-, e⟩ | ⟨-, e⟩
  · exact Or.inl e
  · exact Or.inr ⟨T, F', e⟩
theorem SRn.ex0 {N G : Nat} {I : Nat → Int32} {a : Nat → Nat → Int32} (hwf : WfM N G I a) {Cl0 : ClT} {Rw : RwT} (hcl : tCl G (stM a) (rwM a) (a 2) (a 3) = Cl0) (hrw : RwEq N (RwM G a) Rw) (hw : wthn N Cl0) : ∃ r, SRn N Cl0 Rw 131100 0 [] 0 0 r := by
  refine SRn.ex hwf.1 hw (dcd_m hwf hcl hrw) 131100 0 [] 0 0 SI.start ?_
  omega
