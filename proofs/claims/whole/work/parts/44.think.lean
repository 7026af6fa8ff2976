/-! thinkable -/
theorem eq256 {a b : Nat} (ha : a < 256) (hb : b < 256) (h : ∀ u, u < 8 → (a.testBit u = true ↔ b.testBit u = true)) : a = b := bits_eq fun i => by
  by_cases c : i < 8
  · exact h i c
  · have p : 2 ^ 8 ≤ 2 ^ i := Nat.pow_le_pow_right (by decide) (by omega)
    rw [Nat.testBit_lt_two_pow (Nat.lt_of_lt_of_le ha p), Nat.testBit_lt_two_pow (Nat.lt_of_lt_of_le hb p)]
theorem and_0 {a b : Nat} (ha : a < 256) : (nI a &&& nI b = 0) ↔ ∀ t, t < 8 → ¬ (a.testBit t = true ∧ b.testBit t = true) := by
  rw [nI_and]
  have h1 : a &&& b < 256 := Nat.lt_of_le_of_lt Nat.and_le_left ha
  constructor
  · intro z t ht ⟨x, y⟩
    have e : a &&& b = 0 := nI_inj (b := 0) (by omega) (by omega) z
    have k : (a &&& b).testBit t = true := by rw [Nat.testBit_and, x, y]; rfl
    rw [e, Nat.zero_testBit] at k
    exact absurd k (by decide)
  · intro z
    have : a &&& b = 0 := eq256 h1 (by decide) fun u hu => by
      rw [Nat.testBit_and, Nat.zero_testBit, Bool.and_eq_true]
      exact ⟨fun y => absurd y (z u hu), fun y => absurd y (by decide)⟩
    rw [this]; rfl
theorem run_lt {S : Nat → Int32} {H : Nat} (hv : ∀ h, h < H → hV S h) : ∀ (l : List Nat) t, t < 8 → (∀ h, h ∈ l → h < H) → run (ld S) t l < 8 := by
  intro l
  induction l with
  | nil => intro t ht _; exact ht
  | cons a l ih =>
    intro t ht hl
    exact ih _ (ld_lt (hv a (hl a List.mem_cons_self)) ht) (fun h hh => hl h (List.mem_cons_of_mem _ hh))
def wkA (g : Nat → Nat → Nat) (A : Nat → Prop) (t0 k u : Nat) : Prop := ∃ l : List Nat, l.length ≤ k ∧ (∀ h, h ∈ l → A h) ∧ run g t0 l = u
theorem wkA_s {g : Nat → Nat → Nat} {A : Nat → Prop} {t0 k u : Nat} : wkA g A t0 (k + 1) u ↔ wkA g A t0 k u ∨ ∃ h t, A h ∧ wkA g A t0 k t ∧ g h t = u := by
  constructor
  · intro ⟨l, h1, h2, h3⟩
    rcases snoc_cases l with rfl | ⟨l', h, rfl⟩
    · exact Or.inl ⟨[], Nat.zero_le _, h2, h3⟩
    · refine Or.inr ⟨h, run g t0 l', h2 h (List.mem_append.mpr (Or.inr (List.mem_singleton.mpr rfl))), ⟨l', by simp at h1; omega, fun i hi => h2 i (List.mem_append.mpr (Or.inl hi)), rfl⟩, ?_⟩
      rw [← h3, run_snoc]
  · rintro (⟨l, h1, h2, h3⟩ | ⟨h, t, hA, ⟨l, h1, h2, h3⟩, e⟩)
    · exact ⟨l, by omega, h2, h3⟩
    · refine ⟨l ++ [h], by simp; omega, fun i hi => ?_, by rw [run_snoc, h3, e]⟩
      rcases List.mem_append.mp hi with hi | hi
      · exact h2 i hi
      · rw [List.mem_singleton] at hi; rw [hi]; exact hA
theorem within_v {N : Nat} (hN : 40000 ≤ N) {X : KX} {S : Nat → Int32} {H G a m t0 : Nat} (hc : CK X 7 S H G) (hH : H ≤ 8) (hv : ∀ h, h < H → hV S h) (x4 : X 7 4 = nI H) (ha : a < 256) (hm : m ≤ 5) (h0 : t0 < 8) : ∃ b, b < 256 ∧ f_X3_thoughtsWithin N X (nI t0) (nI a) (nI m) = some (nI b) ∧ ∀ u, u < 8 → (b.testBit u = true ↔ wkA (ld S) (fun h => h < H ∧ a.testBit h = true) t0 m u) := by
  unfold f_X3_thoughtsWithin
  -- one turn more
  have inner : ∀ (k8 : Int32 → Int32 → Int32 → Int32 → Option Int32) (T v5 : Nat), T < 256 → ∀ k p, p + k = H → ∀ t, k < t → ∀ acc, acc < 256 → (∀ u, u < 8 → (acc.testBit u = true ↔ T.testBit u = true ∨ ∃ h t, h < p ∧ a.testBit h = true ∧ t < 8 ∧ T.testBit t = true ∧ ld S h t = u)) → ∃ acc', acc' < 256 ∧ f_X3_thoughtsWithin_21 N X k8 t (nI a) (nI m) (nI T) (nI v5) (nI acc) (nI p) = k8 (nI a) (nI m) (nI acc') (nI (v5 + 1)) ∧ ∀ u, u < 8 → (acc'.testBit u = true ↔ T.testBit u = true ∨ ∃ h t, h < H ∧ a.testBit h = true ∧ t < 8 ∧ T.testBit t = true ∧ ld S h t = u) := by
    intro k8 T v5 hT k
    induction k with
    | zero =>
      intro p hp t ht acc h1 h2
      obtain ⟨u, rfl⟩ : ∃ u, t = u + 1 := ⟨t - 1, by omega⟩
      have e : p = H := by omega
      subst e
      unfold f_X3_thoughtsWithin_21
      rw [x4, if_pos (by rw [le_n (by omega) (by omega)]; omega)]
      simp only [zLet, nIp]
      exact ⟨acc, h1, rfl, h2⟩
    | succ k ih =>
      intro p hp t ht acc h1 h2
      obtain ⟨u, rfl⟩ : ∃ u, t = u + 1 := ⟨t - 1, by omega⟩
      have hpH : p < H := by omega
      have hp8 : p < 8 := by omega
      unfold f_X3_thoughtsWithin_21 f_X3_thoughtsWithin_106
      rw [x4, if_neg (by rw [le_n (by omega) (by omega)]; omega), has_tb a ha p hp8]
      cases ca : a.testBit p with
      | false =>
        simp only [Bool.false_eq_true, if_false, if_true, zLet, nIp]
        refine ih (p + 1) (by omega) u (by omega) acc h1 (fun t ht => ?_)
        rw [h2 t ht]
        constructor
        · rintro (z | ⟨h, t, z1, z2⟩)
          · exact Or.inl z
          · exact Or.inr ⟨h, t, by omega, z2⟩
        · rintro (z | ⟨h, t, z1, z2, z3⟩)
          · exact Or.inl z
          · refine Or.inr ⟨h, t, ?_, z2, z3⟩
            rcases Nat.lt_or_eq_of_le (Nat.le_of_lt_succ z1) with z | z
            · exact z
            · rw [z, ca] at z2; exact absurd z2 (by decide)
      | true =>
        obtain ⟨k', f, t2, e1, k1, k2, e2, hf, e3, ht2, hne⟩ := hv p hpH
        obtain ⟨y1, y2, y3, y4⟩ := hc.2.1 p hpH
        have y9 : X 9 p = nI f := y2.trans e2
        have y10 : X 10 p = nI t2 := y3.trans e3
        have y11 : X 11 p = S (12 + 4 * p) := y4
        have G8 : ∀ (α : Type) (e : Option α), zGd (nI p) 8 e = e := fun _ e => zGd_n e hp8 (by decide)
        have cp : (nI p).toNatClampNeg = p := nI_cl p (by omega)
        have hb := hv p hpH
        unfold f_X3_thoughtsWithin_73 f_X3_thoughtsWithin_103 f_X3_thoughtsWithin_106
        simp only [z10, if_false, if_true, G8, cp, y9, y10, y11, forth_v hc hpH hH hb, back_v hc hpH hH hb, zB1_s, zLet, shl_tb f hf, shl_tb t2 ht2]
        rw [Nn_v e1 (by omega), Nn_v e2 (by omega), Nn_v e3 (by omega)]
        have go : ∀ x y, x < 256 → y < 256 → (∀ t, t < 8 → (x.testBit t = true ↔ t = t2 ∧ ∃ v, v < 8 ∧ T.testBit v = true ∧ (fmM k' f (decide (S (12 + 4 * p) < 2))).testBit v = true)) → (∀ t, t < 8 → (y.testBit t = true ↔ t = f ∧ ∃ v, v < 8 ∧ T.testBit v = true ∧ (bmM k' t2).testBit v = true)) → ∃ acc', acc' < 256 ∧ f_X3_thoughtsWithin_21 N X k8 u (nI a) (nI m) (nI T) (nI v5) (nI acc ||| nI x ||| nI y) (nI p + 1) = k8 (nI a) (nI m) (nI acc') (nI (v5 + 1)) ∧ ∀ u, u < 8 → (acc'.testBit u = true ↔ T.testBit u = true ∨ ∃ h t, h < H ∧ a.testBit h = true ∧ t < 8 ∧ T.testBit t = true ∧ ld S h t = u) := by
          intro x y hx hy bx byy
          rw [nI_or, nI_or, nIp]
          refine ih (p + 1) (by omega) u (by omega) _ (or_lt8 (or_lt8 h1 hx) hy) (fun t ht => ?_)
          rw [or_tb, or_tb, h2 t ht, bx t ht, byy t ht]
          have el : ∀ v, v < 8 → ld S p v = (if (fmM k' f (decide (S (12 + 4 * p) < 2))).testBit v then t2 else if (bmM k' t2).testBit v then f else v) := fun v hv8 => by
            rw [ldM_masks k' (by omega) f hf t2 ht2 v hv8 _ k1 hne]
            unfold ld ldS; rw [Nn_v e1 (by omega), Nn_v e2 (by omega), Nn_v e3 (by omega)]
          constructor
          · rintro ((z | ⟨z1, v, z2, z3, z4⟩) | ⟨z1, v, z2, z3, z4⟩)
            · rcases z with z | ⟨h, v, z1, z2⟩
              · exact Or.inl z
              · exact Or.inr ⟨h, v, by omega, z2⟩
            · exact Or.inr ⟨p, v, by omega, ca, z2, z3, by rw [el v z2, if_pos z4, z1]⟩
            · have : (fmM k' f (decide (S (12 + 4 * p) < 2))).testBit v = false := by
                rcases fb_dis k' f t2 v (decide (S (12 + 4 * p) < 2)) with q | q | q
                · exact absurd q hne
                · exact q
                · rw [q] at z4; exact absurd z4 (by decide)
              exact Or.inr ⟨p, v, by omega, ca, z2, z3, by rw [el v z2, this, if_neg (by decide), if_pos z4, z1]⟩
          · rintro (z | ⟨h, v, z1, z2, z3, z4, z5⟩)
            · exact Or.inl (Or.inl (Or.inl z))
            · rcases Nat.lt_or_eq_of_le (Nat.le_of_lt_succ z1) with z | z
              · exact Or.inl (Or.inl (Or.inr ⟨h, v, z, z2, z3, z4, z5⟩))
              · rw [z, el v z3] at z5
                by_cases d1 : (fmM k' f (decide (S (12 + 4 * p) < 2))).testBit v = true
                · rw [if_pos d1] at z5
                  exact Or.inl (Or.inr ⟨z5.symm, v, z3, z4, d1⟩)
                · rw [if_neg d1] at z5
                  by_cases d2 : (bmM k' t2).testBit v = true
                  · rw [if_pos d2] at z5
                    exact Or.inr ⟨z5.symm, v, z3, z4, d2⟩
                  · rw [if_neg d2] at z5
                    rw [z5] at z4
                    exact Or.inl (Or.inl (Or.inl z4))
        have nope : ∀ b : Nat, (∀ t, t < 8 → ¬ (T.testBit t = true ∧ b.testBit t = true)) → ∀ (f : Nat), ∀ t, t < 8 → ((0 : Nat).testBit t = true ↔ t = f ∧ ∃ v, v < 8 ∧ T.testBit v = true ∧ b.testBit v = true) := by
          intro b hb f t ht
          rw [Nat.zero_testBit]
          exact ⟨fun z => absurd z (by decide), fun ⟨_, v, z1, z2⟩ => absurd z2 (hb v z1)⟩
        have yes : ∀ b : Nat, (¬ ∀ t, t < 8 → ¬ (T.testBit t = true ∧ b.testBit t = true)) → ∀ (f : Nat), ∀ t, t < 8 → ((2 ^ f).testBit t = true ↔ t = f ∧ ∃ v, v < 8 ∧ T.testBit v = true ∧ b.testBit v = true) := by
          intro b hb f t ht
          rw [Nat.testBit_two_pow, decide_eq_true_iff]
          refine ⟨fun z => ⟨z.symm, ?_⟩, fun z => z.1.symm⟩
          apply Classical.byContradiction
          intro hn
          exact hb fun v hv8 h => hn ⟨v, hv8, h⟩
        have p2 : ∀ f, f < 8 → 2 ^ f < 256 := fun f hf => Nat.pow_lt_pow_right (n := 8) (by decide) hf
        by_cases c1 : ∀ t, t < 8 → ¬ (T.testBit t = true ∧ (fmM k' f (decide (S (12 + 4 * p) < 2))).testBit t = true)
        · have d1 := (and_0 (b := fmM k' f (decide (S (12 + 4 * p) < 2))) hT).mpr c1
          by_cases c2 : ∀ t, t < 8 → ¬ (T.testBit t = true ∧ (bmM k' t2).testBit t = true)
          · have d2 := (and_0 (b := bmM k' t2) hT).mpr c2
            rw [if_pos d1, if_pos d2]
            exact go 0 0 (by decide) (by decide) (nope _ c1 t2) (nope _ c2 f)
          · have d2 := fun z => c2 ((and_0 (b := bmM k' t2) hT).mp z)
            rw [if_pos d1, if_neg d2]
            exact go 0 _ (by decide) (p2 f hf) (nope _ c1 t2) (yes _ c2 f)
        · have d1 := fun z => c1 ((and_0 (b := fmM k' f (decide (S (12 + 4 * p) < 2))) hT).mp z)
          by_cases c2 : ∀ t, t < 8 → ¬ (T.testBit t = true ∧ (bmM k' t2).testBit t = true)
          · have d2 := (and_0 (b := bmM k' t2) hT).mpr c2
            rw [if_neg d1, if_pos d2]
            exact go _ 0 (p2 t2 ht2) (by decide) (yes _ c1 t2) (nope _ c2 f)
          · have d2 := fun z => c2 ((and_0 (b := bmM k' t2) hT).mp z)
            rw [if_neg d1, if_neg d2]
            exact go _ _ (p2 t2 ht2) (p2 f hf) (yes _ c1 t2) (yes _ c2 f)
  have key : ∀ k p, p + k = m → ∀ t, k < t → ∀ T, T < 256 → (∀ u, u < 8 → (T.testBit u = true ↔ wkA (ld S) (fun h => h < H ∧ a.testBit h = true) t0 p u)) → ∃ b, b < 256 ∧ f_X3_thoughtsWithin_8 N X t (nI a) (nI m) (nI T) (nI p) = some (nI b) ∧ ∀ u, u < 8 → (b.testBit u = true ↔ wkA (ld S) (fun h => h < H ∧ a.testBit h = true) t0 m u) := by
    intro k
    induction k with
    | zero =>
      intro p hp t ht T h1 h2
      obtain ⟨u, rfl⟩ : ∃ u, t = u + 1 := ⟨t - 1, by omega⟩
      have e : p = m := by omega
      subst e
      unfold f_X3_thoughtsWithin_8
      rw [if_pos (by rw [le_n (by omega) (by omega)]; omega)]
      exact ⟨T, h1, rfl, h2⟩
    | succ k ih =>
      intro p hp t ht T h1 h2
      obtain ⟨u, rfl⟩ : ∃ u, t = u + 1 := ⟨t - 1, by omega⟩
      unfold f_X3_thoughtsWithin_8
      rw [if_neg (by rw [le_n (by omega) (by omega)]; omega)]
      obtain ⟨T', e1, e2, e3⟩ := inner (f_X3_thoughtsWithin_8 N X u) T p h1 H 0 (by omega) N (by omega) T h1 (fun u hu => ⟨Or.inl, fun z => z.elim id (fun ⟨h, _, z, _⟩ => absurd z (by omega))⟩)
      obtain ⟨b, f1, f2, f3⟩ := ih (p + 1) (by omega) u (by omega) T' e1 (fun u hu => by
        rw [e3 u hu, wkA_s, h2 u hu]
        constructor
        · rintro (z | ⟨h, t, z1, z2, z3, z4, z5⟩)
          · exact Or.inl z
          · exact Or.inr ⟨h, t, ⟨z1, z2⟩, (h2 t z3).mp z4, z5⟩
        · rintro (z | ⟨h, t, ⟨z1, z2⟩, z3, z4⟩)
          · exact Or.inl z
          · have t8 : t < 8 := by
              obtain ⟨l, _, y2, y3⟩ := z3
              rw [← y3]; exact run_lt hv l t0 h0 (fun h hh => (y2 h hh).1)
            exact Or.inr ⟨h, t, z1, z2, t8, (h2 t t8).mpr z3, z4⟩)
      exact ⟨b, f1, e2.trans f2, f3⟩
  rw [shl_tb t0 h0]
  refine key m 0 (by omega) N (by omega) (2 ^ t0) (Nat.pow_lt_pow_right (n := 8) (by decide) h0) (fun u hu => ?_)
  rw [Nat.testBit_two_pow, decide_eq_true_iff]
  constructor
  · intro z; exact ⟨[], Nat.le_refl _, fun _ z => absurd z List.not_mem_nil, z⟩
  · intro ⟨l, z1, _, z3⟩
    have : l = [] := List.length_eq_zero_iff.mp (by omega)
    subst this
    exact z3
theorem able_v {N : Nat} (hN : 40000 ≤ N) {M : KX} {S : Nat → Int32} {lim H a m t0 g : Nat} (s7 : M 6 7 = nI H) (hH : H ≤ 8) (h0 : t0 < 8) (hv : ∀ h, h < H → hV S h) (ha : a < 256) (hah : f_X7_ahead M (nI g) = some (nI a)) (hm : m ≤ 5) (hat : f_X7_atMost N M (nI g) = some (nI (if m ≤ pc a then m else pc a))) (hb : ∀ p, p < 256 → ∃ b, b < 256 ∧ M 12 p = nI b ∧ ∀ u, u < 8 → (b.testBit u = true ↔ Th (ld S) H t0 p u)) : ∃ b, b < 256 ∧ f_X7_thinkable_33 N N M (nI g) 0 0 = some (nI b, M) ∧ ∀ u, u < 8 → (b.testBit u = true ↔ ∃ n, n ≤ m ∧ sF (ld S) H t0 a u n) := by
  have hp8 := p8 hH
  have key : ∀ k s, s + k = 2 ^ H → ∀ t, k < t → ∀ c, c < 256 → (∀ u, u < 8 → (c.testBit u = true ↔ ∃ p, p < s ∧ (∀ i, p.testBit i = true → a.testBit i = true) ∧ pc p ≤ m ∧ Th (ld S) H t0 p u)) → ∃ b, b < 256 ∧ f_X7_thinkable_33 N t M (nI g) (nI c) (nI s) = some (nI b, M) ∧ ∀ u, u < 8 → (b.testBit u = true ↔ ∃ n, n ≤ m ∧ sF (ld S) H t0 a u n) := by
    intro k
    induction k with
    | zero =>
      intro s hp t ht c h1 h2
      obtain ⟨t, rfl⟩ : ∃ u, t = u + 1 := ⟨t - 1, by omega⟩
      unfold f_X7_thinkable_33
      rw [allM_v hH s7]
      simp only [zB1_s]
      rw [if_pos (by rw [nI_ltI (by omega) (by omega)]; omega)]
      refine ⟨c, h1, rfl, fun u hu => (h2 u hu).trans ?_⟩
      constructor
      · intro ⟨p, z1, z2, z3, z4⟩
        exact ⟨pc p, z3, p, z2, rfl, z4⟩
      · intro ⟨n, z1, p, z2, z3, z4⟩
        exact ⟨p, by have := Th_lt z4; omega, z2, by omega, z4⟩
    | succ k ih =>
      intro s hp t ht c h1 h2
      obtain ⟨t, rfl⟩ : ∃ u, t = u + 1 := ⟨t - 1, by omega⟩
      have hs : s < 256 := by omega
      obtain ⟨b, b1, b2, b3⟩ := hb s hs
      unfold f_X7_thinkable_33 f_X7_thinkable_69 f_X7_thinkable_70 f_X7_thinkable_88
      rw [allM_v hH s7]
      simp only [zB1_s]
      rw [if_neg (by rw [nI_ltI (by omega) (by omega)]; omega), hah, ones_v hN hs, hat]
      simp only [zB1_s, if_true, z10, if_false, zLet, Int32.or_zero, nIp]
      have skip : (¬ ((∀ i, s.testBit i = true → a.testBit i = true) ∧ pc s ≤ m)) → ∃ b, b < 256 ∧ f_X7_thinkable_33 N t M (nI g) (nI c) (nI (s + 1)) = some (nI b, M) ∧ ∀ u, u < 8 → (b.testBit u = true ↔ ∃ n, n ≤ m ∧ sF (ld S) H t0 a u n) := by
        intro hn
        refine ih (s + 1) (by omega) t (by omega) c h1 (fun u hu => (h2 u hu).trans ?_)
        constructor
        · intro ⟨p, z1, z2⟩
          exact ⟨p, by omega, z2⟩
        · intro ⟨p, z1, z2, z3, z4⟩
          rcases Nat.lt_or_eq_of_le (Nat.le_of_lt_succ z1) with z | z
          · exact ⟨p, z, z2, z3, z4⟩
          · rw [z] at z2 z3; exact absurd ⟨z2, z3⟩ hn
      by_cases c1 : ∀ i, s.testBit i = true → a.testBit i = true
      rotate_left
      · rw [if_neg (fun z => c1 ((sub_v hs ha).mp z))]
        exact skip (fun z => c1 z.1)
      rw [if_pos ((sub_v hs ha).mpr c1)]
      have mono := pc_mono hs ha c1
      have := pc_le a ha
      by_cases c2 : m < pc s
      · rw [if_pos (by
          rw [nI_ltI (by split <;> omega) (by omega)]
          split <;> omega)]
        exact skip (fun z => by omega)
      rw [if_neg (by
          rw [nI_ltI (by split <;> omega) (by omega)]
          split <;> omega)]
      rw [zGd_n _ hs (by decide), nI_cl s (by omega), b2, nI_or]
      refine ih (s + 1) (by omega) t (by omega) _ (or_lt8 h1 b1) (fun u hu => ?_)
      rw [or_tb, h2 u hu, b3 u hu]
      constructor
      · rintro (⟨p, z1, z2⟩ | z)
        · exact ⟨p, by omega, z2⟩
        · exact ⟨s, by omega, c1, by omega, z⟩
      · intro ⟨p, z1, z2, z3, z4⟩
        rcases Nat.lt_or_eq_of_le (Nat.le_of_lt_succ z1) with z | z
        · exact Or.inl ⟨p, z, z2, z3, z4⟩
        · rw [z] at z4; exact Or.inr z4
  exact key (2 ^ H) 0 (by omega) N (by omega) 0 (by decide) (fun u hu => by
    rw [Nat.zero_testBit]
    exact ⟨fun z => absurd z (by decide), fun ⟨p, z, _⟩ => absurd z (by omega)⟩)
theorem op_thinkable {N : Nat} (hN : 40000 ≤ N) : zOp_thinkable N Sim := by
  intro X M hS a1
  obtain ⟨lim, q, w, H, G, ev, hV, hC⟩ := hS.2.2.2.2.1
  obtain ⟨⟨s0, hlim⟩, ⟨s1, hq⟩, _, ⟨s7, hH⟩, ⟨s8, hG⟩, _, _, _, _, hhs, hgs, hes⟩ := id hV
  unfold f_X6_thinkable f_X7_thinkable
  rcases isGuest_v hG (hC.1.2.2.2.2.2.2.2.2.trans s8) s8 a1 with ⟨g, hg, rfl, e1, e2⟩ | ⟨e1, e2⟩
  rotate_left
  · simp only [e1, e2, zLet, zB1_s, zB2_s, z10, eq_self_iff_true, if_true, if_false]
    exact ⟨_, X, M, ⟨rfl, rfl⟩, rfl, hS⟩
  have g6 : g < 6 := by omega
  simp only [e1, e2, of_3 M g6, stateOf_v hC hG hg (hgs g hg) hes, zLet, zB1_s, zB2_s, z10, eq_self_iff_true, if_true, if_false]
  by_cases c : M 6 (44 + 5 * g) = 2
  · simp only [c, zLet, zB1_s, zB2_s, z10, eq_self_iff_true, if_true, if_false]
    exact ⟨_, X, M, ⟨rfl, rfl⟩, rfl, hS⟩
  simp only [c, zLet, zB1_s, zB2_s, z10, eq_self_iff_true, if_true, if_false]
  obtain ⟨m, fe, bo, ho, f1, f2, _⟩ := hgs g hg
  have y12 : X 12 g = nI m := (hC.2.2.1 g hg).1.trans f1
  obtain ⟨M1, t1, t2, t3⟩ := thinks_v hN (S := M 6) rfl s7 hH hhs g6 f1 f2
  obtain ⟨a, n, a1, a2, a3, a4, a5, a6⟩ := ahead_v hN (M := M1) (t2 6 (by decide)) hV hC hg
  have a8 := lt8_v H hH a a1
  obtain ⟨b, b1, b2, b3⟩ := within_v hN hC hH hhs (hC.1.2.2.2.2.2.2.2.1.trans s7) a8 (show n ≤ 5 by omega) f2
  obtain ⟨b', d1, d2, d3⟩ := able_v hN (M := M1) (lim := lim) (by rw [t2 6 (by decide), s7]) hH f2 hhs a8 a4 (show n ≤ 5 by omega) a6 t3
  have e : b = b' := eq256 b1 d1 fun u hu => by
    rw [b3 u hu, d3 u hu]
    have k : wkA (ld (M 6)) (fun h => h < H ∧ a.testBit h = true) m n u ↔ lE (ld (M 6)) H m a u n := by
      constructor
      · intro ⟨l, z1, z2, z3⟩; exact ⟨l, z1, (rc_run l m).mpr ⟨z2, z3⟩⟩
      · intro ⟨l, z1, z2⟩; exact ⟨l, z1, (rc_run l m).mp z2⟩
    rw [k]
    constructor
    · intro z; exact lE_sF hH (ld_P _ H) z
    · intro ⟨j, z1, z2⟩
      obtain ⟨l, y1, y2⟩ := sF_lE hH z2
      exact ⟨l, by omega, y2⟩
  subst e
  rw [zGd_n _ g6 (by decide), nI_cl g (by omega), y12, a3, a5, b2, t1]
  simp only [zB1_s]
  exact ⟨nI b, X, M1, ⟨rfl, rfl⟩, d2, sim_scr hS (fun _ _ _ => rfl) (fun c _ c2 _ _ => t2 c c2)⟩
