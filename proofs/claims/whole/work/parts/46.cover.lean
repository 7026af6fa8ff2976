/-! cover, spoilt -/
def mi (S : Nat → Int32) (g : Nat) : Nat := Nn S (41 + 5 * g)
theorem mi_v {S : Nat → Int32} {g : Nat} (h : gV S g) : S (41 + 5 * g) = nI (mi S g) ∧ mi S g < 8 := by
  obtain ⟨m, _, _, _, f1, f2, _⟩ := h
  unfold mi
  rw [Nn_v f1 (by omega)]
  exact ⟨f1, f2⟩
def tcm (S : Nat → Int32) (G g : Nat) : Prop := g < G ∧ S (44 + 5 * g) = 0
/-- a guest has a route by these hints -/
def rt (S : Nat → Int32) (H lim q s g : Nat) : Prop := lE (ld S) H (mi S g) s q lim
theorem rt_mono {S : Nat → Int32} {H lim q s s' g : Nat} (h : rt S H lim q s g) (hs : ∀ i, i < H → s.testBit i = true → s'.testBit i = true) : rt S H lim q s' g := by
  obtain ⟨l, h1, h2⟩ := h
  obtain ⟨z1, z2⟩ := (rc_run _ _).mp h2
  exact ⟨l, h1, (rc_run _ _).mpr ⟨fun h hh => ⟨(z1 h hh).1, hs h (z1 h hh).1 (z1 h hh).2⟩, z2⟩⟩
theorem wanted_v {N : Nat} (hN : 40000 ≤ N) {X : KX} {S : Nat → Int32} {lim q w H G ev : Nat} (hV : cV S lim q w H G ev) (hC : CK X 7 S H G) : ∃ T, T < 256 ∧ f_X2_thoughtsToCome N X = some (nI T) ∧ ∀ u, u < 8 → (T.testBit u = true ↔ ∃ g, tcm S G g ∧ mi S g = u) := by
  obtain ⟨_, _, _, ⟨s7, hH⟩, ⟨s8, hG⟩, _, _, _, _, hhs, hgs, hes⟩ := id hV
  have x5 : X 7 5 = nI G := hC.1.2.2.2.2.2.2.2.2.trans s8
  unfold f_X2_thoughtsToCome
  have key : ∀ k g, g + k = G → ∀ t, k < t → ∀ T', T' < 256 → (∀ u, u < 8 → (T'.testBit u = true ↔ ∃ j, j < g ∧ tcm S G j ∧ mi S j = u)) → ∃ T, T < 256 ∧ f_X2_thoughtsToCome_4 N X t (nI T') (nI g) = some (nI T) ∧ ∀ u, u < 8 → (T.testBit u = true ↔ ∃ g, tcm S G g ∧ mi S g = u) := by
    intro k
    induction k with
    | zero =>
      intro g hg t ht T h1 h2
      obtain ⟨t, rfl⟩ : ∃ u, t = u + 1 := ⟨t - 1, by omega⟩
      have e : g = G := by omega
      subst e
      unfold f_X2_thoughtsToCome_4
      rw [x5, if_pos (by rw [le_n (by omega) (by omega)]; omega)]
      refine ⟨T, h1, rfl, fun u hu => (h2 u hu).trans ?_⟩
      exact ⟨fun ⟨j, _, z⟩ => ⟨j, z⟩, fun ⟨j, z⟩ => ⟨j, z.1.1, z⟩⟩
    | succ k ih =>
      intro g hg t ht T h1 h2
      obtain ⟨t, rfl⟩ : ∃ u, t = u + 1 := ⟨t - 1, by omega⟩
      have gG : g < G := by omega
      have g6 : g < 6 := by omega
      obtain ⟨f1, f2⟩ := mi_v (hgs g gG)
      have y12 : X 12 g = nI (mi S g) := (hC.2.2.1 g gG).1.trans f1
      unfold f_X2_thoughtsToCome_4 f_X2_thoughtsToCome_31
      rw [x5, if_neg (by rw [le_n (by omega) (by omega)]; omega), stateOf_v hC hG gG (hgs g gG) hes, zGd_n _ g6 (by decide), nI_cl g (by omega), y12, shl_tb _ f2, nI_or]
      simp only [zLet, nIp]
      by_cases c0 : S (44 + 5 * g) = 0
      · rw [if_pos c0]
        refine ih (g + 1) (by omega) t (by omega) _ (or_lt8 h1 (Nat.pow_lt_pow_right (n := 8) (by decide) f2)) (fun u hu => ?_)
        rw [tb_or2, h2 u hu]
        constructor
        · rintro (⟨j, z1, z2⟩ | z)
          · exact ⟨j, by omega, z2⟩
          · exact ⟨g, by omega, ⟨gG, c0⟩, z.symm⟩
        · intro ⟨j, z1, z2, z3⟩
          rcases Nat.lt_or_eq_of_le (Nat.le_of_lt_succ z1) with z | z
          · exact Or.inl ⟨j, z, z2, z3⟩
          · rw [z] at z3; exact Or.inr z3.symm
      · rw [if_neg c0]
        refine ih (g + 1) (by omega) t (by omega) _ h1 (fun u hu => (h2 u hu).trans ?_)
        constructor
        · intro ⟨j, z1, z2⟩; exact ⟨j, by omega, z2⟩
        · intro ⟨j, z1, z2, z3⟩
          rcases Nat.lt_or_eq_of_le (Nat.le_of_lt_succ z1) with z | z
          · exact ⟨j, z, z2, z3⟩
          · rw [z] at z2; exact absurd z2.2 c0
  exact key G 0 (by omega) N (by omega) 0 (by decide) (fun u hu => by
    rw [Nat.zero_testBit]; exact ⟨fun z => absurd z (by decide), fun ⟨j, z, _⟩ => absurd z (by omega)⟩)
theorem withR_v {N : Nat} (hN : 40000 ≤ N) {X : KX} {S : Nat → Int32} {lim q w H G ev s : Nat} (hV : cV S lim q w H G ev) (hC : CK X 7 S H G) (hs : s < 256) : ∃ (X' : KX) (d : Nat), f_X3_thoughtsWithRoute N X (nI s) = some (nI d, X') ∧ fX X' X ∧ d < 256 ∧ ∀ t, t < 8 → (d.testBit t = true ↔ lE (ld S) H t s q lim) := by
  obtain ⟨⟨s0, hlim⟩, ⟨s1, hq⟩, _, ⟨s7, hH⟩, ⟨s8, hG⟩, _, _, _, _, hhs, hgs, hes⟩ := id hV
  obtain ⟨X1, m1, m2, m3⟩ := meas0_v hN (a := s) hC hH hhs (hC.1.2.2.2.2.2.2.2.1.trans s7) (hC.1.1.trans s0) hlim (hC.1.2.1.trans s1) hq hs
  obtain ⟨d, d1, d2, d3⟩ := m3.2 lim (Nat.le_refl _)
  unfold f_X3_thoughtsWithRoute
  have y : X1 7 3 = nI lim := by rw [m2 7 (by decide) (by decide)]; exact hC.1.1.trans s0
  rw [m1]
  simp only [zB1_s]
  rw [y, show f_X6_isBelow (nI lim) 6 = 1 from isBelow_t (n := 6) (by omega) (by decide), if_neg (by decide), zGd_n _ (show lim < 6 by omega) (by decide), nI_cl lim (by omega), d2]
  exact ⟨X1, d, rfl, m2, d1, d3⟩
def allR (S : Nat → Int32) (H G lim q s : Nat) : Prop := ∀ g, tcm S G g → rt S H lim q s g
theorem haveR_v {N : Nat} (hN : 40000 ≤ N) {X : KX} {S : Nat → Int32} {lim q w H G ev s T : Nat} (hV : cV S lim q w H G ev) (hC : CK X 7 S H G) (hs : s < 256) (hT : T < 256) (hTb : ∀ u, u < 8 → (T.testBit u = true ↔ ∃ g, tcm S G g ∧ mi S g = u)) : ∃ (X' : KX) (r : Int32), f_X3_haveRoute N X (nI T) (nI s) = some (r, X') ∧ fX X' X ∧ ((r = 1 ∧ allR S H G lim q s) ∨ (r = 0 ∧ ¬ allR S H G lim q s)) := by
  obtain ⟨X1, d, d1, d2, d3, d4⟩ := withR_v hN hV hC hs
  obtain ⟨_, _, _, ⟨s7, hH⟩, ⟨s8, hG⟩, _, _, _, _, hhs, hgs, hes⟩ := id hV
  unfold f_X3_haveRoute
  rw [d1]
  simp only [zB2_s]
  have e : (∀ i, T.testBit i = true → d.testBit i = true) ↔ allR S H G lim q s := by
    constructor
    · intro z g hg
      have f2 := (mi_v (hgs g hg.1)).2
      exact (d4 _ f2).mp (z _ ((hTb _ f2).mpr ⟨g, hg, rfl⟩))
    · intro z i hi
      have i8 : i < 8 := by
        refine Nat.lt_of_not_le fun c => ?_
        have p : 2 ^ 8 ≤ 2 ^ i := Nat.pow_le_pow_right (by decide) c
        rw [Nat.testBit_lt_two_pow (Nat.lt_of_lt_of_le hT p)] at hi
        exact absurd hi (by decide)
      obtain ⟨g, g1, g2⟩ := (hTb i i8).mp hi
      have := z g g1
      unfold rt at this
      rw [g2] at this
      exact (d4 i i8).mpr this
  by_cases c : allR S H G lim q s
  · rw [if_pos ((sub_v hT d3).mpr (e.mpr c))]
    exact ⟨X1, 1, rfl, d2, Or.inl ⟨rfl, c⟩⟩
  · rw [if_neg (fun z => c (e.mp ((sub_v hT d3).mp z)))]
    exact ⟨X1, 0, rfl, d2, Or.inr ⟨rfl, c⟩⟩
/-- the model's routes -/
def roS (M : KX) (S : Nat → Int32) (H G lim q : Nat) (P : Nat → Nat → Prop) : Prop := ∀ s, s < 2 ^ H → ∃ b, b < 64 ∧ M 13 s = nI b ∧ ∀ g, g < 6 → (b.testBit g = true ↔ P s g ∧ tcm S G g ∧ rt S H lim q s g)
def fM (M' M : KX) : Prop := ∀ c, c ≠ 12 → c ≠ 13 → M' c = M c
theorem or64' {a g : Nat} (ha : a < 64) (hg : g < 6) : a ||| 2 ^ g < 64 := Nat.or_lt_two_pow (n := 6) ha (Nat.pow_lt_pow_right (by decide) hg)
theorem lays51_v {N : Nat} (hN : 40000 ≤ N) {M M1 : KX} {lim q w H G ev g : Nat} (hV : cV (M 6) lim q w H G ev) (k25 : KX → Int32 → Option KX) (hg : tcm (M 6) G g) (hb : ∀ p, p < 256 → ∃ b, b < 256 ∧ M1 12 p = nI b ∧ ∀ u, u < 8 → (b.testBit u = true ↔ Th (ld (M 6)) H (mi (M 6) g) p u)) (hf : fM M1 M) : ∀ k s, s + k = 2 ^ H → ∀ t, k < t → ∀ X1 : KX, fM X1 M → X1 12 = M1 12 → roS X1 (M 6) H G lim q (fun p j => j < g ∨ (j = g ∧ p < s)) → ∃ X2 : KX, f_X7_laysRoutes_51 N k25 t X1 (nI g) (nI s) = k25 X2 (nI (g + 1)) ∧ fM X2 M ∧ roS X2 (M 6) H G lim q (fun _ j => j < g + 1) := by
  obtain ⟨⟨s0, hlim⟩, ⟨s1, hq⟩, _, ⟨s7, hH⟩, ⟨s8, hG⟩, _, _, _, _, hhs, hgs, hes⟩ := id hV
  have hp8 := p8 hH
  have gG := hg.1
  intro k
  induction k with
  | zero =>
    intro s hp t ht X1 h1 h12 h2
    obtain ⟨t, rfl⟩ : ∃ u, t = u + 1 := ⟨t - 1, by omega⟩
    unfold f_X7_laysRoutes_51 f_X7_laysRoutes_97
    rw [allM_v hH (by rw [h1 6 (by decide) (by decide), s7])]
    simp only [zB1_s]
    rw [if_pos (by rw [nI_ltI (by omega) (by omega)]; omega)]
    simp only [zLet, nIp]
    refine ⟨X1, rfl, h1, fun s' hs' => ?_⟩
    obtain ⟨b, b1, b2, b3⟩ := h2 s' hs'
    refine ⟨b, b1, b2, fun j hj => (b3 j hj).trans ?_⟩
    constructor
    · rintro ⟨z, z2⟩; exact ⟨by omega, z2⟩
    · rintro ⟨z, z2⟩; exact ⟨by omega, z2⟩
  | succ k ih =>
    intro s hp t ht X1 h1 h12 h2
    obtain ⟨t, rfl⟩ : ∃ u, t = u + 1 := ⟨t - 1, by omega⟩
    have hs : s < 256 := by omega
    have m6 : X1 6 = M 6 := h1 6 (by decide) (by decide)
    unfold f_X7_laysRoutes_51 f_X7_laysRoutes_89
    rw [allM_v hH (by rw [m6, s7])]
    simp only [zB1_s]
    rw [if_neg (by rw [nI_ltI (by omega) (by omega)]; omega)]
    obtain ⟨r, r1, r2⟩ := fewM_v hN (X := X1) (S := M 6) (H := H) (t0 := mi (M 6) g) (a := s) (m := lim) (by rw [m6]; exact s1) hq hs (by omega) (by rw [h12]; exact hb)
    have GG : ∀ (α : Type) (e : Option α), zGd (nI s) 256 e = e := fun _ e => zGd_n e hs (by decide)
    simp only [z71_0, z71_1, z71_2, z71_3, z71_4, z71_5, z71_6, z71_7, z71_8, cl_0, cl_1, cl_2, cl_3, cl_4, cl_5, cl_6, cl_7, cl_8, GG, m6, s0, r1, zB1_s, nI_cl s (show s < 2 ^ 31 by omega), zLet, nIp]
    obtain ⟨b, b1, b2, b3⟩ := h2 s (by omega)
    rw [shl_tb g (by omega), b2]
    have fin : ∀ x : Nat, x < 64 → (∀ j, j < 6 → (x.testBit j = true ↔ (j < g ∨ j = g) ∧ tcm (M 6) G j ∧ rt (M 6) H lim q s j)) → ∃ X2 : KX, f_X7_laysRoutes_51 N k25 t (zU X1 13 s (nI x)) (nI g) (nI (s + 1)) = k25 X2 (nI (g + 1)) ∧ fM X2 M ∧ roS X2 (M 6) H G lim q (fun _ j => j < g + 1) := by
      intro x x1 x2
      refine ih (s + 1) (by omega) t (by omega) _ (fun c c1 c2 => by rw [zU_o _ _ _ c2]; exact h1 c c1 c2) h12 (fun s' hs' => ?_)
      rw [zU_s]
      by_cases c : s' = s
      · subst c
        refine ⟨x, x1, up_s _ _ _, fun j hj => (x2 j hj).trans ?_⟩
        constructor
        · rintro ⟨z, z2⟩; exact ⟨by omega, z2⟩
        · rintro ⟨z, z2⟩; exact ⟨by omega, z2⟩
      · obtain ⟨b', c1, c2, c3⟩ := h2 s' hs'
        refine ⟨b', c1, by rw [up_o _ _ c]; exact c2, fun j hj => (c3 j hj).trans ?_⟩
        constructor
        · rintro ⟨z, z2⟩; exact ⟨by omega, z2⟩
        · rintro ⟨z, z2⟩; exact ⟨by omega, z2⟩
    have hr : r = -1000000 ↔ ¬ rt (M 6) H lim q s g := by
      constructor
      · intro z hz
        obtain ⟨n, n1, n2⟩ := lE_sF hH (ld_P _ H) hz
        rcases r2 with ⟨_, y⟩ | ⟨k, y1, y2, _⟩
        · exact y n n1 n2
        · rw [z] at y2; exact nIm k (by omega) y2.symm
      · intro hz
        rcases r2 with ⟨y, _⟩ | ⟨k, y1, y2, y3, _⟩
        · exact y
        · obtain ⟨l, l1, l2⟩ := sF_lE hH y3
          exact absurd ⟨l, by omega, l2⟩ hz
    by_cases c : r = -1000000
    · rw [if_pos c, Int32.or_zero]
      refine fin b b1 (fun j hj => (b3 j hj).trans ?_)
      constructor
      · rintro ⟨z, z2⟩; exact ⟨by omega, z2⟩
      · rintro ⟨z, z2⟩
        refine ⟨?_, z2⟩
        rcases z with z | z
        · exact Or.inl z
        · rw [z] at z2; exact absurd z2.2 (hr.mp c)
    · rw [if_neg c, nI_or]
      refine fin _ (or64' b1 (by omega)) (fun j hj => ?_)
      rw [tb_or2, b3 j hj]
      constructor
      · rintro (⟨z, z2⟩ | z)
        · exact ⟨by omega, z2⟩
        · subst z
          exact ⟨Or.inr rfl, hg, Classical.byContradiction fun y => c (hr.mpr y)⟩
      · rintro ⟨z, z2⟩
        by_cases e : j = g
        · exact Or.inr e
        · exact Or.inl ⟨by omega, z2⟩
theorem lays_v {N : Nat} (hN : 40000 ≤ N) {M : KX} {lim q w H G ev : Nat} (hV : cV (M 6) lim q w H G ev) : ∃ M' : KX, f_X7_laysRoutes N M = some M' ∧ fM M' M ∧ roS M' (M 6) H G lim q (fun _ _ => True) := by
  obtain ⟨⟨s0, hlim⟩, ⟨s1, hq⟩, _, ⟨s7, hH⟩, ⟨s8, hG⟩, _, _, _, _, hhs, hgs, hes⟩ := id hV
  have hp8 := p8 hH
  have key2 : ∀ k g, g + k = G → ∀ t, k < t → ∀ X1 : KX, fM X1 M → roS X1 (M 6) H G lim q (fun _ j => j < g) → ∃ X2 : KX, f_X7_laysRoutes_25 N t X1 (nI g) = some X2 ∧ fM X2 M ∧ roS X2 (M 6) H G lim q (fun _ _ => True) := by
    intro k
    induction k with
    | zero =>
      intro g hg t ht X1 h1 h2
      obtain ⟨t, rfl⟩ : ∃ u, t = u + 1 := ⟨t - 1, by omega⟩
      have e : g = G := by omega
      subst e
      unfold f_X7_laysRoutes_25
      simp only [z71_0, z71_1, z71_2, z71_3, z71_4, z71_5, z71_6, z71_7, z71_8, cl_0, cl_1, cl_2, cl_3, cl_4, cl_5, cl_6, cl_7, cl_8, h1 6 (by decide) (by decide), s8]
      rw [if_pos (by rw [le_n (by omega) (by omega)]; omega)]
      refine ⟨X1, rfl, h1, fun s hs => ?_⟩
      obtain ⟨b, b1, b2, b3⟩ := h2 s hs
      exact ⟨b, b1, b2, fun j hj => (b3 j hj).trans ⟨fun z => ⟨trivial, z.2⟩, fun z => ⟨z.2.1.1, z.2⟩⟩⟩
    | succ k ih =>
      intro g hg t ht X1 h1 h2
      obtain ⟨t, rfl⟩ : ∃ u, t = u + 1 := ⟨t - 1, by omega⟩
      have gG : g < G := by omega
      have g6 : g < 6 := by omega
      have m6 : X1 6 = M 6 := h1 6 (by decide) (by decide)
      unfold f_X7_laysRoutes_25 f_X7_laysRoutes_97 f_X7_isToCome
      simp only [z71_0, z71_1, z71_2, z71_3, z71_4, z71_5, z71_6, z71_7, z71_8, cl_0, cl_1, cl_2, cl_3, cl_4, cl_5, cl_6, cl_7, cl_8, m6, s8]
      rw [if_neg (by rw [le_n (by omega) (by omega)]; omega), of_3 X1 g6, m6]
      simp only [zB1_s, zLet, nIp]
      by_cases c0 : M 6 (44 + 5 * g) = 0
      · rw [if_pos c0]
        simp only [zB1_s, z10, if_false]
        obtain ⟨f1, f2⟩ := mi_v (hgs g gG)
        obtain ⟨M1, t1, t2, t3⟩ := thinks_v hN (M := X1) m6 s7 hH hhs g6 f1 f2
        rw [t1]
        simp only [zB1_s]
        have hf : fM M1 M := fun c c1 c2 => (t2 c c1).trans (h1 c c1 c2)
        obtain ⟨X2, e1, e2, e3⟩ := lays51_v hN hV (f_X7_laysRoutes_25 N t) ⟨gG, c0⟩ t3 hf (2 ^ H) 0 (by omega) N (by omega) M1 hf rfl (fun s hs => by
          obtain ⟨b, b1, b2, b3⟩ := h2 s hs
          refine ⟨b, b1, by rw [t2 13 (by decide)]; exact b2, fun j hj => (b3 j hj).trans ?_⟩
          constructor
          · rintro ⟨z, z2⟩; exact ⟨by omega, z2⟩
          · rintro ⟨z, z2⟩; exact ⟨by omega, z2⟩)
        obtain ⟨X3, e4, e5⟩ := ih (g + 1) (by omega) t (by omega) X2 e2 e3
        exact ⟨X3, e1.trans e4, e5⟩
      · rw [if_neg c0]
        simp only [zB1_s, if_true]
        refine ih (g + 1) (by omega) t (by omega) X1 h1 (fun s hs => ?_)
        obtain ⟨b, b1, b2, b3⟩ := h2 s hs
        refine ⟨b, b1, b2, fun j hj => (b3 j hj).trans ?_⟩
        constructor
        · rintro ⟨z, z2⟩; exact ⟨by omega, z2⟩
        · rintro ⟨z, z2⟩
          refine ⟨?_, z2⟩
          rcases Nat.lt_or_eq_of_le (Nat.le_of_lt_succ z) with y | y
          · exact y
          · rw [y] at z2; exact absurd z2.1.2 c0
  unfold f_X7_laysRoutes
  have key : ∀ k s, s + k = 2 ^ H → ∀ t, k < t → ∀ X1 : KX, fM X1 M → (∀ p, p < s → X1 13 p = 0) → ∃ X2 : KX, f_X7_laysRoutes_2 N t X1 (nI s) = f_X7_laysRoutes_25 N N X2 0 ∧ fM X2 M ∧ ∀ p, p < 2 ^ H → X2 13 p = 0 := by
    intro k
    induction k with
    | zero =>
      intro s hp t ht X1 h1 h2
      obtain ⟨t, rfl⟩ : ∃ u, t = u + 1 := ⟨t - 1, by omega⟩
      unfold f_X7_laysRoutes_2
      rw [allM_v hH (by rw [h1 6 (by decide) (by decide), s7])]
      simp only [zB1_s]
      rw [if_pos (by rw [nI_ltI (by omega) (by omega)]; omega)]
      exact ⟨X1, rfl, h1, fun p hp => h2 p (by omega)⟩
    | succ k ih =>
      intro s hp t ht X1 h1 h2
      obtain ⟨t, rfl⟩ : ∃ u, t = u + 1 := ⟨t - 1, by omega⟩
      unfold f_X7_laysRoutes_2
      rw [allM_v hH (by rw [h1 6 (by decide) (by decide), s7])]
      simp only [zB1_s]
      rw [if_neg (by rw [nI_ltI (by omega) (by omega)]; omega), zGd_n _ (show s < 256 by omega) (by decide), nI_cl s (by omega)]
      simp only [zLet, nIp]
      refine ih (s + 1) (by omega) t (by omega) _ (fun c c1 c2 => by rw [zU_o _ _ _ c2]; exact h1 c c1 c2) (fun p hp => ?_)
      rw [zU_s]
      by_cases c : p = s
      · rw [c, up_s]
      · rw [up_o _ _ c]; exact h2 p (by omega)
  obtain ⟨X2, e1, e2, e3⟩ := key (2 ^ H) 0 (by omega) N (by omega) M (fun _ _ _ => rfl) (fun p hp => by omega)
  obtain ⟨X3, f1, f2⟩ := key2 G 0 (by omega) N (by omega) X2 e2 (fun s hs => ⟨0, by decide, e3 s hs, fun j hj => by
    rw [Nat.zero_testBit]
    exact ⟨fun z => absurd z (by decide), fun z => absurd z.1 (by omega)⟩⟩)
  exact ⟨X3, e1.trans f1, f2⟩
theorem tocome_v {N : Nat} (hN : 40000 ≤ N) {M M1 : KX} {lim q w H G ev : Nat} (hV : cV (M 6) lim q w H G ev) (hf : fM M1 M) : ∃ c, c < 64 ∧ f_X7_allToCome N M1 = some (nI c) ∧ ∀ g, g < 6 → (c.testBit g = true ↔ tcm (M 6) G g) := by
  obtain ⟨_, _, _, ⟨s7, hH⟩, ⟨s8, hG⟩, _⟩ := id hV
  have m6 : M1 6 = M 6 := hf 6 (by decide) (by decide)
  unfold f_X7_allToCome
  have key : ∀ k g, g + k = G → ∀ t, k < t → ∀ c', c' < 64 → (∀ j, j < 6 → (c'.testBit j = true ↔ j < g ∧ tcm (M 6) G j)) → ∃ c, c < 64 ∧ f_X7_allToCome_4 N M1 t (nI c') (nI g) = some (nI c) ∧ ∀ g, g < 6 → (c.testBit g = true ↔ tcm (M 6) G g) := by
    intro k
    induction k with
    | zero =>
      intro g hg t ht c' h1 h2
      obtain ⟨t, rfl⟩ : ∃ u, t = u + 1 := ⟨t - 1, by omega⟩
      have e : g = G := by omega
      subst e
      unfold f_X7_allToCome_4
      simp only [z71_0, z71_1, z71_2, z71_3, z71_4, z71_5, z71_6, z71_7, z71_8, cl_0, cl_1, cl_2, cl_3, cl_4, cl_5, cl_6, cl_7, cl_8, m6, s8]
      rw [if_pos (by rw [le_n (by omega) (by omega)]; omega)]
      exact ⟨c', h1, rfl, fun j hj => (h2 j hj).trans ⟨fun z => z.2, fun z => ⟨z.1, z⟩⟩⟩
    | succ k ih =>
      intro g hg t ht c' h1 h2
      obtain ⟨t, rfl⟩ : ∃ u, t = u + 1 := ⟨t - 1, by omega⟩
      have gG : g < G := by omega
      have g6 : g < 6 := by omega
      unfold f_X7_allToCome_4 f_X7_allToCome_31 f_X7_isToCome
      simp only [z71_0, z71_1, z71_2, z71_3, z71_4, z71_5, z71_6, z71_7, z71_8, cl_0, cl_1, cl_2, cl_3, cl_4, cl_5, cl_6, cl_7, cl_8, m6, s8]
      rw [if_neg (by rw [le_n (by omega) (by omega)]; omega), of_3 M1 g6, m6]
      simp only [zB1_s, zLet, nIp]
      by_cases c0 : M 6 (44 + 5 * g) = 0
      · rw [if_pos c0]
        simp only [zB1_s, z10, if_false]
        rw [shl_tb g (by omega), nI_or]
        refine ih (g + 1) (by omega) t (by omega) _ (or64' h1 g6) (fun j hj => ?_)
        rw [tb_or2, h2 j hj]
        constructor
        · rintro (⟨z, z2⟩ | z)
          · exact ⟨by omega, z2⟩
          · subst z; exact ⟨by omega, gG, c0⟩
        · rintro ⟨z, z2⟩
          by_cases e : j = g
          · exact Or.inr e
          · exact Or.inl ⟨by omega, z2⟩
      · rw [if_neg c0]
        simp only [zB1_s, if_true, Int32.or_zero]
        refine ih (g + 1) (by omega) t (by omega) _ h1 (fun j hj => (h2 j hj).trans ?_)
        constructor
        · rintro ⟨z, z2⟩; exact ⟨by omega, z2⟩
        · rintro ⟨z, z2⟩
          refine ⟨?_, z2⟩
          rcases Nat.lt_or_eq_of_le (Nat.le_of_lt_succ z) with y | y
          · exact y
          · rw [y] at z2; exact absurd z2.2 c0
  exact key G 0 (by omega) N (by omega) 0 (by decide) (fun j hj => by
    rw [Nat.zero_testBit]
    exact ⟨fun z => absurd z (by decide), fun z => absurd z.1 (by omega)⟩)
