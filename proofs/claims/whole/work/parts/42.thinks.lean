/-! the model's thoughts after a set -/
def thI (M' M : KX) (S : Nat → Int32) (H t0 : Nat) (P : Nat → Nat → Nat → Prop) : Prop := (∀ c, c ≠ 12 → M' c = M c) ∧ ∀ v, v < 256 → ∃ b, b < 256 ∧ M' 12 v = nI b ∧ ∀ u, u < 8 → (b.testBit u = true ↔ (v = 0 ∧ u = t0) ∨ ∃ p h u', P p h u' ∧ Th (ld S) H t0 p u' ∧ h < H ∧ p.testBit h = false ∧ v = p ||| 2 ^ h ∧ u = ld S h u')
theorem thI_m {M' M : KX} {S : Nat → Int32} {H t0 : Nat} {P Q : Nat → Nat → Nat → Prop} (h : thI M' M S H t0 P) (hpq : ∀ p h u, Th (ld S) H t0 p u → h < H → p.testBit h = false → (P p h u ↔ Q p h u)) : thI M' M S H t0 Q := by
  refine ⟨h.1, fun v hv => ?_⟩
  obtain ⟨b, b1, b2, b3⟩ := h.2 v hv
  refine ⟨b, b1, b2, fun u hu => (b3 u hu).trans ?_⟩
  constructor
  · rintro (z | ⟨p, h, u', z1, z2, z3, z4, z5⟩)
    · exact Or.inl z
    · exact Or.inr ⟨p, h, u', (hpq p h u' z2 z3 z4).mp z1, z2, z3, z4, z5⟩
  · rintro (z | ⟨p, h, u', z1, z2, z3, z4, z5⟩)
    · exact Or.inl z
    · exact Or.inr ⟨p, h, u', (hpq p h u' z2 z3 z4).mpr z1, z2, z3, z4, z5⟩
theorem or_gt {p h : Nat} (hb : p.testBit h = false) : p < p ||| 2 ^ h := by
  refine Nat.lt_of_le_of_ne Nat.left_le_or (fun z => ?_)
  have : (p ||| 2 ^ h).testBit h = true := (tb_or2 p h h).mpr (Or.inr rfl)
  rw [← z, hb] at this
  exact absurd this (by decide)
theorem thI_at {M' M : KX} {S : Nat → Int32} {H t0 s : Nat} {P : Nat → Nat → Nat → Prop} (h : thI M' M S H t0 P) (hs : s < 256) (hP : ∀ p h u, p < s → P p h u) : ∃ b, b < 256 ∧ M' 12 s = nI b ∧ ∀ u, u < 8 → (b.testBit u = true ↔ Th (ld S) H t0 s u) := by
  obtain ⟨b, b1, b2, b3⟩ := h.2 s hs
  refine ⟨b, b1, b2, fun u hu => ?_⟩
  rw [b3 u hu, Th_step]
  constructor
  · rintro (z | ⟨p, h, u', z1, z2, z3, z4, z5, z6⟩)
    · exact Or.inl z
    · exact Or.inr ⟨p, h, u', z2, z3, z4, z5, z6⟩
  · rintro (z | ⟨p, h, u', z2, z3, z4, z5, z6⟩)
    · exact Or.inl z
    · exact Or.inr ⟨p, h, u', hP _ _ _ (by rw [z5]; exact or_gt z4), z2, z3, z4, z5, z6⟩
theorem th63_v {N : Nat} {M : KX} {S : Nat → Int32} {H t0 s v3 : Nat} (h6 : M 6 = S) (hH : H ≤ 8) (hv : ∀ h, h < H → hV S h) (hs : s < 2 ^ H) (h3 : v3 < H) (hb : s.testBit v3 = false) (k39 : KX → Int32 → Option KX) (k49 : KX → Int32 → Int32 → Option KX) : ∀ k v4, v4 + k = 8 → ∀ t, k < t → ∀ X1 : KX, thI X1 M S H t0 (fun p h u => p < s ∨ (p = s ∧ (h < v3 ∨ (h = v3 ∧ u < v4)))) → ∃ X2 : KX, f_X7_thinks_63 N k39 k49 t X1 (nI s) (nI v3) (nI v4) = k49 X2 (nI s) (nI (v3 + 1)) ∧ thI X2 M S H t0 (fun p h u => p < s ∨ (p = s ∧ (h < v3 ∨ (h = v3 ∧ u < 8)))) := by
  have hs8 := lt8_v H hH s hs
  intro k
  induction k with
  | zero =>
    intro v4 hp t ht X1 h1
    obtain ⟨t, rfl⟩ : ∃ u, t = u + 1 := ⟨t - 1, by omega⟩
    have e : v4 = 8 := by omega
    subst e
    unfold f_X7_thinks_63 f_X7_thinks_124
    rw [if_pos (show (8 : Int32) ≤ nI 8 by decide)]
    simp only [zLet, nIp]
    exact ⟨X1, rfl, h1⟩
  | succ k ih =>
    intro v4 hp t ht X1 h1
    obtain ⟨t, rfl⟩ : ∃ u, t = u + 1 := ⟨t - 1, by omega⟩
    have h8 : ¬ (8 : Int32) ≤ nI v4 := by rw [show (8 : Int32) = nI 8 from rfl, le_n (by omega) (by omega)]; omega
    have v48 : v4 < 8 := by omega
    obtain ⟨b, b1, b2, b3⟩ := thI_at h1 hs8 (fun p h u hp => Or.inl hp)
    have hu : s ||| 2 ^ v3 < 256 := lt8_v H hH _ (or_lt s v3 H hs h3)
    obtain ⟨c, c1, c2, c3⟩ := h1.2 (s ||| 2 ^ v3) hu
    unfold f_X7_thinks_63 f_X7_thinks_116
    rw [if_neg h8, hasM_tb s hs8 v3 (by omega), hb]
    simp only [Bool.false_eq_true, if_false, if_true, zLet]
    rw [shl_tb v3 (by omega), nI_or, zGd_n _ hu (by decide), zGd_n _ hs8 (by decide), nI_cl s (by omega), nI_cl _ (by omega), b2, hasM_tb b b1 v4 v48]
    have m6 : X1 6 = S := (h1.1 6 (by decide)).trans h6
    have fin : ∀ x : Nat, x < 256 → (∀ u, u < 8 → (x.testBit u = true ↔ Th (ld S) H t0 s v4 ∧ u = ld S v3 v4)) → ∃ X2 : KX, f_X7_thinks_63 N k39 k49 t (zU X1 12 (s ||| 2 ^ v3) (X1 12 (s ||| 2 ^ v3) ||| nI x)) (nI s) (nI v3) (nI v4 + 1) = k49 X2 (nI s) (nI (v3 + 1)) ∧ thI X2 M S H t0 (fun p h u => p < s ∨ (p = s ∧ (h < v3 ∨ (h = v3 ∧ u < 8)))) := by
      intro x x1 x2
      rw [nIp]
      refine ih (v4 + 1) (by omega) t (by omega) _ ⟨fun c hc => by rw [zU_o _ _ _ hc]; exact h1.1 c hc, fun v hv => ?_⟩
      by_cases cv : v = s ||| 2 ^ v3
      · subst cv
        refine ⟨c ||| x, or_lt8 c1 x1, by rw [zU_s, up_s, c2, nI_or], fun u hu => ?_⟩
        rw [or_tb, c3 u hu, x2 u hu]
        constructor
        · rintro ((z | ⟨p, h, u', z1, z2⟩) | ⟨z1, z2⟩)
          · exact Or.inl z
          · exact Or.inr ⟨p, h, u', by omega, z2⟩
          · exact Or.inr ⟨s, v3, v4, by omega, z1, h3, hb, rfl, z2⟩
        · rintro (z | ⟨p, h, u', z1, z2⟩)
          · exact Or.inl (Or.inl z)
          · by_cases cc : p = s ∧ h = v3 ∧ u' = v4
            · obtain ⟨rfl, rfl, rfl⟩ := cc
              exact Or.inr ⟨z2.1, z2.2.2.2.2⟩
            · exact Or.inl (Or.inr ⟨p, h, u', by omega, z2⟩)
      · obtain ⟨d, d1, d2, d3⟩ := h1.2 v hv
        refine ⟨d, d1, by rw [zU_s, up_o _ _ cv]; exact d2, fun u hu => (d3 u hu).trans ?_⟩
        constructor
        · rintro (z | ⟨p, h, u', z1, z2⟩)
          · exact Or.inl z
          · exact Or.inr ⟨p, h, u', by omega, z2⟩
        · rintro (z | ⟨p, h, u', z1, z2⟩)
          · exact Or.inl z
          · refine Or.inr ⟨p, h, u', ?_, z2⟩
            by_cases cc : p = s ∧ h = v3 ∧ u' = v4
            · obtain ⟨rfl, rfl, rfl⟩ := cc
              exact absurd z2.2.2.2.1 cv
            · omega
    cases cb : b.testBit v4 with
    | false =>
      simp only [Bool.false_eq_true, if_false, if_true]
      have := fin 0 (by decide) (fun u hu => by
        rw [Nat.zero_testBit]
        refine ⟨fun z => absurd z (by decide), fun z => ?_⟩
        rw [(b3 v4 v48).mpr z.1] at cb
        exact absurd cb (by decide))
      rw [zGd_n _ hu (by decide)]
      exact this
    | true =>
      have l := leadsNow_v (M := X1) (t := v4) (show v3 < 8 by omega) v48 (by rw [m6]; exact hv _ h3)
      have hr : ld S v3 v4 < 8 := ld_lt (hv _ h3) v48
      simp only [if_true, z10, if_false, l, zB1_s]
      rw [m6, shl_tb _ hr, zGd_n _ hu (by decide)]
      exact fin (2 ^ ld S v3 v4) (Nat.pow_lt_pow_right (n := 8) (by decide) hr) (fun u hu => by
        rw [Nat.testBit_two_pow, decide_eq_true_iff]
        exact ⟨fun z => ⟨(b3 v4 v48).mp cb, z.symm⟩, fun z => z.2.symm⟩)
theorem Th_lt8 {S : Nat → Int32} {H t0 p u : Nat} (hv : ∀ h, h < H → hV S h) (h0 : t0 < 8) (h : Th (ld S) H t0 p u) : u < 8 := by
  obtain ⟨l, _, h2, _, rfl⟩ := h
  have : ∀ (l : List Nat) t, t < 8 → (∀ h, h ∈ l → h < H) → run (ld S) t l < 8 := by
    intro l
    induction l with
    | nil => intro t ht _; exact ht
    | cons a l ih =>
      intro t ht hl
      exact ih _ (ld_lt (hv a (hl a List.mem_cons_self)) ht) (fun h hh => hl h (List.mem_cons_of_mem _ hh))
  exact this l t0 h0 h2
theorem th49_v {N : Nat} (hN : 40000 ≤ N) {M : KX} {S : Nat → Int32} {H t0 s : Nat} (h6 : M 6 = S) (s7 : S 7 = nI H) (hH : H ≤ 8) (hv : ∀ h, h < H → hV S h) (h0 : t0 < 8) (hs : s < 2 ^ H) (k39 : KX → Int32 → Option KX) : ∀ k v3, v3 + k = H → ∀ t, k < t → ∀ X1 : KX, thI X1 M S H t0 (fun p h _ => p < s ∨ (p = s ∧ h < v3)) → ∃ X2 : KX, f_X7_thinks_49 N k39 t X1 (nI s) (nI v3) = k39 X2 (nI (s + 1)) ∧ thI X2 M S H t0 (fun p _ _ => p < s + 1) := by
  have hs8 := lt8_v H hH s hs
  intro k
  induction k with
  | zero =>
    intro v3 hp t ht X1 h1
    obtain ⟨t, rfl⟩ : ∃ u, t = u + 1 := ⟨t - 1, by omega⟩
    have e : v3 = H := by omega
    subst e
    unfold f_X7_thinks_49
    simp only [z71_0, z71_1, z71_2, z71_3, z71_4, z71_5, z71_6, z71_7, z71_8, cl_0, cl_1, cl_2, cl_3, cl_4, cl_5, cl_6, cl_7, cl_8]
    rw [h1.1 6 (by decide), h6, s7, if_pos (by rw [le_n (by omega) (by omega)]; omega)]
    simp only [zLet, nIp]
    exact ⟨X1, rfl, thI_m h1 (fun p h u _ hh _ => by omega)⟩
  | succ k ih =>
    intro v3 hp t ht X1 h1
    obtain ⟨t, rfl⟩ : ∃ u, t = u + 1 := ⟨t - 1, by omega⟩
    unfold f_X7_thinks_49
    simp only [z71_0, z71_1, z71_2, z71_3, z71_4, z71_5, z71_6, z71_7, z71_8, cl_0, cl_1, cl_2, cl_3, cl_4, cl_5, cl_6, cl_7, cl_8]
    rw [h1.1 6 (by decide), h6, s7, if_neg (by rw [le_n (by omega) (by omega)]; omega)]
    cases hb : s.testBit v3 with
    | false =>
      obtain ⟨X2, e1, e2⟩ := th63_v (N := N) h6 hH hv hs (show v3 < H by omega) hb k39 (f_X7_thinks_49 N k39 t) 8 0 rfl N (by omega) X1 (thI_m h1 (fun p h u _ _ _ => by omega))
      obtain ⟨X3, e3, e4⟩ := ih (v3 + 1) (by omega) t (by omega) X2 (thI_m e2 (fun p h u hT _ _ => by have := Th_lt8 hv h0 hT; omega))
      exact ⟨X3, e1.trans e3, e4⟩
    | true =>
      obtain ⟨X3, e3, e4⟩ := ih (v3 + 1) (by omega) t (by omega) X1 (thI_m h1 (fun p h u hT _ hb2 => by
        constructor
        · omega
        · rintro (z | ⟨z1, z2⟩)
          · exact Or.inl z
          · refine Or.inr ⟨z1, ?_⟩
            rcases Nat.lt_or_eq_of_le (Nat.le_of_lt_succ z2) with z | z
            · exact z
            · rw [z1, z, hb] at hb2; exact absurd hb2 (by decide)))
      refine ⟨X3, ?_, e4⟩
      obtain ⟨n, rfl⟩ : ∃ u, N = u + 1 := ⟨N - 1, by omega⟩
      unfold f_X7_thinks_63 f_X7_thinks_124
      rw [if_neg (show ¬ (8 : Int32) ≤ 0 by decide), hasM_tb s hs8 v3 (by omega), hb]
      simp only [if_true, z10, if_false, zLet, nIp]
      exact e3
theorem allH : ∀ H, H < 9 → zShl 1 (nI H) - 1 = nI (2 ^ H - 1) := by decide +kernel
theorem allM_v {M : KX} {H : Nat} (hH : H ≤ 8) (s7 : M 6 7 = nI H) : f_X7_allHints M = some (nI (2 ^ H - 1)) := by
  unfold f_X7_allHints
  simp only [z71_0, z71_1, z71_2, z71_3, z71_4, z71_5, z71_6, z71_7, z71_8, cl_0, cl_1, cl_2, cl_3, cl_4, cl_5, cl_6, cl_7, cl_8]
  rw [s7, allH H (by omega)]
theorem p8 {H : Nat} (hH : H ≤ 8) : 1 ≤ 2 ^ H ∧ 2 ^ H ≤ 256 := ⟨Nat.two_pow_pos H, (Nat.pow_le_pow_right (by decide) hH : 2 ^ H ≤ 2 ^ 8)⟩
theorem th39_v {N : Nat} (hN : 40000 ≤ N) {M : KX} {S : Nat → Int32} {H t0 : Nat} (h6 : M 6 = S) (s7 : S 7 = nI H) (hH : H ≤ 8) (hv : ∀ h, h < H → hV S h) (h0 : t0 < 8) : ∀ k s, s + k = 2 ^ H → ∀ t, k < t → ∀ X1 : KX, thI X1 M S H t0 (fun p _ _ => p < s) → ∃ X2 : KX, f_X7_thinks_39 N t X1 (nI s) = some X2 ∧ thI X2 M S H t0 (fun _ _ _ => True) := by
  have := p8 hH
  intro k
  induction k with
  | zero =>
    intro s hp t ht X1 h1
    obtain ⟨t, rfl⟩ : ∃ u, t = u + 1 := ⟨t - 1, by omega⟩
    unfold f_X7_thinks_39
    rw [allM_v hH (by rw [h1.1 6 (by decide), h6, s7])]
    simp only [zB1_s]
    rw [if_pos (by rw [nI_ltI (by omega) (by omega)]; omega)]
    exact ⟨X1, rfl, thI_m h1 (fun p h u hT _ _ => by have := Th_lt hT; simp; omega)⟩
  | succ k ih =>
    intro s hp t ht X1 h1
    obtain ⟨t, rfl⟩ : ∃ u, t = u + 1 := ⟨t - 1, by omega⟩
    unfold f_X7_thinks_39
    rw [allM_v hH (by rw [h1.1 6 (by decide), h6, s7])]
    simp only [zB1_s]
    rw [if_neg (by rw [nI_ltI (by omega) (by omega)]; omega)]
    obtain ⟨X2, e1, e2⟩ := th49_v hN h6 s7 hH hv h0 (show s < 2 ^ H by omega) (f_X7_thinks_39 N t) H 0 (by omega) N (by omega) X1 (thI_m h1 (fun p h u _ _ _ => by omega))
    obtain ⟨X3, e3, e4⟩ := ih (s + 1) (by omega) t (by omega) X2 e2
    exact ⟨X3, e1.trans e3, e4⟩
theorem thinks_v {N : Nat} (hN : 40000 ≤ N) {M : KX} {S : Nat → Int32} {H t0 g : Nat} (h6 : M 6 = S) (s7 : S 7 = nI H) (hH : H ≤ 8) (hv : ∀ h, h < H → hV S h) (hg : g < 6) (e0 : S (41 + 5 * g) = nI t0) (h0 : t0 < 8) : ∃ M' : KX, f_X7_thinks N M (nI g) = some M' ∧ (∀ c, c ≠ 12 → M' c = M c) ∧ ∀ p, p < 256 → ∃ b, b < 256 ∧ M' 12 p = nI b ∧ ∀ u, u < 8 → (b.testBit u = true ↔ Th (ld S) H t0 p u) := by
  unfold f_X7_thinks
  have key : ∀ k v, v + k = 256 → ∀ t, k < t → ∀ X1 : KX, (∀ c, c ≠ 12 → X1 c = M c) → (∀ p, p < v → X1 12 p = nI (if p = 0 then 2 ^ t0 else 0)) → ∃ X2 : KX, f_X7_thinks_2 N t X1 (nI g) (nI v) = f_X7_thinks_39 N N X2 0 ∧ (∀ c, c ≠ 12 → X2 c = M c) ∧ (∀ p, p < 256 → X2 12 p = nI (if p = 0 then 2 ^ t0 else 0)) := by
    intro k
    induction k with
    | zero =>
      intro v hp t ht X1 h1 h2
      obtain ⟨t, rfl⟩ : ∃ u, t = u + 1 := ⟨t - 1, by omega⟩
      have e : v = 256 := by omega
      subst e
      unfold f_X7_thinks_2
      rw [if_pos (show (256 : Int32) ≤ nI 256 by decide)]
      exact ⟨X1, rfl, h1, h2⟩
    | succ k ih =>
      intro v hp t ht X1 h1 h2
      obtain ⟨t, rfl⟩ : ∃ u, t = u + 1 := ⟨t - 1, by omega⟩
      unfold f_X7_thinks_2 f_X7_thinks_30
      rw [if_neg (by rw [show (256 : Int32) = nI 256 from rfl, le_n (by omega) (by omega)]; omega), of_0 X1 hg, h1 6 (by decide), h6, e0]
      have G : ∀ (α : Type) (e : Option α), zGd (nI v) 256 e = e := fun _ e => zGd_n e (by omega) (by decide)
      simp only [G, zB1_s, zLet, nI_cl v (show v < 2 ^ 31 by omega), nIp, shl_tb t0 h0]
      have step : ∀ x : Nat, x = (if v = 0 then 2 ^ t0 else 0) → ∃ X2 : KX, f_X7_thinks_2 N t (zU X1 12 v (nI x)) (nI g) (nI (v + 1)) = f_X7_thinks_39 N N X2 0 ∧ (∀ c, c ≠ 12 → X2 c = M c) ∧ (∀ p, p < 256 → X2 12 p = nI (if p = 0 then 2 ^ t0 else 0)) := by
        intro x hx
        refine ih (v + 1) (by omega) t (by omega) _ (fun c hc => by rw [zU_o _ _ _ hc]; exact h1 c hc) (fun p hp => ?_)
        rw [zU_s]
        by_cases c : p = v
        · rw [c, up_s, hx]
        · rw [up_o _ _ c]; exact h2 p (by omega)
      by_cases c : v = 0
      · rw [if_pos (by rw [c]; rfl)]
        exact step _ (by rw [if_pos c])
      · rw [if_neg (show ¬ nI v = 0 from fun z => c (nI_inj (b := 0) (by omega) (by omega) z))]
        exact step 0 (by rw [if_neg c])
  obtain ⟨X2, e1, e2, e3⟩ := key 256 0 rfl N (by omega) M (fun _ _ => rfl) (fun p hp => by omega)
  have := p8 hH
  obtain ⟨X3, f1, f2⟩ := th39_v hN h6 s7 hH hv h0 (2 ^ H) 0 (by omega) N (by omega) X2 ⟨e2, fun v hv => ⟨if v = 0 then 2 ^ t0 else 0, by
      split
      · exact Nat.pow_lt_pow_right (n := 8) (by decide) h0
      · decide, e3 v hv, fun u hu => by
      constructor
      · intro z
        left
        by_cases c : v = 0
        · rw [if_pos c, Nat.testBit_two_pow, decide_eq_true_iff] at z
          exact ⟨c, z.symm⟩
        · rw [if_neg c, Nat.zero_testBit] at z; exact absurd z (by decide)
      · rintro (⟨z1, z2⟩ | ⟨p, h, u', z1, _⟩)
        · rw [if_pos z1, Nat.testBit_two_pow, decide_eq_true_iff]; exact z2.symm
        · exact absurd z1 (by omega)⟩⟩
  exact ⟨X3, e1.trans f1, f2.1, fun p hp => thI_at f2 hp (fun _ _ _ _ => trivial)⟩
