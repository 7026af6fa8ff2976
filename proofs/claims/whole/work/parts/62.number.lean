theorem nd {k e p : Nat} {b : Nat → Nat} (h : ¬ (e < k ∧ dg (b e))) : k ≤ e ∨ p + 3 ≤ e ∨ ¬ dg (b e) := by
  by_cases c : k ≤ e
  · exact Or.inl c
  · exact Or.inr (Or.inr fun z => h ⟨by omega, z⟩)
theorem numX {N : Nat} {X X4 M : KX} {k p v e : Nat} {b : Nat → Nat} (h : tpB X M k b) (hf : cF X4 X) (hx : X4 5 2 = nI p) (he : k ≤ e ∨ p + 3 ≤ e ∨ ¬ dg (b e)) (hp : p ≤ 120) (hpe : e ≤ 123) (t : Nat) (a1 a2 a3 : Int32) : f_X5_tellsNumber_11 N (t + 1) X4 a1 a2 a3 (nI e) = f_X5_tellsNumber_72 N X4 a1 a2 a3 (nI e) := by
  obtain ⟨h1, _, h3, h4⟩ := h
  rw [f_X5_tellsNumber_11, hf.2, h1, hx, show (3 : Int32) = nI 3 from rfl, nI_add]
  by_cases c1 : k ≤ e
  · rw [if_pos (by rw [le_n (by omega) (by omega)]; exact c1)]
  · rw [if_neg (by rw [le_n (by omega) (by omega)]; exact c1)]
    by_cases c2 : p + 3 ≤ e
    · rw [if_pos (by rw [le_n (by omega) (by omega)]; exact c2)]
    · have c3 : ¬ dg (b e) := he.elim (fun z => absurd z c1) (fun z => z.elim (fun z => absurd z c2) id)
      obtain ⟨q1, q2, q3⟩ := h4 e (by omega)
      rw [if_neg (by rw [le_n (by omega) (by omega)]; exact c2), zGd_n _ (show e < 120 by omega) (by decide), nI_cl e (by omega), hf.1 6 (by decide), q2, if_pos]
      unfold f_X5_isFigure
      unfold dg at c3
      by_cases d : b e < 48
      · rw [if_pos (by rw [show (48 : Int32) = nI 48 from rfl, nI_ltI (by omega) (by omega)]; exact d)]
      · rw [if_neg (by rw [show (48 : Int32) = nI 48 from rfl, nI_ltI (by omega) (by omega)]; exact d), if_pos (by rw [show (57 : Int32) = nI 57 from rfl, nI_ltI (by omega) (by omega)]; omega)]
theorem numG {N : Nat} {X X4 M : KX} {k p v e : Nat} {b : Nat → Nat} (h : tpB X M k b) (hf : cF X4 X) (hx : X4 5 2 = nI p) (hv : X4 5 4 = nI v) (h1 : e < k) (h2 : e < p + 3) (h3 : dg (b e)) (hp : p ≤ 120) (t : Nat) : ∃ X5 : KX, cF X5 X ∧ X5 5 2 = nI p ∧ X5 5 4 = nI (10 * v + (b e - 48)) ∧ ∀ (a1 a2 a3 : Int32), f_X5_tellsNumber_11 N (t + 1) X4 a1 a2 a3 (nI e) = f_X5_tellsNumber_11 N t X5 a1 a2 a3 (nI (e + 1)) := by
  obtain ⟨g1, _, g3, g4⟩ := h
  obtain ⟨q1, q2, q3⟩ := g4 e h1
  refine ⟨zU X4 5 4 (nI (10 * v + (b e - 48))), ⟨fun c hc => by rw [zU_o _ _ _ hc]; exact hf.1 c hc, by rw [zU_s, up_o _ _ (by decide)]; exact hf.2⟩, by rw [zU_s, up_o _ _ (by decide)]; exact hx, by rw [zU_s, up_s], fun a1 a2 a3 => ?_⟩
  unfold dg at h3
  rw [f_X5_tellsNumber_11, hf.2, g1, hx, show (3 : Int32) = nI 3 from rfl, nI_add, if_neg (by rw [le_n (by omega) (by omega)]; omega), if_neg (by rw [le_n (by omega) (by omega)]; omega), zGd_n _ (show e < 120 by omega) (by decide), zGd_n _ (show e < 120 by omega) (by decide), nI_cl e (by omega), hf.1 6 (by decide), q2, if_neg (by
    unfold f_X5_isFigure
    rw [if_neg (by rw [show (48 : Int32) = nI 48 from rfl, nI_ltI (by omega) (by omega)]; omega), if_neg (by rw [show (57 : Int32) = nI 57 from rfl, nI_ltI (by omega) (by omega)]; omega)]
    decide), hv, show (10 : Int32) = nI 10 from rfl, pk_mul, nI_add, show (48 : Int32) = nI 48 from rfl, sub_n (by omega), show v * 10 + b e - 48 = 10 * v + (b e - 48) by omega]
  simp only [zLet, nIp]
theorem num_v {N : Nat} (hN : 40000 ≤ N) {X M : KX} {k p : Nat} {b : Nat → Nat} (h : wl X M k b p) : (∃ (v e : Nat) (X4 : KX), M 0 11 = 2 ∧ M 0 12 = nI v ∧ M 0 9 = nI e ∧ e ≤ k ∧ v ≤ 99 ∧ cF X4 X ∧ X4 5 2 = nI p ∧ X4 5 4 = nI v ∧ ∀ (a1 a2 a3 : Int32), f_X5_tellsNumber N X a1 a2 a3 = (if nI v < a1 then f_X5_tellsNumber_122 N X4 else if a2 < nI v then f_X5_tellsNumber_122 N X4 else if nI v = a3 then f_X5_tellsNumber_122 N X4 else some (1, zU X4 5 2 (nI e)))) ∨ (¬ M 0 11 = 2 ∧ ∃ X4 : KX, cF X4 X ∧ X4 5 2 = nI p ∧ ∀ (a1 a2 a3 : Int32), f_X5_tellsNumber N X a1 a2 a3 = f_X5_tellsNumber_92 N X4) := by
  obtain ⟨hT, hx, h8, hk⟩ := h
  have hT' := hT
  obtain ⟨g1, g2, g3, g4⟩ := hT
  obtain ⟨m10, hpk, tk⟩ := hk
  obtain ⟨n, rfl⟩ : ∃ n, N = n + 1 + 1 + 1 + 1 := ⟨N - 4, by omega⟩
  have f0 : cF (zU X 5 4 0) X := ⟨fun c hc => zU_o _ _ _ hc, by rw [zU_s, up_o _ _ (by decide)]⟩
  have x0 : (zU X 5 4 0) 5 2 = nI p := by rw [zU_s, up_o _ _ (by decide)]; exact hx
  have v0 : (zU X 5 4 0) 5 4 = nI 0 := by rw [zU_s, up_s]; rfl
  have st : ∀ (M' : Nat) (X4 : KX) (e : Nat) (a1 a2 a3 : Int32), X4 5 2 = nI p → (e = p ∨ e = p + 3) → e ≤ 123 → f_X5_tellsNumber_72 M' X4 a1 a2 a3 (nI e) = f_X5_tellsNumber_92 M' X4 := by
    intro M' X4 e a1 a2 a3 hx4 he hle
    unfold f_X5_tellsNumber_72
    rw [hx4, show (3 : Int32) = nI 3 from rfl, nI_add]
    rcases he with rfl | rfl
    · rw [if_pos rfl]
    · rw [if_neg (fun z => by have := nI_inj (by omega) (by omega) z; omega), if_pos rfl]
  have ok : ∀ (M' : Nat) (X4 : KX) (e v : Nat) (a1 a2 a3 : Int32), X4 5 2 = nI p → X4 5 4 = nI v → (e = p + 1 ∨ e = p + 2) → e ≤ 123 → f_X5_tellsNumber_72 M' X4 a1 a2 a3 (nI e) = (if nI v < a1 then f_X5_tellsNumber_122 M' X4 else if a2 < nI v then f_X5_tellsNumber_122 M' X4 else if nI v = a3 then f_X5_tellsNumber_122 M' X4 else some (1, zU X4 5 2 (nI e))) := by
    intro M' X4 e v a1 a2 a3 hx4 hv4 he hle
    unfold f_X5_tellsNumber_72
    rw [hx4, hv4, show (3 : Int32) = nI 3 from rfl, nI_add, if_neg (fun z => by have := nI_inj (by omega) (by omega) z; omega), if_neg (fun z => by have := nI_inj (by omega) (by omega) z; omega)]
    rfl
  by_cases c0 : p < k ∧ dg (b p)
  rotate_left
  · right
    refine ⟨?_, zU X 5 4 0, f0, x0, fun a1 a2 a3 => ?_⟩
    · rcases tk with ⟨_, h2, _⟩ | ⟨_, _, _, _, h2⟩ | ⟨z1, e, h2, _⟩
      · rw [h2]; decide
      · rw [h2]; split
        · decide
        · split
          · decide
          · split <;> decide
      · exact absurd ⟨z1, h2.2.2.1 p (Nat.le_refl _) h2.1⟩ c0
    · unfold f_X5_tellsNumber
      simp only [zLet, hx]
      rw [numX (v := 0) hT' f0 x0 (nd c0) (by omega) (by omega), st _ _ _ _ _ _ x0 (Or.inl rfl) (by omega)]
  obtain ⟨r0, d0⟩ := c0
  obtain ⟨e, he, m9, m11, m12⟩ : ∃ e, rn k b p e ∧ M 0 9 = nI e ∧ M 0 11 = (if e < p + 3 then 2 else 5) ∧ M 0 12 = nI (vl b p e) := by
    rcases tk with ⟨z, _⟩ | ⟨_, z, _⟩ | ⟨_, z⟩
    · omega
    · exact absurd d0 z
    · exact z
  obtain ⟨e1, e2, e3, e4⟩ := he
  have d0' : 48 ≤ b p ∧ b p ≤ 57 := d0
  obtain ⟨X1, f1, x1, v1, s1⟩ := numG (N := n + 1 + 1 + 1 + 1) hT' f0 x0 v0 r0 (by omega) d0 (by omega) (n + 1 + 1 + 1)
  have start : ∀ a1 a2 a3, f_X5_tellsNumber (n + 1 + 1 + 1 + 1) X a1 a2 a3 = f_X5_tellsNumber_11 (n + 1 + 1 + 1 + 1) (n + 1 + 1 + 1) X1 a1 a2 a3 (nI (p + 1)) := by
    intro a1 a2 a3
    unfold f_X5_tellsNumber
    simp only [zLet, hx]
    exact s1 a1 a2 a3
  by_cases c1 : p + 1 < k ∧ dg (b (p + 1))
  rotate_left
  · have ee : e = p + 1 := by
      apply Classical.byContradiction
      intro z
      exact c1 ⟨by omega, e3 (p + 1) (by omega) (by omega)⟩
    subst ee
    left
    have hvl : vl b p (p + 1) = 10 * 0 + (b p - 48) := by unfold vl; rw [if_pos rfl]; omega
    refine ⟨10 * 0 + (b p - 48), p + 1, X1, by rw [m11, if_pos (by omega)], by rw [m12, hvl], m9, e2, by omega, f1, x1, v1, fun a1 a2 a3 => ?_⟩
    rw [start, numX (v := 0) hT' f1 x1 (nd c1) (by omega) (by omega), ok _ _ _ _ _ _ _ x1 v1 (Or.inl rfl) (by omega)]
  obtain ⟨r1, d1⟩ := c1
  have d1' : 48 ≤ b (p + 1) ∧ b (p + 1) ≤ 57 := d1
  obtain ⟨X2, f2, x2, v2, s2⟩ := numG (N := n + 1 + 1 + 1 + 1) hT' f1 x1 v1 r1 (by omega) d1 (by omega) (n + 1 + 1)
  by_cases c2 : p + 1 + 1 < k ∧ dg (b (p + 1 + 1))
  rotate_left
  · have ee : e = p + 2 := by
      apply Classical.byContradiction
      intro z
      by_cases y : e = p + 1
      · subst y
        exact e4 r1 d1
      · exact c2 ⟨by omega, e3 (p + 1 + 1) (by omega) (by omega)⟩
    subst ee
    left
    have hvl : vl b p (p + 2) = 10 * (10 * 0 + (b p - 48)) + (b (p + 1) - 48) := by unfold vl; rw [if_neg (by omega)]; omega
    refine ⟨10 * (10 * 0 + (b p - 48)) + (b (p + 1) - 48), p + 2, X2, by rw [m11, if_pos (by omega)], by rw [m12, hvl], m9, e2, by omega, f2, x2, v2, fun a1 a2 a3 => ?_⟩
    rw [start, s2, numX (v := 0) hT' f2 x2 (nd c2) (by omega) (by omega), ok _ _ _ _ _ _ _ x2 v2 (Or.inr rfl) (by omega)]
  obtain ⟨r2, d2⟩ := c2
  obtain ⟨X3, f3, x3, v3, s3⟩ := numG (N := n + 1 + 1 + 1 + 1) hT' f2 x2 v2 r2 (by omega) d2 (by omega) (n + 1)
  right
  refine ⟨?_, X3, f3, x3, fun a1 a2 a3 => ?_⟩
  · rw [m11, if_neg]
    · decide
    · intro z
      by_cases y : e = p + 1
      · subst y; exact e4 r1 d1
      · have : e = p + 1 + 1 := by omega
        subst this; exact e4 r2 d2
  · rw [start, s2, s3, numX (v := 0) hT' f3 x3 (by omega) (by omega) (by omega), st _ _ _ _ _ _ x3 (Or.inr rfl) (by omega)]
