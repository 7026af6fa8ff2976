theorem z10 : ((1 : Int32) = 0) = False := by simp
theorem sub_ti {a b : Nat} (ha : a < 2 ^ 31) (hb : b < 2 ^ 31) : (nI a - nI b).toInt = (a : Int) - b := by
  rw [Int32.toInt_sub, nI_toInt ha, nI_toInt hb]
  exact Int.bmod_eq_of_le (by omega) (by omega)
theorem sub_lt {a b c : Nat} (ha : a < 2 ^ 31) (hb : b < 2 ^ 31) (hc : c < 2 ^ 31) : nI a - nI b < nI c ↔ a < b + c := by
  rw [Int32.lt_iff_toInt_lt, sub_ti ha hb, nI_toInt hc]
  omega
theorem ix40 (r i : Nat) : (40 : Int32) * nI r + nI i = nI (40 * r + i) := by
  rw [show (40 : Int32) = nI 40 from rfl, pk_mul, nI_add]
theorem ix40' (r i : Nat) : nI r * (40 : Int32) + nI i = nI (40 * r + i) := by
  rw [show (40 : Int32) = nI 40 from rfl, pk_mul, nI_add, Nat.mul_comm]
theorem nIp (n : Nat) : nI n + 1 = nI (n + 1) := nI_1 n
/-- a part of a row, both ways -/
theorem part_v {X M : KX} {r k : Nat} (hr : r < 8) (hk : k ≤ 40) (h1 : X 4 r = nI k) (h2 : M 2 r = nI k) (a2 a3 : Int32) : (∃ i n : Nat, a2 = nI i ∧ a3 = nI n ∧ i + n ≤ k ∧ f_X4_holds X (nI r) a2 a3 = some 1 ∧ f_X7_isPart M (nI r) a2 a3 = some 1) ∨ (f_X4_holds X (nI r) a2 a3 = some 0 ∧ f_X7_isPart M (nI r) a2 a3 = some 0) := by
  unfold f_X4_holds f_X7_isPart
  by_cases c2 : a2 < 0
  · right; rw [if_pos c2, if_pos c2]; exact ⟨rfl, rfl⟩
  by_cases c3 : a3 < 0
  · right; rw [if_neg c2, if_neg c2, if_pos c3, if_pos c3]; exact ⟨rfl, rfl⟩
  obtain ⟨i, hi, rfl⟩ := nI_of c2
  obtain ⟨n, hn, rfl⟩ := nI_of c3
  rw [if_neg c2, if_neg c2, if_neg c3, if_neg c3, zGd_n _ hr (by omega), zGd_n _ hr (by omega), zGd_n _ hr (by omega), nI_cl r (by omega), h1, h2]
  by_cases c : i + n ≤ k
  · left
    refine ⟨i, n, rfl, rfl, c, ?_, ?_⟩
    · rw [if_neg (fun q => by have := (sub_lt (by omega) hn hi).mp q; omega)]
    · rw [if_neg (fun q => by have := (nI_ltI (by omega) hi).mp q; omega), if_neg (fun q => by have := (sub_lt (by omega) hi hn).mp q; omega)]
  · right
    refine ⟨?_, ?_⟩
    · rw [if_pos ((sub_lt (by omega) hn hi).mpr (by omega))]
    · by_cases c4 : k < i
      · rw [if_pos ((nI_ltI (by omega) hi).mpr c4)]
      · rw [if_neg (fun q => c4 ((nI_ltI (by omega) hi).mp q)), if_pos ((sub_lt (by omega) hi hn).mpr (by omega))]
theorem miss_v {X M : KX} {r : Nat} (hr : r < 8) (h : rwS X M) : (X 4 r = -1 ∧ f_X4_isMissing X (nI r) = some 1 ∧ f_X7_isMissing M (nI r) = some 1) ∨ ((∃ k l : Nat, X 4 r = nI k ∧ k ≤ 40 ∧ M 2 r = nI k ∧ X 3 r = nI l ∧ M 1 r = nI l ∧ l ≤ 2 ∧ ∀ i, i < k → X 2 (40 * r + i) = M 3 (40 * r + i)) ∧ f_X4_isMissing X (nI r) = some 0 ∧ f_X7_isMissing M (nI r) = some 0) := by
  unfold f_X4_isMissing f_X7_isMissing
  rw [zGd_n _ hr (by omega), zGd_n _ hr (by omega), nI_cl r (by omega)]
  rcases h r hr with ⟨h1, h2⟩ | ⟨k, l, h1, hk, h2, h3, h4, hl, h5⟩
  · left; rw [if_pos h1, if_pos h2]; exact ⟨h1, rfl, rfl⟩
  · right
    refine ⟨⟨k, l, h1, hk, h2, h3, h4, hl, h5⟩, ?_, ?_⟩
    · rw [h1, if_neg]
      intro q
      have := congrArg Int32.toInt q
      rw [nI_toInt (by omega)] at this
      simp at this
    · rw [h4, if_neg]
      intro q
      have := congrArg Int32.toInt q
      rw [nI_toInt (by omega)] at this
      simp at this
/-- rows made: the class's -/
theorem make_v {n : Nat} (hn : 40000 ≤ n) (X : KX) {r k : Nat} (hr : r < 8) (hk : k ≤ 40) : ∃ X' : KX, f_X4_make_17 n n X (nI r) (nI k) 0 = some X' ∧ (∀ c, c ≠ 2 → X' c = X c) ∧ (∀ p, 40 * r ≤ p → p < 40 * r + k → X' 2 p = 0) ∧ ∀ p, (p < 40 * r ∨ 40 * r + k ≤ p) → X' 2 p = X 2 p := by
  have h := loop_re (fun t i (Y : KX) => f_X4_make_17 n t Y (nI r) (nI k) (nI i)) k (fun i Y => (∀ c, c ≠ 2 → Y c = X c) ∧ (∀ p, 40 * r ≤ p → p < 40 * r + i → Y 2 p = 0) ∧ ∀ p, (p < 40 * r ∨ 40 * r + k ≤ p) → Y 2 p = X 2 p) (fun o => ∃ X' : KX, o = some X' ∧ (∀ c, c ≠ 2 → X' c = X c) ∧ (∀ p, 40 * r ≤ p → p < 40 * r + k → X' 2 p = 0) ∧ ∀ p, (p < 40 * r ∨ 40 * r + k ≤ p) → X' 2 p = X 2 p) ?_ ?_ k 0 X (by omega) ⟨fun _ _ => rfl, fun p h1 h2 => by omega, fun _ _ => rfl⟩ n (by omega)
  · exact h
  · intro i Y hi ⟨h1, h2, h3⟩
    refine ⟨zU Y 2 (40 * r + i) 0, ⟨fun c hc => by rw [zU_o _ _ _ hc]; exact h1 c hc, fun p p1 p2 => ?_, fun p hp => ?_⟩, fun t => ?_⟩
    · rw [zU_s]
      by_cases e : p = 40 * r + i
      · rw [e, up_s]
      · rw [up_o _ _ e]; exact h2 p p1 (by omega)
    · rw [zU_s, up_o _ _ (by omega)]; exact h3 p hp
    · show f_X4_make_17 n (t + 1) Y (nI r) (nI k) (nI i) = f_X4_make_17 n t (zU Y 2 (40 * r + i) 0) (nI r) (nI k) (nI (i + 1))
      rw [f_X4_make_17, if_neg (fun q => by have := (nI_leI (by omega) (by omega)).mp q; omega), ix40', zGd_n _ (by omega) (by omega), nI_cl _ (by omega)]
      simp only [zLet, nIp]
  · intro t Y ⟨h1, h2, h3⟩
    refine ⟨Y, ?_, h1, h2, h3⟩
    show f_X4_make_17 n (t + 1) Y (nI r) (nI k) (nI k) = some Y
    rw [f_X4_make_17, if_pos (Int32.le_refl _)]
theorem rowM_v {n : Nat} (hn : 40000 ≤ n) (X : KX) {r k : Nat} (hr : r < 8) (hk : k ≤ 40) : ∃ X' : KX, f_X7_row_52 n n X (nI r) (nI k) 0 = some (nI k, X') ∧ (∀ c, c ≠ 3 → c ≠ 0 → X' c = X c) ∧ X' 0 = upd (X 0) 4 0 ∧ (∀ p, 40 * r ≤ p → p < 40 * r + 40 → X' 3 p = 0) ∧ ∀ p, (p < 40 * r ∨ 40 * r + 40 ≤ p) → X' 3 p = X 3 p := by
  have h := loop_re (fun t i (Y : KX) => f_X7_row_52 n t Y (nI r) (nI k) (nI i)) 40 (fun i Y => (∀ c, c ≠ 3 → Y c = X c) ∧ (∀ p, 40 * r ≤ p → p < 40 * r + i → Y 3 p = 0) ∧ ∀ p, (p < 40 * r ∨ 40 * r + 40 ≤ p) → Y 3 p = X 3 p) (fun o => ∃ X' : KX, o = some (nI k, X') ∧ (∀ c, c ≠ 3 → c ≠ 0 → X' c = X c) ∧ X' 0 = upd (X 0) 4 0 ∧ (∀ p, 40 * r ≤ p → p < 40 * r + 40 → X' 3 p = 0) ∧ ∀ p, (p < 40 * r ∨ 40 * r + 40 ≤ p) → X' 3 p = X 3 p) ?_ ?_ 40 0 X (by omega) ⟨fun _ _ => rfl, fun p h1 h2 => by omega, fun _ _ => rfl⟩ n (by omega)
  · exact h
  · intro i Y hi ⟨h1, h2, h3⟩
    refine ⟨zU Y 3 (40 * r + i) 0, ⟨fun c hc => by rw [zU_o _ _ _ hc]; exact h1 c hc, fun p p1 p2 => ?_, fun p hp => ?_⟩, fun t => ?_⟩
    · rw [zU_s]
      by_cases e : p = 40 * r + i
      · rw [e, up_s]
      · rw [up_o _ _ e]; exact h2 p p1 (by omega)
    · rw [zU_s, up_o _ _ (by omega)]; exact h3 p hp
    · show f_X7_row_52 n (t + 1) Y (nI r) (nI k) (nI i) = f_X7_row_52 n t (zU Y 3 (40 * r + i) 0) (nI r) (nI k) (nI (i + 1))
      rw [f_X7_row_52, if_neg (fun q => by have := (nI_leI (a := 40) (by omega) (by omega)).mp q; omega), ix40, zGd_n _ (by omega) (by omega), nI_cl _ (by omega)]
      simp only [zLet, nIp]
  · intro t Y ⟨h1, h2, h3⟩
    refine ⟨zU Y 0 4 0, ?_, fun c c1 c2 => by rw [zU_o _ _ _ c2]; exact h1 c c1, by rw [zU_s, h1 0 (by decide)], h2, h3⟩
    show f_X7_row_52 n (t + 1) Y (nI r) (nI k) (nI 40) = some (nI k, zU Y 0 4 0)
    rw [f_X7_row_52, if_pos (show (40 : Int32) ≤ nI 40 from Int32.le_refl _)]
    rfl
theorem row_up {f : Nat → Int32} {r r' : Nat} {v : Int32} (h : r' ≠ r) : upd f r v r' = f r' := up_o _ _ h
theorem op_row {N : Nat} (hN : 40000 ≤ N) : zOp_row N Sim := by
  intro X M hS a1 a2 a3
  obtain ⟨hR, hT, hTr, hSt, hNw, hDr, ⟨hI0, hI1⟩, hA⟩ := id hS
  unfold f_X6_row f_X7_row f_X7_isRow
  rcases rg a1 8 (by decide) with ⟨r, hr, rfl⟩ | h1
  rotate_left
  · refine ⟨-1000001, X, M, ?_, ?_, hS⟩
    · rw [show f_X6_isBelow a1 8 = 0 from isBelow_f (n := 8) h1, if_pos rfl]
    · rw [show f_X7_in a1 0 7 = 0 from in_f (n := 7) h1 (by decide), if_pos rfl]
  rw [show f_X6_isBelow (nI r) 8 = 1 from isBelow_t (n := 8) hr (by decide), show f_X7_in (nI r) 0 7 = 1 from in_t (n := 7) (by omega) (by decide)]
  simp only [z10, if_false]
  rcases rg a2 3 (by decide) with ⟨l, hl, rfl⟩ | h2
  rotate_left
  · refine ⟨-1000001, X, M, ?_, ?_, hS⟩
    · rw [show f_X6_isBelow a2 3 = 0 from isBelow_f (n := 3) h2, if_pos rfl]
    · rw [show f_X7_in a2 0 2 = 0 from in_f (n := 2) h2 (by decide), if_pos rfl]
  rw [show f_X6_isBelow (nI l) 3 = 1 from isBelow_t (n := 3) hl (by decide), show f_X7_in (nI l) 0 2 = 1 from in_t (n := 2) (by omega) (by decide)]
  simp only [z10, if_false]
  by_cases c : a3 ≤ 40
  rotate_left
  · rw [if_neg c, if_neg c]
    exact ⟨-1000001, X, M, rfl, rfl, hS⟩
  rw [if_pos c, if_pos c]
  by_cases c0 : 0 ≤ a3
  rotate_left
  · rw [if_neg c0, if_neg c0]
    refine ⟨-1000010 - 4, zU X 0 10 4, zU M 0 4 4, rfl, rfl, ?_⟩
    exact ⟨rwS_c rfl rfl rfl rfl rfl rfl hR, tpS_c rfl rfl rfl rfl hT, trS_c rfl rfl rfl rfl hTr, ⟨rfl, hSt.2⟩, nwS_c (fun k h1 h2 => zU_o _ _ _ (by omega)) rfl hNw, drS_c rfl rfl rfl hDr, ⟨imS_c (fun k h1 h2 => zU_o _ _ _ (by omega)) rfl rfl hI0, imS_c (fun k h1 h2 => zU_o _ _ _ (by omega)) rfl rfl hI1⟩, acS_c rfl rfl rfl rfl rfl rfl rfl rfl hA⟩
  rw [if_pos c0, if_pos c0]
  obtain ⟨k, hk, rfl⟩ := nI_of2 (M := 40) (n := 40) (by decide) (fun q => Int32.not_le.mpr q c0) c
  unfold f_X4_make
  have G8 : ∀ (α : Type) (e : Option α), zGd (nI r) 8 e = e := fun _ e => zGd_n e hr (by decide)
  have cr : (nI r).toNatClampNeg = r := nI_cl r (by omega)
  simp only [G8, cr, zLet]
  obtain ⟨X', e1, g1, g2, g3⟩ := make_v hN (zU (zU X 3 r (nI l)) 4 r (nI k)) hr hk
  obtain ⟨M', e2, k1, k0, k2, k3⟩ := rowM_v hN (zU (zU M 1 r (nI l)) 2 r (nI k)) hr hk
  rw [e1, e2]
  refine ⟨nI k, zU X' 0 10 0, M', rfl, rfl, ?_⟩
  have q2 : (zU X' 0 10 0) 2 = X' 2 := rfl
  refine ⟨?_, tpS_c ?_ ?_ ?_ ?_ hT, trS_c ?_ ?_ ?_ ?_ hTr, ?_, nwS_c (fun j h1 h2 => ?_) ?_ hNw, drS_c ?_ ?_ ?_ hDr, ⟨imS_c (fun j h1 h2 => ?_) ?_ ?_ hI0, imS_c (fun j h1 h2 => ?_) ?_ ?_ hI1⟩, acS_c ?_ ?_ ?_ ?_ ?_ ?_ ?_ ?_ hA⟩
  · intro r' hr'
    have x4 : (zU X' 0 10 0) 4 = upd (X 4) r (nI k) := by rw [zU_o _ _ _ (by decide), g1 4 (by decide), zU_s]; rfl
    have x3 : (zU X' 0 10 0) 3 = upd (X 3) r (nI l) := by rw [zU_o _ _ _ (by decide), g1 3 (by decide), zU_o _ _ _ (by decide), zU_s]
    have m1 : M' 1 = upd (M 1) r (nI l) := by rw [k1 1 (by decide) (by decide), zU_o _ _ _ (by decide), zU_s]
    have m2 : M' 2 = upd (M 2) r (nI k) := by rw [k1 2 (by decide) (by decide), zU_s]; rfl
    rw [x4, x3, m1, m2, q2]
    by_cases e : r' = r
    · subst e
      right
      refine ⟨k, l, up_s _ _ _, hk, up_s _ _ _, up_s _ _ _, up_s _ _ _, by omega, fun i hi => ?_⟩
      rw [g2 _ (by omega) (by omega), k2 _ (by omega) (by omega)]
    · rw [up_o _ _ e, up_o _ _ e, up_o _ _ e, up_o _ _ e]
      rcases hR r' hr' with h | ⟨k', l', p1, p2, p3, p4, p5, p6, p7⟩
      · exact Or.inl h
      · refine Or.inr ⟨k', l', p1, p2, p3, p4, p5, p6, fun i hi => ?_⟩
        rw [g3 _ (by omega), k3 _ (by omega)]
        exact p7 i hi
  · rw [zU_o _ _ _ (by decide), g1 5 (by decide)]; rfl
  · rw [zU_o _ _ _ (by decide), g1 6 (by decide)]; rfl
  · rw [k0]; rfl
  · rw [k1 5 (by decide) (by decide)]; rfl
  · rw [zU_o _ _ _ (by decide), g1 49 (by decide)]; rfl
  · rw [zU_o _ _ _ (by decide), g1 50 (by decide)]; rfl
  · rw [k0]; rfl
  · rw [k1 11 (by decide) (by decide)]; rfl
  · refine ⟨?_, ?_⟩
    · rw [k0]; rfl
    · rw [k0, zU_s, g1 0 (by decide)]; exact hSt.2
  · rw [zU_o _ _ _ (by omega), g1 j (by omega), zU_o _ _ _ (by omega), zU_o _ _ _ (by omega)]
  · rw [k1 6 (by decide) (by decide)]; rfl
  · rw [zU_o _ _ _ (by decide), g1 16 (by decide)]; rfl
  · rw [zU_o _ _ _ (by decide), g1 20 (by decide)]; rfl
  · rw [zU_o _ _ _ (by decide), g1 24 (by decide)]; rfl
  · rw [zU_o _ _ _ (by omega), g1 j (by omega), zU_o _ _ _ (by omega), zU_o _ _ _ (by omega)]
  · rw [k1 10 (by decide) (by decide)]; rfl
  · rw [k1 9 (by decide) (by decide)]; rfl
  · rw [zU_o _ _ _ (by omega), g1 j (by omega), zU_o _ _ _ (by omega), zU_o _ _ _ (by omega)]
  · rw [k1 10 (by decide) (by decide)]; rfl
  · rw [k1 9 (by decide) (by decide)]; rfl
  · rw [zU_o _ _ _ (by decide), g1 43 (by decide)]; rfl
  · rw [zU_o _ _ _ (by decide), g1 43 (by decide)]; rfl
  · rw [zU_o _ _ _ (by decide), g1 44 (by decide)]; rfl
  · rw [zU_o _ _ _ (by decide), g1 45 (by decide)]; rfl
  · rw [zU_o _ _ _ (by decide), g1 46 (by decide)]; rfl
  · rw [k0]; rfl
  · rw [k1 8 (by decide) (by decide)]; rfl
  · rw [k1 6 (by decide) (by decide)]; rfl
