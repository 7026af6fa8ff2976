/-! frames -/
theorem sim_st {X M : KX} (h : Sim X M) (v : Int32) : Sim (zU X 0 10 v) (zU M 0 4 v) := by
  obtain ⟨hR, hT, hTr, hSt, hNw, hDr, ⟨hI0, hI1⟩, hA⟩ := h
  exact ⟨rwS_c rfl rfl rfl rfl rfl rfl hR, tpS_c rfl rfl rfl rfl hT, trS_c rfl rfl rfl rfl hTr, ⟨rfl, hSt.2⟩, nwS_c (fun k h1 h2 => zU_o _ _ _ (by omega)) rfl hNw, drS_c rfl rfl rfl hDr, ⟨imS_c (fun k h1 h2 => zU_o _ _ _ (by omega)) rfl rfl hI0, imS_c (fun k h1 h2 => zU_o _ _ _ (by omega)) rfl rfl hI1⟩, acS_c rfl rfl rfl rfl rfl rfl rfl rfl hA⟩
theorem sim_rows {X X' M M' : KX} (h : Sim X M) (hx : ∀ c, c ≠ 2 → c ≠ 3 → c ≠ 4 → X' c = X c) (hm : ∀ c, c ≠ 1 → c ≠ 2 → c ≠ 3 → c ≠ 4 → M' c = M c) (hr : rwS X' M') : Sim X' M' := by
  obtain ⟨hR, hT, hTr, hSt, hNw, hDr, ⟨hI0, hI1⟩, hA⟩ := h
  have gx : ∀ c, 4 < c → X' c = X c := fun c hc => hx c (by omega) (by omega) (by omega)
  have gm : ∀ c, 4 < c → M' c = M c := fun c hc => hm c (by omega) (by omega) (by omega) (by omega)
  have x0 : X' 0 = X 0 := hx 0 (by decide) (by decide) (by decide)
  have m0 : M' 0 = M 0 := hm 0 (by decide) (by decide) (by decide) (by decide)
  refine ⟨hr, tpS_c (by rw [gx 5 (by decide)]) (gx 6 (by decide)) (by rw [m0]) (gm 5 (by decide)) hT, trS_c (by rw [gx 49 (by decide)]) (gx 50 (by decide)) (by rw [m0]) (gm 11 (by decide)) hTr, stS_c (by rw [x0]) (by rw [x0]) (by rw [m0]) (by rw [m0]) hSt, nwS_c (fun k h1 h2 => gx k (by omega)) (gm 6 (by decide)) hNw, drS_c (gx 16 (by decide)) (gx 20 (by decide)) (gx 24 (by decide)) hDr, ⟨imS_c (fun k h1 h2 => gx k (by omega)) (gm 10 (by decide)) (gm 9 (by decide)) hI0, imS_c (fun k h1 h2 => gx k (by omega)) (gm 10 (by decide)) (gm 9 (by decide)) hI1⟩, acS_c (by rw [gx 43 (by decide)]) (by rw [gx 43 (by decide)]) (gx 44 (by decide)) (gx 45 (by decide)) (gx 46 (by decide)) (by rw [m0]) (gm 8 (by decide)) (gm 6 (by decide)) hA⟩
/-- cells that nobody reads ahead of writing -/
theorem sim_scr {X X' M M' : KX} (h : Sim X M) (hx : ∀ c, c ≠ 47 → c ≠ 48 → X' c = X c) (hm : ∀ c, c ≠ 4 → c ≠ 12 → c ≠ 13 → c ≠ 14 → M' c = M c) : Sim X' M' := by
  obtain ⟨hR, hT, hTr, hSt, hNw, hDr, ⟨hI0, hI1⟩, hA⟩ := h
  have gx : ∀ c, c < 47 → X' c = X c := fun c hc => hx c (by omega) (by omega)
  have gm : ∀ c, c < 12 → c ≠ 4 → M' c = M c := fun c hc h4 => hm c (by omega) (by omega) (by omega) (by omega)
  have x0 := gx 0 (by decide)
  have m0 := gm 0 (by decide) (by decide)
  exact ⟨rwS_c (gx 2 (by decide)) (gx 3 (by decide)) (gx 4 (by decide)) (gm 1 (by decide) (by decide)) (gm 2 (by decide) (by decide)) (gm 3 (by decide) (by decide)) hR, tpS_c (by rw [gx 5 (by decide)]) (gx 6 (by decide)) (by rw [m0]) (gm 5 (by decide) (by decide)) hT, trS_c (by rw [hx 49 (by decide) (by decide)]) (hx 50 (by decide) (by decide)) (by rw [m0]) (gm 11 (by decide) (by decide)) hTr, stS_c (by rw [x0]) (by rw [x0]) (by rw [m0]) (by rw [m0]) hSt, nwS_c (fun k h1 h2 => gx k (by omega)) (gm 6 (by decide) (by decide)) hNw, drS_c (gx 16 (by decide)) (gx 20 (by decide)) (gx 24 (by decide)) hDr, ⟨imS_c (fun k h1 h2 => gx k (by omega)) (gm 10 (by decide) (by decide)) (gm 9 (by decide) (by decide)) hI0, imS_c (fun k h1 h2 => gx k (by omega)) (gm 10 (by decide) (by decide)) (gm 9 (by decide) (by decide)) hI1⟩, acS_c (by rw [gx 43 (by decide)]) (by rw [gx 43 (by decide)]) (gx 44 (by decide)) (gx 45 (by decide)) (gx 46 (by decide)) (by rw [m0]) (gm 8 (by decide) (by decide)) (gm 6 (by decide) (by decide)) hA⟩
theorem bel8_t {r : Nat} (h : r < 8) : f_X6_isBelow (nI r) 8 = 1 := isBelow_t (n := 8) h (by decide)
theorem bel8_f {a : Int32} (h : a < 0 ∨ nI 8 ≤ a) : f_X6_isBelow a 8 = 0 := isBelow_f (n := 8) h
theorem isRow_t {r : Nat} (h : r < 8) : f_X7_isRow (nI r) = 1 := in_t (n := 7) (by omega) (by decide)
theorem isRow_f {a : Int32} (h : a < 0 ∨ nI 8 ≤ a) : f_X7_isRow a = 0 := in_f (n := 7) h (by decide)
theorem cut_v (l : Nat) (hl : l ≤ 2) (v : Int32) : f_X7_cut (nI l) v = (if nI l = 0 then v.toInt8.toInt32 else if nI l = 1 then v.toInt16.toInt32 else v) := by
  have s24 : zShr (zShl v 24) 24 = v.toInt8.toInt32 := by
    apply Int32.toBitVec_inj.mp
    unfold zShr zShl
    rw [show ((24 : Int32) &&& 31) = 24 from by decide]
    simp only [Int32.toBitVec_shiftRight, Int32.toBitVec_shiftLeft, Int8.toBitVec_toInt32, Int32.toBitVec_toInt8]
    rw [show (Int32.toBitVec 24).smod 32 = 24#32 by decide]
    apply BitVec.eq_of_getLsbD_eq
    intro i hi
    simp only [BitVec.sshiftRight_eq', BitVec.shiftLeft_eq', BitVec.toNat_ofNat, BitVec.getLsbD_sshiftRight, BitVec.getLsbD_shiftLeft, BitVec.getLsbD_signExtend, BitVec.getLsbD_setWidth, BitVec.msb_eq_getLsbD_last]
    simp
    by_cases c : i < 8
    · have h1 : 24 + i < 32 := by omega
      have h2 : ¬ 24 + i < 24 := by omega
      have h3 : ¬ 32 ≤ i := by omega
      simp [c, h1, h2, h3, hi]
    · have : ¬ 24 + i < 32 := by omega
      simp [c, this, hi]
  have s16 : zShr (zShl v 16) 16 = v.toInt16.toInt32 := by
    apply Int32.toBitVec_inj.mp
    unfold zShr zShl
    rw [show ((16 : Int32) &&& 31) = 16 from by decide]
    simp only [Int32.toBitVec_shiftRight, Int32.toBitVec_shiftLeft, Int16.toBitVec_toInt32, Int32.toBitVec_toInt16]
    rw [show (Int32.toBitVec 16).smod 32 = 16#32 by decide]
    apply BitVec.eq_of_getLsbD_eq
    intro i hi
    simp only [BitVec.sshiftRight_eq', BitVec.shiftLeft_eq', BitVec.toNat_ofNat, BitVec.getLsbD_sshiftRight, BitVec.getLsbD_shiftLeft, BitVec.getLsbD_signExtend, BitVec.getLsbD_setWidth, BitVec.msb_eq_getLsbD_last]
    simp
    by_cases c : i < 16
    · have h1 : 16 + i < 32 := by omega
      have h2 : ¬ 16 + i < 16 := by omega
      have h3 : ¬ 32 ≤ i := by omega
      simp [c, h1, h2, h3, hi]
    · have : ¬ 16 + i < 32 := by omega
      simp [c, this, hi]
  unfold f_X7_cut
  rw [s24, s16]
theorem op_set {N : Nat} : zOp_set N Sim := by
  intro X M hS a1 a2 a3
  unfold f_X6_set f_X7_set f_X6_found f_X6_foundNothing f_X7_found f_X7_well
  rcases rg a1 8 (by decide) with ⟨r, hr, rfl⟩ | h1
  rotate_left
  · simp only [bel8_f h1, isRow_f h1, zLet, zB1_s, zB2_s, z10, eq_self_iff_true, if_true, if_false]
    exact ⟨_, X, M, rfl, rfl, hS⟩
  simp only [bel8_t hr, isRow_t hr, zLet, zB1_s, zB2_s, z10, eq_self_iff_true, if_true, if_false]
  rcases miss_v hr hS.1 with ⟨_, e1, e2⟩ | ⟨⟨k, l, h1, hk, h2, h3, h4, hl, h5⟩, e1, e2⟩
  · simp only [e1, e2, zLet, zB1_s, zB2_s, z10, eq_self_iff_true, if_true, if_false]
    exact ⟨_, _, _, rfl, rfl, sim_st hS 1⟩
  simp only [e1, e2, zLet, zB1_s, zB2_s, z10, eq_self_iff_true, if_true, if_false]
  have G8 : ∀ (α : Type) (e : Option α), zGd (nI r) 8 e = e := fun _ e => zGd_n e hr (by decide)
  have cr : (nI r).toNatClampNeg = r := nI_cl r (by omega)
  simp only [G8, cr, h2, h4]
  have hh : f_X4_holds X (nI r) a2 1 = if f_X7_in a2 0 (nI k - 1) = 0 then some 0 else some 1 := by
    rcases part_v hr hk h1 h2 a2 1 with ⟨i, n, q1, q2, q3, q4, _⟩ | ⟨q4, q5⟩
    · have : n = 1 := nI_inj (a := n) (b := 1) (by omega) (by omega) q2.symm
      subst this
      rw [q4, q1, in1_t (by omega) (by omega)]
      rfl
    · rw [q4]
      have : a2 < 0 ∨ nI k ≤ a2 := by
        by_cases c : a2 < 0
        · exact Or.inl c
        · right
          obtain ⟨i, hi, rfl⟩ := nI_of c
          unfold f_X4_holds at q4
          rw [if_neg c, if_neg (by decide), zGd_n _ hr (by omega), cr, h1] at q4
          by_cases c2 : nI k - 1 < nI i
          · exact (nI_leI (by omega) hi).mpr (by have := (sub_lt (a := k) (b := 1) (c := i) (by omega) (by omega) hi).mp c2; omega)
          · rw [if_neg c2] at q4; simp at q4
      rw [in1_f this (by omega)]
      rfl
  rw [hh]
  rcases rg a2 k (by omega) with ⟨i, hi, rfl⟩ | h6
  rotate_left
  · simp only [in1_f h6 (show k < 2 ^ 31 by omega), zLet, zB1_s, zB2_s, z10, eq_self_iff_true, if_true, if_false]
    exact ⟨_, _, _, rfl, rfl, sim_st hS 2⟩
  simp only [in1_t hi (show k < 2 ^ 31 by omega), zLet, zB1_s, zB2_s, z10, eq_self_iff_true, if_true, if_false]
  have G3 : ∀ (α : Type) (e : Option α), zGd (nI (40 * r + i)) 320 e = e := fun _ e => zGd_n e (by omega) (by decide)
  have ci : (nI (40 * r + i)).toNatClampNeg = 40 * r + i := nI_cl _ (by omega)
  simp only [ix40, G3, ci, zU_s, up_s]
  have hput : f_X4_put X (nI r) (nI i) a3 = some (f_X7_cut (nI l) a3, zU X 2 (40 * r + i) (f_X7_cut (nI l) a3)) := by
    unfold f_X4_put f_X4_put_30
    simp only [G8, cr, h3, ix40', G3, ci, zLet]
    rw [cut_v l hl]
    by_cases c0 : nI l = 0
    · simp only [c0, if_true]
    · by_cases c1 : nI l = 1
      · simp only [c1]; rfl
      · simp only [c0, c1, if_false]
  rw [hput]
  simp only [zLet, zB1_s, zB2_s, z10, eq_self_iff_true, if_true, if_false]
  refine ⟨_, _, _, rfl, rfl, sim_st (sim_rows (X' := zU X 2 (40 * r + i) (f_X7_cut (nI l) a3)) (M' := zU M 3 (40 * r + i) (f_X7_cut (nI l) a3)) hS (fun c c2 _ _ => zU_o _ _ _ c2) (fun c _ _ c3 _ => zU_o _ _ _ c3) ?_) 0⟩
  intro r' hr'
  have x3 : (zU X 2 (40 * r + i) (f_X7_cut (nI l) a3)) 3 = X 3 := rfl
  have x4 : (zU X 2 (40 * r + i) (f_X7_cut (nI l) a3)) 4 = X 4 := rfl
  have m1 : (zU M 3 (40 * r + i) (f_X7_cut (nI l) a3)) 1 = M 1 := rfl
  have m2 : (zU M 3 (40 * r + i) (f_X7_cut (nI l) a3)) 2 = M 2 := rfl
  rw [x3, x4, m1, m2]
  rcases hS.1 r' hr' with h | ⟨k', l', p1, p2, p3, p4, p5, p6, p7⟩
  · exact Or.inl h
  · refine Or.inr ⟨k', l', p1, p2, p3, p4, p5, p6, fun j hj => ?_⟩
    rw [zU_s, zU_s]
    by_cases e : 40 * r' + j = 40 * r + i
    · rw [e, up_s, up_s]
    · rw [up_o _ _ e, up_o _ _ e]; exact p7 j hj
theorem op_drop {N : Nat} : zOp_drop N Sim := by
  intro X M hS a1
  unfold f_X6_drop f_X7_drop f_X6_found f_X6_foundNothing f_X7_found f_X7_well f_X4_remove
  rcases rg a1 8 (by decide) with ⟨r, hr, rfl⟩ | h1
  rotate_left
  · simp only [bel8_f h1, isRow_f h1, zLet, zB1_s, zB2_s, z10, eq_self_iff_true, if_true, if_false]
    exact ⟨_, X, M, rfl, rfl, hS⟩
  simp only [bel8_t hr, isRow_t hr, zLet, zB1_s, zB2_s, z10, eq_self_iff_true, if_true, if_false]
  rcases miss_v hr hS.1 with ⟨_, e1, e2⟩ | ⟨⟨k, l, h1, hk, h2, h3, h4, hl, h5⟩, e1, e2⟩
  · simp only [e1, e2, zLet, zB1_s, zB2_s, z10, eq_self_iff_true, if_true, if_false]
    exact ⟨_, _, _, rfl, rfl, sim_st hS 1⟩
  have G8 : ∀ (α : Type) (e : Option α), zGd (nI r) 8 e = e := fun _ e => zGd_n e hr (by decide)
  have cr : (nI r).toNatClampNeg = r := nI_cl r (by omega)
  have m2 : (zU M 1 r (-1000000)) 2 = M 2 := rfl
  simp only [e1, e2, G8, cr, m2, h1, h2, zLet, zB1_s, zB2_s, z10, eq_self_iff_true, if_true, if_false]
  refine ⟨_, _, _, rfl, rfl, sim_st (sim_rows (X' := zU X 4 r (-1)) (M' := zU M 1 r (-1000000)) hS (fun c _ _ c4 => zU_o _ _ _ c4) (fun c c1 _ _ _ => zU_o _ _ _ c1) ?_) 0⟩
  intro r' hr'
  have x2 : (zU X 4 r (-1)) 2 = X 2 := rfl
  have x3 : (zU X 4 r (-1)) 3 = X 3 := rfl
  have m3 : (zU M 1 r (-1000000)) 3 = M 3 := rfl
  rw [x2, x3, m2, m3, zU_s, zU_s]
  by_cases e : r' = r
  · subst e
    exact Or.inl ⟨up_s _ _ _, up_s _ _ _⟩
  · rw [up_o _ _ e, up_o _ _ e]
    exact hS.1 r' hr'
theorem copyM_v {n : Nat} (hn : 40000 ≤ n) (X : KX) {r2 j k : Nat} (hr : r2 < 8) (hk : j + k ≤ 40) : ∃ X' : KX, f_X7_copy_129 n n X (nI r2) (nI j) (nI k) 0 = some (nI k, zU X' 0 4 0) ∧ (∀ c, c ≠ 3 → X' c = X c) ∧ (∀ p, 40 * r2 + j ≤ p → p < 40 * r2 + j + k → X' 3 p = X 4 (p - (40 * r2 + j))) ∧ ∀ p, (p < 40 * r2 + j ∨ 40 * r2 + j + k ≤ p) → X' 3 p = X 3 p := by
  have h := loop_re (fun t i (Y : KX) => f_X7_copy_129 n t Y (nI r2) (nI j) (nI k) (nI i)) k (fun i Y => (∀ c, c ≠ 3 → Y c = X c) ∧ (∀ p, 40 * r2 + j ≤ p → p < 40 * r2 + j + i → Y 3 p = X 4 (p - (40 * r2 + j))) ∧ ∀ p, (p < 40 * r2 + j ∨ 40 * r2 + j + k ≤ p) → Y 3 p = X 3 p) (fun o => ∃ X' : KX, o = some (nI k, zU X' 0 4 0) ∧ (∀ c, c ≠ 3 → X' c = X c) ∧ (∀ p, 40 * r2 + j ≤ p → p < 40 * r2 + j + k → X' 3 p = X 4 (p - (40 * r2 + j))) ∧ ∀ p, (p < 40 * r2 + j ∨ 40 * r2 + j + k ≤ p) → X' 3 p = X 3 p) ?_ ?_ k 0 X (by omega) ⟨fun _ _ => rfl, fun p h1 h2 => by omega, fun _ _ => rfl⟩ n (by omega)
  · exact h
  · intro i Y hi ⟨h1, h2, h3⟩
    refine ⟨zU Y 3 (40 * r2 + j + i) (X 4 i), ⟨fun c hc => by rw [zU_o _ _ _ hc]; exact h1 c hc, fun p p1 p2 => ?_, fun p hp => ?_⟩, fun t => ?_⟩
    · rw [zU_s]
      by_cases e : p = 40 * r2 + j + i
      · rw [e, up_s, show 40 * r2 + j + i - (40 * r2 + j) = i by omega]
      · rw [up_o _ _ e]; exact h2 p p1 (by omega)
    · rw [zU_s, up_o _ _ (by omega)]; exact h3 p hp
    · show f_X7_copy_129 n (t + 1) Y (nI r2) (nI j) (nI k) (nI i) = f_X7_copy_129 n t (zU Y 3 (40 * r2 + j + i) (X 4 i)) (nI r2) (nI j) (nI k) (nI (i + 1))
      rw [f_X7_copy_129, if_neg (fun q => by have := (nI_leI (by omega) (by omega)).mp q; omega), zGd_n _ (by omega) (by omega), ix40, nI_add, zGd_n _ (by omega) (by omega), nI_cl _ (by omega), nI_cl _ (by omega), h1 4 (by decide)]
      simp only [zLet, nIp]
  · intro t Y ⟨h1, h2, h3⟩
    refine ⟨Y, ?_, h1, h2, h3⟩
    show f_X7_copy_129 n (t + 1) Y (nI r2) (nI j) (nI k) (nI k) = _
    rw [f_X7_copy_129, if_pos (Int32.le_refl _)]
    rfl
theorem copyS_v {n : Nat} (hn : 40000 ≤ n) (X : KX) {r1 i0 k : Nat} (v3 v4 : Int32) (hr : r1 < 8) (hk : i0 + k ≤ 40) : ∃ X' : KX, f_X7_copy_92 n n X (nI r1) (nI i0) v3 v4 (nI k) 0 = f_X7_copy_129 n n X' v3 v4 (nI k) 0 ∧ (∀ c, c ≠ 4 → X' c = X c) ∧ ∀ p, p < k → X' 4 p = X 3 (40 * r1 + i0 + p) := by
  have h := loop_re (fun t i (Y : KX) => f_X7_copy_92 n t Y (nI r1) (nI i0) v3 v4 (nI k) (nI i)) k (fun i Y => (∀ c, c ≠ 4 → Y c = X c) ∧ ∀ p, p < i → Y 4 p = X 3 (40 * r1 + i0 + p)) (fun o => ∃ X' : KX, o = f_X7_copy_129 n n X' v3 v4 (nI k) 0 ∧ (∀ c, c ≠ 4 → X' c = X c) ∧ ∀ p, p < k → X' 4 p = X 3 (40 * r1 + i0 + p)) ?_ ?_ k 0 X (by omega) ⟨fun _ _ => rfl, fun p h1 => by omega⟩ n (by omega)
  · exact h
  · intro i Y hi ⟨h1, h2⟩
    refine ⟨zU Y 4 i (X 3 (40 * r1 + i0 + i)), ⟨fun c hc => by rw [zU_o _ _ _ hc]; exact h1 c hc, fun p p1 => ?_⟩, fun t => ?_⟩
    · rw [zU_s]
      by_cases e : p = i
      · rw [e, up_s]
      · rw [up_o _ _ e]; exact h2 p (by omega)
    · show f_X7_copy_92 n (t + 1) Y (nI r1) (nI i0) v3 v4 (nI k) (nI i) = f_X7_copy_92 n t (zU Y 4 i (X 3 (40 * r1 + i0 + i))) (nI r1) (nI i0) v3 v4 (nI k) (nI (i + 1))
      rw [f_X7_copy_92, if_neg (fun q => by have := (nI_leI (by omega) (by omega)).mp q; omega), ix40, nI_add, zGd_n _ (by omega) (by omega), zGd_n _ (by omega) (by omega), nI_cl _ (by omega), nI_cl _ (by omega), h1 3 (by decide)]
      simp only [zLet, nIp]
  · intro t Y ⟨h1, h2⟩
    refine ⟨Y, ?_, h1, h2⟩
    show f_X7_copy_92 n (t + 1) Y (nI r1) (nI i0) v3 v4 (nI k) (nI k) = _
    rw [f_X7_copy_92, if_pos (Int32.le_refl _)]
theorem op_copy {N : Nat} (hN : 40000 ≤ N) : zOp_copy N Sim := by
  intro X M hS a1 a2 a3 a4 a5
  unfold f_X6_copy f_X7_copy f_X6_copy_43 f_X6_copy_103 f_X7_copy_33 f_X7_copy_83 f_X6_found f_X6_foundNothing f_X7_found f_X4_laneOf f_X4_carry
  rcases rg a1 8 (by decide) with ⟨r, hr, rfl⟩ | h1
  rotate_left
  · simp only [bel8_f h1, isRow_f h1, zLet, zB1_s, zB2_s, z10, eq_self_iff_true, if_true, if_false]
    exact ⟨_, X, M, rfl, rfl, hS⟩
  simp only [bel8_t hr, isRow_t hr, zLet, zB1_s, zB2_s, z10, eq_self_iff_true, if_true, if_false]
  rcases rg a3 8 (by decide) with ⟨r2, hr2, rfl⟩ | h1
  rotate_left
  · simp only [bel8_f h1, isRow_f h1, zLet, zB1_s, zB2_s, z10, eq_self_iff_true, if_true, if_false]
    exact ⟨_, X, M, rfl, rfl, hS⟩
  simp only [bel8_t hr2, isRow_t hr2, zLet, zB1_s, zB2_s, z10, eq_self_iff_true, if_true, if_false]
  rcases miss_v hr hS.1 with ⟨_, e1, e2⟩ | ⟨⟨k, l, h1, hk, h2, h3, h4, hl, h5⟩, e1, e2⟩
  · simp only [e1, e2, zLet, zB1_s, zB2_s, z10, eq_self_iff_true, if_true, if_false]
    exact ⟨_, _, _, rfl, rfl, sim_st hS 1⟩
  simp only [e1, e2, zLet, zB1_s, zB2_s, z10, eq_self_iff_true, if_true, if_false]
  rcases miss_v hr2 hS.1 with ⟨_, e1, e2⟩ | ⟨⟨k2, l2, g1, gk, g2, g3, g4, gl, g5⟩, e1, e2⟩
  · simp only [e1, e2, zLet, zB1_s, zB2_s, z10, eq_self_iff_true, if_true, if_false]
    exact ⟨_, _, _, rfl, rfl, sim_st hS 1⟩
  have G8 : ∀ (α : Type) (e : Option α), zGd (nI r) 8 e = e := fun _ e => zGd_n e hr (by decide)
  have cr : (nI r).toNatClampNeg = r := nI_cl r (by omega)
  have G82 : ∀ (α : Type) (e : Option α), zGd (nI r2) 8 e = e := fun _ e => zGd_n e hr2 (by decide)
  have cr2 : (nI r2).toNatClampNeg = r2 := nI_cl r2 (by omega)
  simp only [e1, e2, G8, cr, G82, cr2, h3, h4, g3, g4, zLet, zB1_s, zB2_s, z10, eq_self_iff_true, if_true, if_false]
  by_cases c : nI l = nI l2
  rotate_left
  · simp only [if_neg c, zLet, zB1_s, zB2_s, z10, eq_self_iff_true, if_true, if_false]
    exact ⟨_, _, _, rfl, rfl, sim_st hS 5⟩
  simp only [if_pos c, zLet, zB1_s, zB2_s, z10, eq_self_iff_true, if_true, if_false]
  rcases part_v hr hk h1 h2 a2 a5 with ⟨i, n, q1, q2, q3, q4, q5⟩ | ⟨q4, q5⟩
  rotate_left
  · simp only [q4, q5, zLet, zB1_s, zB2_s, z10, eq_self_iff_true, if_true, if_false]
    exact ⟨_, _, _, rfl, rfl, sim_st hS 2⟩
  simp only [q4, q5, zLet, zB1_s, zB2_s, z10, eq_self_iff_true, if_true, if_false]
  rcases part_v hr2 gk g1 g2 a4 a5 with ⟨j, n2, p1, p2, p3, p4, p5⟩ | ⟨p4, p5⟩
  rotate_left
  · simp only [p4, p5, zLet, zB1_s, zB2_s, z10, eq_self_iff_true, if_true, if_false]
    exact ⟨_, _, _, rfl, rfl, sim_st hS 2⟩
  simp only [p4, p5, zLet, zB1_s, zB2_s, z10, eq_self_iff_true, if_true, if_false]
  subst q1; subst q2; subst p1
  have hi31 : i + n ≤ 40 := by omega
  have e : n = n2 := by
    by_cases c9 : n2 < 2 ^ 31
    · exact nI_inj (by omega) c9 p2
    · omega
  subst e
  obtain ⟨M1, f1, f2, f3⟩ := copyS_v hN M (nI r2) (nI j) hr hi31
  obtain ⟨M2, b1, b2, b3, b4⟩ := copyM_v hN M1 hr2 (show j + n ≤ 40 by omega)
  rw [f1, b1]
  have hgc : ∀ (α : Type) (e : Option α), zGc (nI (40 * r + i)) (nI (40 * r2 + j)) (nI n) 320 320 e = e := by
    intro α e
    unfold zGc
    rw [nI_cl _ (by omega), nI_cl _ (by omega), nI_cl _ (by omega)]
    exact if_pos ⟨⟨nI_pos (by omega), nI_pos (by omega), nI_pos (by omega)⟩, by omega, by omega⟩
  have d1 : (nI (40 * r + i)).toNatClampNeg = 40 * r + i := nI_cl _ (by omega)
  have d2 : (nI (40 * r2 + j)).toNatClampNeg = 40 * r2 + j := nI_cl _ (by omega)
  have d3 : (nI n).toNatClampNeg = n := nI_cl _ (by omega)
  simp only [ix40', hgc, d1, d2, d3, zLet, zB1_s, zB2_s, z10, eq_self_iff_true, if_true, if_false]
  refine ⟨_, _, _, rfl, rfl, sim_st (sim_rows (X' := zCp X 2 2 (40 * r + i) (40 * r2 + j) n) (M' := M2) hS (fun c c2 _ _ => if_neg c2) (fun c _ _ c3 c4 => by rw [b2 c c3, f2 c c4]) ?_) 0⟩
  intro r' hr'
  have x3 : (zCp X 2 2 (40 * r + i) (40 * r2 + j) n) 3 = X 3 := rfl
  have x4 : (zCp X 2 2 (40 * r + i) (40 * r2 + j) n) 4 = X 4 := rfl
  have x2 : (zCp X 2 2 (40 * r + i) (40 * r2 + j) n) 2 = va_cpy (X 2) (X 2) (40 * r + i) (40 * r2 + j) n := rfl
  rw [x3, x4, x2, b2 1 (by decide), f2 1 (by decide), b2 2 (by decide), f2 2 (by decide)]
  rcases hS.1 r' hr' with h | ⟨k', l', p1, p2, p3, p4, p5, p6, p7⟩
  · exact Or.inl h
  · refine Or.inr ⟨k', l', p1, p2, p3, p4, p5, p6, fun q hq => ?_⟩
    unfold va_cpy
    by_cases c7 : 40 * r2 + j ≤ 40 * r' + q ∧ 40 * r' + q < 40 * r2 + j + n
    · rw [if_pos c7, b3 _ c7.1 c7.2, f3 _ (by omega)]
      have := h5 (i + (40 * r' + q - (40 * r2 + j))) (by omega)
      rw [show 40 * r + i + (40 * r' + q - (40 * r2 + j)) = 40 * r + (i + (40 * r' + q - (40 * r2 + j))) by omega]
      exact this
    · rw [if_neg c7, b4 _ (by omega), f2 3 (by decide)]
      exact p7 q hq
