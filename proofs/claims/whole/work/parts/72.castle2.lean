theorem sim_ca {X X' M M' : KX} (h : Sim X M) (hx : ∀ c, c ≠ 0 → c ≠ 5 → (c < 7 ∨ 15 < c) → c ≠ 16 → c ≠ 17 → c ≠ 18 → c ≠ 19 → c ≠ 21 → c ≠ 22 → c ≠ 23 → c ≠ 43 → X' c = X c) (x0 : X' 0 10 = X 0 10) (x09 : X' 0 9 = M' 0 7) (x5 : X' 5 1 = 0) (x16 : ∀ i, 13 < i → X' 16 i = X 16 i) (x160 : X' 16 0 = 0 ∨ X' 16 0 = 1) (hm : ∀ c, c ≠ 0 → c ≠ 6 → c ≠ 7 → M' c = M c) (m4 : M' 0 4 = M 0 4) (m20 : M' 0 20 = M 0 20) (m6 : M' 0 6 = 0) (hn : nwS X' M') (ha : acS X' M') : Sim X' M' := by
  obtain ⟨hR, hT, hTr, hSt, hNw, hDr, ⟨hI0, hI1⟩, hA⟩ := h
  obtain ⟨r1, r2, r3, r4, r5, r6, r7, r8⟩ := hDr
  have hy : ∀ c, c ≠ 0 → c ≠ 5 → c ≠ 16 → (c < 7 ∨ 15 < c) → (c < 17 ∨ 23 < c ∨ c = 20) → c ≠ 43 → X' c = X c := fun c c0 c5 c16 c7 c17 c43 => hx c c0 c5 c7 c16 (by omega) (by omega) (by omega) (by omega) (by omega) (by omega) c43
  refine ⟨rwS_c (hy 2 (by omega) (by omega) (by omega) (by omega) (by omega) (by omega)) (hy 3 (by omega) (by omega) (by omega) (by omega) (by omega) (by omega)) (hy 4 (by omega) (by omega) (by omega) (by omega) (by omega) (by omega)) (hm 1 (by decide) (by decide) (by decide)) (hm 2 (by decide) (by decide) (by decide)) (hm 3 (by decide) (by decide) (by decide)) hR, ⟨0, by omega, x5, m6, fun i hi => by omega⟩, trS_c (by rw [hy 49 (by omega) (by omega) (by omega) (by omega) (by omega) (by omega)]) (hy 50 (by omega) (by omega) (by omega) (by omega) (by omega) (by omega)) m20 (hm 11 (by decide) (by decide) (by decide)) hTr, ⟨by rw [x0, m4]; exact hSt.1, x09⟩, hn, ⟨?_, ?_, ?_, ?_, ?_, ?_, ?_, x160⟩, ⟨imS_c (fun k h1 h2 => hy k (by omega) (by omega) (by omega) (by omega) (by omega) (by omega)) (hm 10 (by decide) (by decide) (by decide)) (hm 9 (by decide) (by decide) (by decide)) hI0, imS_c (fun k h1 h2 => hy k (by omega) (by omega) (by omega) (by omega) (by omega) (by omega)) (hm 10 (by decide) (by decide) (by decide)) (hm 9 (by decide) (by decide) (by decide)) hI1⟩, ha⟩
  · rw [hy 20 (by omega) (by omega) (by omega) (by omega) (by omega) (by omega)]; exact r1
  · rw [hy 24 (by omega) (by omega) (by omega) (by omega) (by omega) (by omega)]; exact r2
  · rw [x16 14 (by decide)]; exact r3
  · rw [x16 15 (by decide)]; exact r4
  · rw [x16 16 (by decide)]; exact r5
  · rw [x16 17 (by decide)]; exact r6
  · rw [x16 18 (by decide)]; exact r7
theorem pc_0 : pc 0 = 0 := by decide
theorem told_v {X X1 M1 : KX} {h g : Nat} (hdr : drS X) (hf : dF X1 X) (hd : dI X1 M1 h g) (h4 : X1 16 4 = nI h) (h5 : X1 16 5 = nI g) : (∃ lim q w : Nat, cV (M1 7) lim q w h g 0) ∧ CK (zU (zU X1 5 1 0) 16 0 1) 16 (M1 7) h g := by
  obtain ⟨⟨q, w, lim, a1, a2, a3, a4, a5, a6, a7, a8, a9, aA, aB⟩, ⟨b1, b2, b3, b4, b5, b6, b7, b8⟩, cc, dd⟩ := hd
  obtain ⟨r1, r2, r3, r4, r5, r6, r7, r8⟩ := hdr
  refine ⟨⟨lim, q, w, ⟨a6, by omega⟩, ⟨a2, a7⟩, ⟨a4, a8⟩, ⟨b5, b7⟩, ⟨b6, b8⟩, ⟨b2, Nat.two_pow_pos h, by rw [pc_0]; omega⟩, Or.inl b3, fun z => by omega, fun _ => a9, ?_, ?_, Or.inl ⟨b1, b2, ?_⟩⟩, ⟨?_, ?_, ?_, ?_, ?_, ?_, ?_, ?_, ?_⟩, ?_, ?_, ⟨0, by omega, ?_, ?_⟩, ?_, ?_⟩
  · intro j hj
    obtain ⟨kd, f, t, z1, z2, z3, z4, z5, z6, z7, z8, z9, zA, zB, zC⟩ := cc j hj
    exact ⟨kd, f, t, z9, z1, z2, zA, z3, zB, z4, z5⟩
  · intro j hj
    obtain ⟨a, c, d, z1, z2, z3, z4, z5, z6, z7, z8, z9, zA, zB⟩ := dd j hj
    exact ⟨a, c, d, 0, z7, z1, z8, z2, z9, z3, zA, by omega, fun _ => zB⟩
  · intro j hj
    obtain ⟨a, c, d, z1, z2, z3, z4, z5, z6, z7, z8, z9, zA, zB⟩ := dd j hj
    rw [zA]; decide
  · show X1 16 3 = M1 7 0
    rw [a5, a6]
  · show X1 16 1 = M1 7 1
    rw [a1, a2]
  · show X1 16 2 = M1 7 2
    rw [a3, a4]
  · show X1 16 14 = M1 7 3
    rw [hf.2.2 14 (by omega), r3, b1]
  · show X1 16 16 = M1 7 4
    rw [hf.2.2 16 (by omega), r5, b2]
  · show X1 16 18 = M1 7 5
    rw [hf.2.2 18 (by omega), r7, b3]
  · show X1 16 17 = M1 7 6
    rw [hf.2.2 17 (by omega), r6, b4]
  · show X1 16 4 = M1 7 7
    rw [h4, b5]
  · show X1 16 5 = M1 7 8
    rw [h5, b6]
  · intro j hj
    obtain ⟨kd, f, t, z1, z2, z3, z4, z5, z6, z7, z8, z9, zA, zB, zC⟩ := cc j hj
    refine ⟨?_, ?_, ?_, ?_⟩
    · show X1 17 j = M1 7 (9 + 4 * j)
      rw [z6, z9]
    · show X1 18 j = M1 7 (10 + 4 * j)
      rw [z7, zA]
    · show X1 19 j = M1 7 (11 + 4 * j)
      rw [z8, zB]
    · show X1 20 j = M1 7 (12 + 4 * j)
      rw [hf.1 20 (by decide) (by decide) (by decide) (by decide) (by decide) (by decide) (by decide) (by decide), r1 j (by omega), zC]
  · intro j hj
    obtain ⟨a, c, d, z1, z2, z3, z4, z5, z6, z7, z8, z9, zA, zB⟩ := dd j hj
    refine ⟨?_, ?_, ?_, ?_⟩
    · show X1 21 j = M1 7 (41 + 5 * j)
      rw [z4, z7]
    · show X1 22 j = M1 7 (42 + 5 * j)
      rw [z5, z8]
    · show X1 23 j = M1 7 (43 + 5 * j)
      rw [z6, z9]
    · show X1 24 j = M1 7 (45 + 5 * j)
      rw [hf.1 24 (by decide) (by decide) (by decide) (by decide) (by decide) (by decide) (by decide) (by decide), r2 j (by omega), zB]
  · show X1 16 15 = nI 0
    rw [hf.2.2 15 (by omega), r4]; rfl
  · intro j _
    constructor
    · intro z
      exact absurd (z.symm.trans (Nat.zero_testBit j)) (by decide)
    · rintro ⟨z1, z2⟩
      obtain ⟨a, c, d, _, _, _, _, _, _, _, _, _, zA, _⟩ := dd j z1
      rw [zA] at z2
      exact absurd z2 (by decide)
  · rw [a6, if_neg (fun z => by have := nI_inj (b := 0) (by omega) (by omega) z; omega)]
    rfl
  · intro j j6 _
    show X1 24 j = -1000000
    rw [hf.1 24 (by decide) (by decide) (by decide) (by decide) (by decide) (by decide) (by decide) (by decide), r2 j j6]
theorem op_castle {N : Nat} (hN : 40000 ≤ N) : zOp_castle N Sim := by
  intro X M hS
  obtain ⟨k, hk, t1, t2, t3⟩ := hS.2.1
  obtain ⟨b, hb⟩ : ∃ b : Nat → Nat, b = fun i => (X 6 i).toNatClampNeg := ⟨_, rfl⟩
  have hb2 : ∀ i, i < k → b i < 256 ∧ X 6 i = nI (b i) ∧ M 5 i = nI (b i) := fun i hi => by
    obtain ⟨c, c1, c2, c3⟩ := t3 i hi
    have : b i = c := by rw [hb]; show (X 6 i).toNatClampNeg = c; rw [c2]; exact nI_cl c (by omega)
    rw [this]
    exact ⟨c1, c2, c3⟩
  obtain ⟨M2, e1, m2, z2⟩ := cas_z hN M 71 0 N M (by omega) (by omega) (fun _ _ => rfl) (fun j hj => by omega)
  obtain ⟨Ma, hMa⟩ : ∃ Ma : KX, Ma = zU (zU (zU M2 7 3 (-1)) 0 9 0) 0 8 (-1) := ⟨_, rfl⟩
  have ma : ∀ c, c ≠ 0 → c ≠ 7 → Ma c = M c := fun c c0 c7 => by rw [hMa, zU_o _ _ _ c0, zU_o _ _ _ c0, zU_o _ _ _ c7]; exact m2 c c7
  have ma0 : ∀ i, i ≠ 8 → i ≠ 9 → Ma 0 i = M 0 i := fun i i8 i9 => by rw [hMa, zU_s, up_o _ _ i8, zU_s, up_o _ _ i9, zU_o _ _ _ (by decide), m2 0 (by decide)]
  have tp : tpB (zU X 5 2 0) Ma k b := ⟨t1, by rw [ma0 6 (by decide) (by decide)]; exact t2, hk, fun i hi => by
    obtain ⟨y1, y2, y3⟩ := hb2 i hi
    exact ⟨y1, y2, by rw [ma 5 (by decide) (by decide)]; exact y3⟩⟩
  have a9 : Ma 0 9 = nI 0 := by rw [hMa]; rfl
  obtain ⟨M4, e4, f4, k4⟩ := adv_v hN tp (p := 0) (by omega) a9
  have a8 : M4 0 8 = -1 := by rw [f4.2 8 (by decide) (by decide) (by decide) (by decide), hMa]; rfl
  have hw : wl (zU X 5 2 0) M4 k b 0 := ⟨tpB_a tp f4, rfl, a8, k4⟩
  have m4 : ∀ c, c ≠ 0 → c ≠ 7 → M4 c = M c := fun c c0 c7 => (f4.1 c c0).trans (ma c c0 c7)
  have m40 : ∀ i, (i < 8 ∨ 12 < i) → M4 0 i = M 0 i := fun i hi => (f4.2 i (by omega) (by omega) (by omega) (by omega)).trans (ma0 i (by omega) (by omega))
  have m47 : M4 7 = upd (M2 7) 3 (-1) := by rw [f4.1 7 (by decide), hMa]; rfl
  have eM : ∃ s0 : Int32, ((s0 = 1 ∧ 0 < k ∧ b 0 = 107) ∨ (s0 = 0 ∧ ¬ (0 < k ∧ b 0 = 107))) ∧ f_X7_castle N M = f_X7_castle_65 N M4 s0 := by
    have e : f_X7_castle N M = (if (M4 0 11) = 1 then (if (M4 0 12) = 107 then (f_X7_castle_65 N M4 1) else (f_X7_castle_65 N M4 0)) else (f_X7_castle_65 N M4 0)) := by
      have : f_X7_castle N M = f_X7_castle_2 N N M (nI 0) := rfl
      rw [this, e1, f_X7_castle_2, if_pos (show (71 : Int32) ≤ nI 71 by decide)]
      simp only [z71_0, z71_1, z71_2, z71_3, z71_4, z71_5, z71_6, z71_7, z71_8, cl_0, cl_1, cl_2, cl_3, cl_4, cl_5, cl_6, cl_7, cl_8, zLet]
      rw [← hMa, e4]
      rfl
    rw [e]
    rcases let_c hw (c := 107) (by omega) with ⟨h1, h2, h3, h4, h5⟩ | ⟨h1, r, h3, h4, h5⟩
    · refine ⟨1, Or.inl ⟨rfl, h1, h2⟩, ?_⟩
      rw [if_pos h4, if_pos (show M4 0 12 = 107 from h5)]
    · refine ⟨0, Or.inr ⟨rfl, h1⟩, ?_⟩
      by_cases d : M4 0 11 = 1
      · rw [if_pos d, if_neg (show ¬ M4 0 12 = 107 from h5 d)]
      · rw [if_neg d]
  obtain ⟨s0, hs, eM⟩ := eM
  obtain ⟨X1, d1, d2⟩ := tells_v hN hw hs (fun i hi i3 => by rw [m47, up_o _ _ i3]; exact z2 i hi) (by rw [m47, up_s])
  rw [eM]
  unfold f_X6_castle
  have hS' := hS
  obtain ⟨hR, hT, hTr, hSt, hNw, hDr, ⟨hI0, hI1⟩, hA⟩ := hS'
  have hx1 : ∀ c, c ≠ 5 → (c < 16 ∨ 23 < c ∨ c = 20) → X1 c = X c := fun c c5 cc => d1.1 c c5 (by omega) (by omega) (by omega) (by omega) (by omega) (by omega) (by omega)
  rcases d2 with ⟨M1, h, g, n1, n2, n3, n4, n5, n6, n7⟩ | ⟨n1, f, kd, hf, n2, n3, M1, n4, n5, n6, n7, n8⟩
  · rw [n1, n2]
    simp only [zB2_s, zLet, z10, if_false]
    obtain ⟨⟨lim, q, w, hcv⟩, hck⟩ := told_v hDr d1 n5 n6 n7
    rw [zGb_ok _ (Or.inr rfl)]
    obtain ⟨Y, eY, hbc⟩ := become_7_16_v (zU (zU X1 5 1 0) 16 0 1) (Or.inr rfl) (Or.inl (show X1 16 18 = 0 by rw [d1.2.2 18 (by omega)]; exact hDr.2.2.2.2.2.2.1))
    have hh := hcv.2.2.2.1.2
    have hg := hcv.2.2.2.2.1.2
    have hck2 := CK_bc hbc hh hg hck
    rw [eY]
    unfold f_X0_forgetAll f_X7_castle_254
    simp only [zB1_s, zLet]
    have w1 : f_X7_isWell (zU M1 0 6 0) = 1 := well_t (show M1 0 8 = -1 from n4)
    rw [w1, if_neg (show ¬ (1 : Int32) = 0 by decide)]
    obtain ⟨M5, e5, c1, c2, c3⟩ := copies_7_6_v hN (zU M1 0 6 0) (s := 0) (d := 0) (by omega) (by omega)
    have e5 : f_X7_copies_7_6 N (zU M1 0 6 0) 0 0 = some M5 := e5
    rw [e5]
    simp only [zB1_s, z71_0, z71_1, z71_2, z71_3, z71_4, z71_5, z71_6, z71_7, z71_8, cl_0, cl_1, cl_2, cl_3, cl_4, cl_5, cl_6, cl_7, cl_8]
    have es : eS (M1 7) ((zU M5 0 16 0) 6) := fun j hj => by
      have y := c2 j hj
      rw [Nat.zero_add] at y
      exact y.symm
    have y0 : Y 0 = X 0 := by rw [hbc.1 0 (by omega)]; exact hx1 0 (by decide) (by omega)
    have yc : ∀ c, c ≠ 5 → c ≠ 16 → (c < 7 ∨ 15 < c) → (c < 16 ∨ 23 < c ∨ c = 20) → Y c = X c := fun c c5 c16 c7 cc => by
      rw [hbc.1 c (by omega), zU_o _ _ _ c16, zU_o _ _ _ c5]; exact hx1 c c5 cc
    obtain ⟨A, ff, _, hff, _, _, e44, _⟩ := hA
    refine ⟨nI g, zU Y 43 3 0, zU M5 0 16 0, ?_, ?_, sim_ca hS ?_ ?_ ?_ ?_ ?_ ?_ ?_ ?_ ?_ ?_ ?_ ?_⟩
    · have : (zU Y 43 3 0) 7 5 = nI g := by
        show Y 7 5 = nI g
        rw [hbc.2.1 5 (by omega)]; exact n7
      rw [this]
    · have : (zU M5 0 16 0) 6 8 = nI g := by rw [← es 8 (by decide)]; exact n5.2.1.2.2.2.2.2.1
      rw [this]
    · intro c q0 q5 q7 q16 q17 q18 q19 q21 q22 q23 q43
      rw [zU_o _ _ _ q43]; exact yc c q5 q16 q7 (by omega)
    · show Y 0 10 = X 0 10
      rw [y0]
    · show Y 0 9 = (zU M5 0 16 0) 0 7
      rw [y0, zU_s, up_o _ _ (by decide), c1 0 (by decide), zU_s, up_o _ _ (by decide), (n3.2.2 n4).2, m40 7 (by omega)]; exact hSt.2
    · show Y 5 1 = 0
      rw [hbc.1 5 (by omega)]; rfl
    · intro i hi
      show Y 16 i = X 16 i
      rw [hbc.1 16 (by omega), zU_s, up_o _ _ (by omega), zU_o _ _ _ (by decide)]; exact d1.2.2 i (by omega)
    · right
      show Y 16 0 = 1
      rw [hbc.1 16 (by omega)]; rfl
    · intro c q0 q6 q7
      rw [zU_o _ _ _ q0, c1 c q6, zU_o _ _ _ q0, n3.1 c q0 q7]; exact m4 c q0 q7
    · rw [zU_s, up_o _ _ (by decide), c1 0 (by decide), zU_s, up_o _ _ (by decide), n3.2.1 4 (by omega)]; exact m40 4 (by omega)
    · rw [zU_s, up_o _ _ (by decide), c1 0 (by decide), zU_s, up_o _ _ (by decide), n3.2.1 20 (by omega)]; exact m40 20 (by omega)
    · rw [zU_s, up_o _ _ (by decide), c1 0 (by decide), zU_s, up_s]
    · exact ⟨lim, q, w, h, g, 0, cV_e es hcv, CK_e es hh hg (CK_c (X := Y) rfl rfl rfl rfl rfl rfl rfl rfl rfl hck2)⟩
    · refine ⟨0, ff, by omega, hff, rfl, rfl, ?_, fun j hj => by omega⟩
      show Y 43 4 = nI ff
      rw [yc 43 (by omega) (by omega) (by omega) (by omega)]; exact e44
  · rw [n1]
    simp only [zB2_s, zLet, if_true]
    refine ⟨_, _, M1, rfl, ?_, sim_ca hS ?_ ?_ ?_ ?_ ?_ ?_ ?_ ?_ ?_ ?_ ?_ ?_⟩
    · rw [n4, show (zU (zU X1 5 1 0) 0 9 ((zU X1 5 1 0) 5 3)) 5 2 = nI f from n2]
    · intro c q0 q5 q7 q16 q17 q18 q19 q21 q22 q23 q43
      rw [zU_o _ _ _ q0, zU_o _ _ _ q5]; exact hx1 c q5 (by omega)
    · show X1 0 10 = X 0 10
      rw [hx1 0 (by decide) (by omega)]
    · show X1 5 3 = M1 0 7
      rw [n3, n8]
    · rfl
    · intro i hi
      show X1 16 i = X 16 i
      exact d1.2.2 i (by omega)
    · show X1 16 0 = 0 ∨ X1 16 0 = 1
      rw [d1.2.2 0 (by omega)]; exact hDr.2.2.2.2.2.2.2
    · intro c q0 q6 q7
      rw [n5 c q0 q7]; exact m4 c q0 q7
    · rw [n6 4 (by omega)]; exact m40 4 (by omega)
    · rw [n6 20 (by omega)]; exact m40 20 (by omega)
    · exact n7
    · refine nwS_c (fun c c1 c2 => ?_) (by rw [n5 6 (by decide) (by decide)]; exact m4 6 (by decide) (by decide)) hNw
      rw [zU_o _ _ _ (by omega), zU_o _ _ _ (by omega)]; exact hx1 c (by omega) (by omega)
    · refine acS_c ?_ ?_ ?_ ?_ ?_ ?_ ?_ ?_ hA
      · show X1 43 3 = X 43 3
        rw [hx1 43 (by decide) (by omega)]
      · show X1 43 4 = X 43 4
        rw [hx1 43 (by decide) (by omega)]
      · show X1 44 = X 44
        exact hx1 44 (by decide) (by omega)
      · show X1 45 = X 45
        exact hx1 45 (by decide) (by omega)
      · show X1 46 = X 46
        exact hx1 46 (by decide) (by omega)
      · rw [n6 16 (by omega)]; exact m40 16 (by omega)
      · rw [n5 8 (by decide) (by decide)]; exact m4 8 (by decide) (by decide)
      · rw [n5 6 (by decide) (by decide)]; exact m4 6 (by decide) (by decide)
