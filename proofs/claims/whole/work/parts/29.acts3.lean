/-! speaks -/
theorem tb_or : ∀ b, b < 64 → ∀ g, g < 6 → ∀ k, k < 6 → (b ||| 2 ^ g).testBit k = (b.testBit k || k == g) := by decide +kernel
theorem or64 : ∀ b, b < 64 → ∀ g, g < 6 → b ||| 2 ^ g < 64 := by decide +kernel
theorem cV_spk {S T : Nat → Int32} {lim q w H G ev g : Nat} (hv : cV S lim q w H G ev) (hg : g < G) (h3 : S 3 = nI g) (t3 : T 3 = -1) (t4 : T 4 = 0) (t5 : T 5 = 0 ∨ T 5 = 1) (t44 : T (44 + 5 * g) = 2) (to : ∀ j, j ≠ 3 → j ≠ 4 → j ≠ 5 → j ≠ 6 → j ≠ 44 + 5 * g → j ≠ 45 + 5 * g → T j = S j) : cV T lim q w H G 0 := by
  obtain ⟨a0, a1, a2, a7, a8, a4, a5, b1, b2, b3, b4, b5⟩ := hv
  have hG := a8.2
  have hH := a7.2
  refine ⟨by rw [to 0 (by omega) (by omega) (by omega) (by omega) (by omega) (by omega)]; exact a0, by rw [to 1 (by omega) (by omega) (by omega) (by omega) (by omega) (by omega)]; exact a1, by rw [to 2 (by omega) (by omega) (by omega) (by omega) (by omega) (by omega)]; exact a2, by rw [to 7 (by omega) (by omega) (by omega) (by omega) (by omega) (by omega)]; exact a7, by rw [to 8 (by omega) (by omega) (by omega) (by omega) (by omega) (by omega)]; exact a8, ⟨t4, Nat.two_pow_pos H, by unfold pc; omega⟩, t5, b1, b2, fun k hk => ?_, fun k hk => ?_, Or.inl ⟨t3, t4, fun k hk => ?_⟩⟩
  · unfold hV
    rw [to (9 + 4 * k) (by omega) (by omega) (by omega) (by omega) (by omega) (by omega), to (10 + 4 * k) (by omega) (by omega) (by omega) (by omega) (by omega) (by omega), to (11 + 4 * k) (by omega) (by omega) (by omega) (by omega) (by omega) (by omega)]
    exact b3 k hk
  · obtain ⟨m, fe, bo, ho, e1, e2, e3, e4, e5, e6, e7, e8, e9⟩ := b4 k hk
    by_cases c : k = g
    · subst c
      exact ⟨m, fe, bo, 2, by rw [to _ (by omega) (by omega) (by omega) (by omega) (by omega) (by omega)]; exact e1, e2, by rw [to _ (by omega) (by omega) (by omega) (by omega) (by omega) (by omega)]; exact e3, e4, by rw [to _ (by omega) (by omega) (by omega) (by omega) (by omega) (by omega)]; exact e5, e6, t44, by decide, fun z => absurd rfl z⟩
    · exact ⟨m, fe, bo, ho, by rw [to _ (by omega) (by omega) (by omega) (by omega) (by omega) (by omega)]; exact e1, e2, by rw [to _ (by omega) (by omega) (by omega) (by omega) (by omega) (by omega)]; exact e3, e4, by rw [to _ (by omega) (by omega) (by omega) (by omega) (by omega) (by omega)]; exact e5, e6, by rw [to _ (by omega) (by omega) (by omega) (by omega) (by omega) (by omega)]; exact e7, e8, fun z => by rw [to _ (by omega) (by omega) (by omega) (by omega) (by omega) (by omega)]; exact e9 z⟩
  · by_cases c : k = g
    · rw [c, t44]; decide
    · rw [to _ (by omega) (by omega) (by omega) (by omega) (by omega) (by omega)]
      rcases b5 with ⟨z1, _⟩ | ⟨g0, z0, z1, z2, z3⟩
      · rw [h3] at z1; exact absurd z1 (m1_ne g (by omega))
      · have : g0 = g := nI_inj (by omega) (by omega) (z1.symm.trans h3)
        exact fun z => c (((z3 k hk).mp z).trans this)
theorem CK_spk {X Y : KX} {S T : Nat → Int32} {H G g : Nat} (hc : CK X 7 S H G) (hH : H ≤ 8) (hG : G ≤ 6) (hg : g < G) (t3 : T 3 = -1) (t4 : T 4 = 0) (t44 : T (44 + 5 * g) = 2) (to : ∀ j, j ≠ 3 → j ≠ 4 → j ≠ 5 → j ≠ 6 → j ≠ 44 + 5 * g → j ≠ 45 + 5 * g → T j = S j) (y7 : ∀ j, j ≠ 14 → j ≠ 15 → j ≠ 16 → j ≠ 17 → j ≠ 18 → Y 7 j = X 7 j) (y14 : Y 7 14 = -1) (y16 : Y 7 16 = 0) (y17 : Y 7 17 = T 6) (y18 : Y 7 18 = T 5) (y15 : Y 7 15 = X 7 15 ||| zShl 1 (nI g)) (ya : Y 15 g = T (45 + 5 * g)) (yao : ∀ k, k ≠ g → Y 15 k = X 15 k) (yo : ∀ k, 8 ≤ k → k < 15 → Y k = X k) : CK Y 7 T H G := by
  obtain ⟨⟨a3, a1, a2, a14, a16, a18, a17, a4, a5⟩, b, d, ⟨bb, e1, e2, e3⟩, f, gg⟩ := hc
  refine ⟨⟨?_, ?_, ?_, ?_, ?_, ?_, ?_, ?_, ?_⟩, fun k hk => ?_, fun k hk => ?_, ⟨bb ||| 2 ^ g, or64 bb e1 g (by omega), ?_, fun k hk => ?_⟩, ?_, fun k hk hk2 => ?_⟩
  · rw [y7 3 (by decide) (by decide) (by decide) (by decide) (by decide), to 0 (by omega) (by omega) (by omega) (by omega) (by omega) (by omega)]; exact a3
  · rw [y7 1 (by decide) (by decide) (by decide) (by decide) (by decide), to 1 (by omega) (by omega) (by omega) (by omega) (by omega) (by omega)]; exact a1
  · rw [y7 2 (by decide) (by decide) (by decide) (by decide) (by decide), to 2 (by omega) (by omega) (by omega) (by omega) (by omega) (by omega)]; exact a2
  · rw [y14, t3]
  · rw [y16, t4]
  · exact y18
  · exact y17
  · rw [y7 4 (by decide) (by decide) (by decide) (by decide) (by decide), to 7 (by omega) (by omega) (by omega) (by omega) (by omega) (by omega)]; exact a4
  · rw [y7 5 (by decide) (by decide) (by decide) (by decide) (by decide), to 8 (by omega) (by omega) (by omega) (by omega) (by omega) (by omega)]; exact a5
  · rw [yo (7 + 1) (by omega) (by omega), yo (7 + 2) (by omega) (by omega), yo (7 + 3) (by omega) (by omega), yo (7 + 4) (by omega) (by omega), to (9 + 4 * k) (by omega) (by omega) (by omega) (by omega) (by omega) (by omega), to (10 + 4 * k) (by omega) (by omega) (by omega) (by omega) (by omega) (by omega), to (11 + 4 * k) (by omega) (by omega) (by omega) (by omega) (by omega) (by omega), to (12 + 4 * k) (by omega) (by omega) (by omega) (by omega) (by omega) (by omega)]
    exact b k hk
  · obtain ⟨q1, q2, q3, q4⟩ := d k hk
    rw [yo (7 + 5) (by omega) (by omega), yo (7 + 6) (by omega) (by omega), yo (7 + 7) (by omega) (by omega), to (41 + 5 * k) (by omega) (by omega) (by omega) (by omega) (by omega) (by omega), to (42 + 5 * k) (by omega) (by omega) (by omega) (by omega) (by omega) (by omega), to (43 + 5 * k) (by omega) (by omega) (by omega) (by omega) (by omega) (by omega)]
    refine ⟨q1, q2, q3, ?_⟩
    by_cases c : k = g
    · rw [c]; exact ya
    · rw [to _ (by omega) (by omega) (by omega) (by omega) (by omega) (by omega)]
      exact (yao k c).trans q4
  · rw [y15, e2, shl_tb g (by omega), nI_or]
  · rw [tb_or bb e1 g (by omega) k hk]
    by_cases c : k = g
    · subst c
      rw [t44]
      simp [hg]
    · have hkg : (k == g) = false := by simp [c]
      rw [hkg, Bool.or_false, e3 k hk, to _ (by omega) (by omega) (by omega) (by omega) (by omega) (by omega)]
  · rw [y7 0 (by decide) (by decide) (by decide) (by decide) (by decide), to 0 (by omega) (by omega) (by omega) (by omega) (by omega) (by omega)]; exact f
  · exact (yao k (by omega)).trans (gg k hk hk2)
theorem op_speak {N : Nat} (hN : 40000 ≤ N) : zOp_speak N Sim := by
  intro X M hS
  obtain ⟨hR, hT, hTr, hSt, hNw, hDr, hI, hA⟩ := id hS
  obtain ⟨lim, q, w, H, G, ev, hv, hc⟩ := hNw
  have hV := hv
  obtain ⟨⟨s0, hlim⟩, ⟨s1, hq⟩, ⟨s2, hw⟩, ⟨s7, hH⟩, ⟨s8, hG⟩, ⟨s4, hev, hpc⟩, a5, b1, b2, b3, b4, b5⟩ := hv
  have x14 : X 7 14 = M 6 3 := hc.1.2.2.2.1
  have x16 : X 7 16 = M 6 4 := hc.1.2.2.2.2.1
  unfold f_X6_speak f_X7_speak
  simp only [z71_0, z71_1, z71_2, z71_3, z71_4, z71_5, z71_6, z71_7, z71_8, cl_0, cl_1, cl_2, cl_3, cl_4, cl_5, cl_6, cl_7, cl_8, x14, zLet]
  rcases b5 with ⟨p3, p4, p5⟩ | ⟨g, hg, p3, p5, p6⟩
  · rw [p3]
    simp only [show ¬ (0 : Int32) ≤ -1 by decide, if_true, if_false]
    exact ⟨_, X, M, rfl, rfl, hS⟩
  have g6 : g < 6 := by omega
  rw [p3]
  simp only [m1_ne g (by omega), nI_pos' (show g < 2 ^ 31 by omega), if_true, if_false]
  obtain ⟨X1, M1, k1, k2, x1, m1, m10, fin⟩ := act_v hN hA 2 (nI g) (X 7 16)
  have hc1 : CK X1 7 (M 6) H G := CK_c (x1 7 (by omega)) (x1 8 (by omega)) (x1 9 (by omega)) (x1 10 (by omega)) (x1 11 (by omega)) (x1 12 (by omega)) (x1 13 (by omega)) (x1 14 (by omega)) (x1 15 (by omega)) hc
  have n6 : M1 6 = M 6 := m1 6 (by decide) (by decide)
  rw [k1, k2]
  have G6 : ∀ (α : Type) (e : Option α), zGd (nI g) 6 e = e := fun _ e => zGd_n e g6 (by decide)
  have cg : (nI g).toNatClampNeg = g := nI_cl g (by omega)
  obtain ⟨m, fe, bo, ho, f1, f2, f3, f4, f5, f6, f7, f8, f9⟩ := b4 g hg
  have h44 : M 6 (44 + 5 * g) = 1 := (p6 g hg).mpr rfl
  have h45 : M 6 (45 + 5 * g) = -1000000 := f9 (fun z => by rw [h44, z] at f7; exact absurd f7 (by decide))
  have y12 : X1 12 g = nI m := (hc1.2.2.1 g hg).1.trans f1
  have y715 : X1 15 g = -1000000 := (hc1.2.2.1 g hg).2.2.2.trans h45
  have y71 : X1 7 1 = nI q := hc1.1.2.1.trans s1
  have y72 : X1 7 2 = nI w := hc1.1.2.2.1.trans s2
  have y717 : X1 7 17 = M 6 6 := hc1.1.2.2.2.2.2.2.1
  have y718 : X1 7 18 = 0 := hc1.1.2.2.2.2.2.1.trans p5
  have dk := daresX_v hc1 hG hg
  have dm : f_X7_dares M1 (nI g) = _ := daresM_v (M := M1) g6
  rw [n6] at dm
  have lq : ¬ (-1000000 : Int32) = nI q := fun z => by
    have := congrArg Int32.toInt z
    rw [nI_toInt (by omega)] at this
    simp at this
  have lw : ¬ (-1000000 : Int32) = nI w := fun z => by
    have := congrArg Int32.toInt z
    rw [nI_toInt (by omega)] at this
    simp at this
  have em : ∀ a b : Nat, a < 8 → b < 8 → (nI a = nI b) = (a = b) := fun a b ha hb => nIe (by omega) (by omega)
  -- what is asked: of both sides the same
  obtain ⟨a, hea, hcases⟩ : ∃ a : Int32, a = (if (¬ M 6 (43 + 5 * g) < M 6 (42 + 5 * g)) ∧ (m = q ∨ m = w) then nI m else -1000000) ∧ (a = -1000000 ∨ ((¬ M 6 (43 + 5 * g) < M 6 (42 + 5 * g)) ∧ (m = q ∨ m = w) ∧ a = nI m)) := by
    refine ⟨_, rfl, ?_⟩
    split
    · rename_i z; exact Or.inr ⟨z.1, z.2, rfl⟩
    · exact Or.inl rfl
  have hT : ∃ M2 : KX, M2 = zU (zU (zU (zU (zU (zU M1 6 5 (if a = nI q then 1 else 0)) 6 6 (M 6 6 + (if a = nI w then 1 else 0))) 6 (44 + 5 * g) 2) 6 (45 + 5 * g) a) 6 3 (-1)) 6 4 0 := ⟨_, rfl⟩
  obtain ⟨M2, hM2⟩ := hT
  have t6 : M2 6 = upd (upd (upd (upd (upd (upd (M 6) 5 (if a = nI q then 1 else 0)) 6 (M 6 6 + (if a = nI w then 1 else 0))) (44 + 5 * g) 2) (45 + 5 * g) a) 3 (-1)) 4 0 := by
    rw [hM2, zU_s, zU_s, zU_s, zU_s, zU_s, zU_s, n6]
  have r1 : f_X7_speak_64 N M1 a (nI g) = some (a, M2) := by
    unfold f_X7_speak_64 f_X7_speak_90 f_X7_speak_114
    simp only [z71_0, z71_1, z71_2, z71_3, z71_4, z71_5, z71_6, z71_7, z71_8, cl_0, cl_1, cl_2, cl_3, cl_4, cl_5, cl_6, cl_7, cl_8, n6, s1, s2, p5, ixg3, ixg4, zG71 (show 44 + 5 * g < 71 by omega), zG71 (show 45 + 5 * g < 71 by omega), nI_cl (44 + 5 * g) (by omega), nI_cl (45 + 5 * g) (by omega), zLet]
    have u6 : ∀ v : Int32, (zU M1 6 5 v) 6 6 = M 6 6 := fun v => by rw [zU_s, up_o _ _ (by decide), n6]
    have u2 : ∀ v : Int32, (zU M1 6 5 v) 6 2 = nI w := fun v => by rw [zU_s, up_o _ _ (by decide), n6, s2]
    simp only [u6, u2]
    rw [hM2]
    by_cases c1 : a = nI q
    · by_cases c2 : a = nI w
      · simp only [c1, c2, if_true]
        rw [if_pos (c1.symm.trans c2)]
        simp only [c2.symm.trans c1, if_true]
      · simp only [c1, if_true]
        simp only [show ¬ nI q = nI w from fun z => c2 (c1.trans z), if_false]
    · by_cases c2 : a = nI w
      · simp only [c2, if_true]
        simp only [show ¬ nI w = nI q from fun z => c1 (c2.trans z), if_false]
      · simp only [c1, c2, if_false]
  have rM : (zB1 (f_X7_of M1 (nI g) 0) (fun r_3 => zB1 (f_X7_dares M1 (nI g)) (fun r_4 => if r_4 = 0 then f_X7_speak_62 N M1 (nI g) else if r_3 = M1 6 1 then f_X7_speak_58 N M1 (nI g) r_3 else if r_3 = M1 6 2 then f_X7_speak_58 N M1 (nI g) r_3 else f_X7_speak_62 N M1 (nI g)))) = some (a, M2) := by
    unfold f_X7_speak_62 f_X7_speak_58
    rw [of_0 M1 g6, n6, f1, dm, s1, s2]
    simp only [zB1_s, em m q f2 hq, em m w f2 hw]
    by_cases c0 : M 6 (43 + 5 * g) < M 6 (42 + 5 * g)
    · simp only [c0, if_true, zB1_s]
      rw [← r1, hea, if_neg (fun z => z.1 c0)]
    · simp only [c0, if_false, zB1_s, z10]
      by_cases c1 : m = q
      · rw [if_pos c1, ← r1, hea, if_pos ⟨c0, Or.inl c1⟩]
      · by_cases c2 : m = w
        · rw [if_neg c1, if_pos c2, ← r1, hea, if_pos ⟨c0, Or.inr c2⟩]
        · rw [if_neg c1, if_neg c2, ← r1, hea, if_neg (fun z => z.2.elim c1 c2)]
  have rK : ∃ Y : KX, f_X2_hear X1 (nI g) = some Y ∧ (∀ k, k ≠ 7 → k ≠ 15 → Y k = X1 k) ∧ (∀ j, j ≠ 14 → j ≠ 15 → j ≠ 16 → j ≠ 17 → j ≠ 18 → Y 7 j = X1 7 j) ∧ Y 7 14 = -1 ∧ Y 7 16 = 0 ∧ Y 7 17 = M 6 6 + (if a = nI w then 1 else 0) ∧ Y 7 18 = (if a = nI q then 1 else 0) ∧ Y 7 15 = X1 7 15 ||| zShl 1 (nI g) ∧ Y 15 g = a ∧ ∀ k, k ≠ g → Y 15 k = X1 15 k := by
    unfold f_X2_hear f_X2_hear_31 f_X2_hear_52 f_X2_hear_73
    simp only [G6, cg, y12, y71, y72, dk, zLet, em m q f2 hq, em m w f2 hw]
    have h77 : ∀ Z' : KX, ∃ Y : KX, f_X2_hear_77 Z' (nI g) = some Y ∧ (∀ k, k ≠ 7 → Y k = Z' k) ∧ (∀ j, j ≠ 14 → j ≠ 15 → j ≠ 16 → Y 7 j = Z' 7 j) ∧ Y 7 14 = -1 ∧ Y 7 16 = 0 ∧ Y 7 15 = Z' 7 15 ||| zShl 1 (nI g) := by
      intro Z'
      unfold f_X2_hear_77
      refine ⟨_, rfl, fun k hk => by rw [zU_o _ _ _ hk, zU_o _ _ _ hk, zU_o _ _ _ hk], fun j j1 j2 j3 => by rw [zU_s, up_o _ _ j3, zU_s, up_o _ _ j1, zU_s, up_o _ _ j2], rfl, rfl, rfl⟩
    have hnone : a = -1000000 → ∃ Y : KX, f_X2_hear_77 X1 (nI g) = some Y ∧ (∀ k, k ≠ 7 → k ≠ 15 → Y k = X1 k) ∧ (∀ j, j ≠ 14 → j ≠ 15 → j ≠ 16 → j ≠ 17 → j ≠ 18 → Y 7 j = X1 7 j) ∧ Y 7 14 = -1 ∧ Y 7 16 = 0 ∧ Y 7 17 = M 6 6 + (if a = nI w then 1 else 0) ∧ Y 7 18 = (if a = nI q then 1 else 0) ∧ Y 7 15 = X1 7 15 ||| zShl 1 (nI g) ∧ Y 15 g = a ∧ ∀ k, k ≠ g → Y 15 k = X1 15 k := by
      intro ha
      obtain ⟨Y, e, q1, q2, q3, q4, q5⟩ := h77 X1
      refine ⟨Y, e, fun k h1 _ => q1 k h1, fun j j1 j2 j3 j4 j5 => q2 j j1 j2 j3, q3, q4, ?_, ?_, q5, ?_, fun k hk => by rw [q1 15 (by decide)]⟩
      · rw [q2 17 (by decide) (by decide) (by decide), y717, ha, if_neg lw, Int32.add_zero]
      · rw [q2 18 (by decide) (by decide) (by decide), y718, ha, if_neg lq]
      · rw [q1 15 (by decide), y715, ha]
    have hyes : (¬ M 6 (43 + 5 * g) < M 6 (42 + 5 * g)) ∧ (m = q ∨ m = w) → ∃ Y : KX, (if m = q then zGb 1 (if m = w then f_X2_hear_77 (zU (zU (zU X1 15 g (nI m)) 7 18 1) 7 17 ((zU (zU X1 15 g (nI m)) 7 18 1) 7 17 + 1)) (nI g) else f_X2_hear_77 (zU (zU (zU X1 15 g (nI m)) 7 18 1) 7 17 ((zU (zU X1 15 g (nI m)) 7 18 1) 7 17 + 0)) (nI g)) else zGb 0 (if m = w then f_X2_hear_77 (zU (zU (zU X1 15 g (nI m)) 7 18 0) 7 17 ((zU (zU X1 15 g (nI m)) 7 18 0) 7 17 + 1)) (nI g) else f_X2_hear_77 (zU (zU (zU X1 15 g (nI m)) 7 18 0) 7 17 ((zU (zU X1 15 g (nI m)) 7 18 0) 7 17 + 0)) (nI g))) = some Y ∧ (∀ k, k ≠ 7 → k ≠ 15 → Y k = X1 k) ∧ (∀ j, j ≠ 14 → j ≠ 15 → j ≠ 16 → j ≠ 17 → j ≠ 18 → Y 7 j = X1 7 j) ∧ Y 7 14 = -1 ∧ Y 7 16 = 0 ∧ Y 7 17 = M 6 6 + (if a = nI w then 1 else 0) ∧ Y 7 18 = (if a = nI q then 1 else 0) ∧ Y 7 15 = X1 7 15 ||| zShl 1 (nI g) ∧ Y 15 g = a ∧ ∀ k, k ≠ g → Y 15 k = X1 15 k := by
      intro hz
      have ha : a = nI m := by rw [hea, if_pos hz]
      have aq : (a = nI q) = (m = q) := by rw [ha]; exact em m q f2 hq
      have aw : (a = nI w) = (m = w) := by rw [ha]; exact em m w f2 hw
      simp only [aq, aw]
      have gen : ∀ v1 v2 : Int32, (v1 = 0 ∨ v1 = 1) → ∃ Y : KX, zGb v1 (f_X2_hear_77 (zU (zU (zU X1 15 g (nI m)) 7 18 v1) 7 17 ((zU (zU X1 15 g (nI m)) 7 18 v1) 7 17 + v2)) (nI g)) = some Y ∧ (∀ k, k ≠ 7 → k ≠ 15 → Y k = X1 k) ∧ (∀ j, j ≠ 14 → j ≠ 15 → j ≠ 16 → j ≠ 17 → j ≠ 18 → Y 7 j = X1 7 j) ∧ Y 7 14 = -1 ∧ Y 7 16 = 0 ∧ Y 7 17 = M 6 6 + v2 ∧ Y 7 18 = v1 ∧ Y 7 15 = X1 7 15 ||| zShl 1 (nI g) ∧ Y 15 g = a ∧ ∀ k, k ≠ g → Y 15 k = X1 15 k := by
        intro v1 v2 hv1
        rw [zGb_ok _ hv1]
        obtain ⟨Y, e, q1, q2, q3, q4, q5⟩ := h77 (zU (zU (zU X1 15 g (nI m)) 7 18 v1) 7 17 ((zU (zU X1 15 g (nI m)) 7 18 v1) 7 17 + v2))
        refine ⟨Y, e, fun k h1 h2 => by rw [q1 k h1, zU_o _ _ _ h1, zU_o _ _ _ h1, zU_o _ _ _ h2], fun j j1 j2 j3 j4 j5 => by rw [q2 j j1 j2 j3, zU_s, up_o _ _ j4, zU_s, up_o _ _ j5]; rfl, q3, q4, ?_, ?_, q5, ?_, fun k hk => ?_⟩
        · rw [q2 17 (by decide) (by decide) (by decide)]
          show X1 7 17 + v2 = _
          rw [y717]
        · rw [q2 18 (by decide) (by decide) (by decide)]; rfl
        · rw [q1 15 (by decide), zU_o _ _ _ (by decide), zU_o _ _ _ (by decide), zU_s, up_s, ha]
        · rw [q1 15 (by decide), zU_o _ _ _ (by decide), zU_o _ _ _ (by decide), zU_s, up_o _ _ hk]
      by_cases c1 : m = q
      · by_cases c2 : m = w
        · simp only [if_pos c1, if_pos c2]; exact gen 1 1 (Or.inr rfl)
        · simp only [if_pos c1, if_neg c2]; exact gen 1 0 (Or.inr rfl)
      · by_cases c2 : m = w
        · simp only [if_neg c1, if_pos c2]; exact gen 0 1 (Or.inl rfl)
        · simp only [if_neg c1, if_neg c2]; exact gen 0 0 (Or.inl rfl)
    have v71 : (zU X1 15 g (nI m)) 7 1 = nI q := y71
    have v72 : ∀ v : Int32, (zU (zU X1 15 g (nI m)) 7 18 v) 7 2 = nI w := fun v => y72
    simp only [v71, v72, em m q f2 hq, em m w f2 hw]
    by_cases c0 : M 6 (43 + 5 * g) < M 6 (42 + 5 * g)
    · simp only [c0, if_true, zB1_s]
      exact hnone (by rw [hea, if_neg (fun z => z.1 c0)])
    · simp only [c0, if_false, zB1_s, z10]
      by_cases c1 : m = q ∨ m = w
      · have := hyes ⟨c0, c1⟩
        by_cases d1 : m = q
        · rw [if_pos d1]; exact this
        · rw [if_neg d1, if_pos (c1.resolve_left d1)]; exact this
      · rw [if_neg (fun z => c1 (Or.inl z)), if_neg (fun z => c1 (Or.inr z))]
        exact hnone (by rw [hea, if_neg (fun z => c1 z.2)])
  obtain ⟨Y, eY, yo, y7, y14, y16, y17, y18, y15, ya, yao⟩ := rK
  simp only [zB1_s, z71_0, z71_1, z71_2, z71_3, z71_4, z71_5, z71_6, z71_7, z71_8, cl_0, cl_1, cl_2, cl_3, cl_4, cl_5, cl_6, cl_7, cl_8, n6, p3]
  have rM' := rM
  rw [n6] at rM'
  rw [eY, rM']
  simp only [zB1_s, G6, cg, ya]
  have to : ∀ j, j ≠ 3 → j ≠ 4 → j ≠ 5 → j ≠ 6 → j ≠ 44 + 5 * g → j ≠ 45 + 5 * g → M2 6 j = M 6 j := fun j j1 j2 j3 j4 j5 j6 => by rw [t6, up_o _ _ j2, up_o _ _ j1, up_o _ _ j6, up_o _ _ j5, up_o _ _ j4, up_o _ _ j3]
  have w3 : M2 6 3 = -1 := by rw [t6, up_o _ _ (by decide), up_s]
  have w4 : M2 6 4 = 0 := by rw [t6, up_s]
  have w5 : M2 6 5 = (if a = nI q then 1 else 0) := by rw [t6, up_o _ _ (by decide), up_o _ _ (by decide), up_o _ _ (by omega), up_o _ _ (by omega), up_o _ _ (by decide), up_s]
  have w6 : M2 6 6 = M 6 6 + (if a = nI w then 1 else 0) := by rw [t6, up_o _ _ (by decide), up_o _ _ (by decide), up_o _ _ (by omega), up_o _ _ (by omega), up_s]
  have w44 : M2 6 (44 + 5 * g) = 2 := by rw [t6, up_o _ _ (by omega), up_o _ _ (by omega), up_o _ _ (by omega), up_s]
  have w45 : M2 6 (45 + 5 * g) = a := by rw [t6, up_o _ _ (by omega), up_o _ _ (by omega), up_s]
  have m2o : ∀ k, k ≠ 6 → M2 k = M1 k := fun k hk => by rw [hM2, zU_o _ _ _ hk, zU_o _ _ _ hk, zU_o _ _ _ hk, zU_o _ _ _ hk, zU_o _ _ _ hk, zU_o _ _ _ hk]
  refine ⟨a, Y, M2, rfl, rfl, sim_act hS (fun k hk => ?_) (fun k h1 h2 h3 => ?_) (fun i hi => ?_) ⟨lim, q, w, H, G, 0, ?_, ?_⟩ (fin _ _ (yo 43 (by decide) (by decide)) (yo 44 (by decide) (by decide)) (yo 45 (by decide) (by decide)) (yo 46 (by decide) (by decide)) (m2o 0 (by decide)) (m2o 8 (by decide)) ⟨lim, q, w, H, G, ev, hV⟩ (lim0 hV hg) (Or.inr (Or.inr (Or.inl ⟨rfl, g, G, s8, hg, hG, rfl, p3, p5, h44, h45, x16, a, (if a = nI q then 1 else 0), M 6 6 + (if a = nI w then 1 else 0), by rw [s2], ?_⟩))))⟩
  · rw [yo k (by omega) (by omega)]; exact x1 k (by omega)
  · rw [m2o k h2]; exact m1 k h1 h3
  · rw [m2o 0 (by decide)]; exact m10 i hi
  · exact cV_spk hV hg p3 w3 w4 (by rw [w5]; split; exact Or.inr rfl; exact Or.inl rfl) w44 to
  · exact CK_spk hc1 hH hG hg w3 w4 w44 to y7 y14 y16 (by rw [y17, w6]) (by rw [y18, w5]) y15 (by rw [ya, w45]) yao (fun k h1 h2 => yo k (by omega) (by omega))
  · rw [t6]; exact eS_rf _
/-! tales -/
theorem cV_tal {S T : Nat → Int32} {lim q w H G ev g v : Nat} (hv : cV S lim q w H G ev) (hg : g < G) (hv20 : v ≤ 20) (t43 : T (43 + 5 * g) = nI v) (to : ∀ j, j ≠ 43 + 5 * g → T j = S j) : cV T lim q w H G ev := by
  obtain ⟨a0, a1, a2, a7, a8, a4, a5, b1, b2, b3, b4, b5⟩ := hv
  have hG := a8.2
  have hH := a7.2
  refine ⟨by rw [to 0 (by omega)]; exact a0, by rw [to 1 (by omega)]; exact a1, by rw [to 2 (by omega)]; exact a2, by rw [to 7 (by omega)]; exact a7, by rw [to 8 (by omega)]; exact a8, by rw [to 4 (by omega)]; exact a4, by rw [to 5 (by omega)]; exact a5, b1, b2, fun k hk => ?_, fun k hk => ?_, ?_⟩
  · unfold hV
    rw [to (9 + 4 * k) (by omega), to (10 + 4 * k) (by omega), to (11 + 4 * k) (by omega)]
    exact b3 k hk
  · obtain ⟨m, fe, bo, ho, e1, e2, e3, e4, e5, e6, e7, e8, e9⟩ := b4 k hk
    by_cases c : k = g
    · subst c
      exact ⟨m, fe, v, ho, by rw [to _ (by omega)]; exact e1, e2, by rw [to _ (by omega)]; exact e3, e4, t43, hv20, by rw [to _ (by omega)]; exact e7, e8, fun z => by rw [to _ (by omega)]; exact e9 z⟩
    · exact ⟨m, fe, bo, ho, by rw [to _ (by omega)]; exact e1, e2, by rw [to _ (by omega)]; exact e3, e4, by rw [to _ (by omega)]; exact e5, e6, by rw [to _ (by omega)]; exact e7, e8, fun z => by rw [to _ (by omega)]; exact e9 z⟩
  · unfold eV at *
    rw [to 3 (by omega), to 4 (by omega), to 5 (by omega)]
    rcases b5 with ⟨z1, z2, z3⟩ | ⟨g0, z0, z1, z2, z3⟩
    · exact Or.inl ⟨z1, z2, fun k hk => by rw [to _ (by omega)]; exact z3 k hk⟩
    · exact Or.inr ⟨g0, z0, z1, z2, fun k hk => by rw [to _ (by omega)]; exact z3 k hk⟩
theorem CK_tal {X Y : KX} {S T : Nat → Int32} {H G g : Nat} (hc : CK X 7 S H G) (hH : H ≤ 8) (hG : G ≤ 6) (hg : g < G) (to : ∀ j, j ≠ 43 + 5 * g → T j = S j) (yg : Y 14 g = T (43 + 5 * g)) (ygo : ∀ k, k ≠ g → Y 14 k = X 14 k) (yo : ∀ k, 7 ≤ k → k < 16 → k ≠ 14 → Y k = X k) : CK Y 7 T H G := by
  obtain ⟨⟨a3, a1, a2, a14, a16, a18, a17, a4, a5⟩, b, d, ⟨bb, e1, e2, e3⟩, f, gg⟩ := hc
  have y7 := yo 7 (by omega) (by omega) (by omega)
  refine ⟨⟨?_, ?_, ?_, ?_, ?_, ?_, ?_, ?_, ?_⟩, fun k hk => ?_, fun k hk => ?_, ⟨bb, e1, ?_, fun k hk => ?_⟩, ?_, fun k hk hk2 => ?_⟩
  · rw [y7, to 0 (by omega)]; exact a3
  · rw [y7, to 1 (by omega)]; exact a1
  · rw [y7, to 2 (by omega)]; exact a2
  · rw [y7, to 3 (by omega)]; exact a14
  · rw [y7, to 4 (by omega)]; exact a16
  · rw [y7, to 5 (by omega)]; exact a18
  · rw [y7, to 6 (by omega)]; exact a17
  · rw [y7, to 7 (by omega)]; exact a4
  · rw [y7, to 8 (by omega)]; exact a5
  · rw [yo (7 + 1) (by omega) (by omega) (by omega), yo (7 + 2) (by omega) (by omega) (by omega), yo (7 + 3) (by omega) (by omega) (by omega), yo (7 + 4) (by omega) (by omega) (by omega), to (9 + 4 * k) (by omega), to (10 + 4 * k) (by omega), to (11 + 4 * k) (by omega), to (12 + 4 * k) (by omega)]
    exact b k hk
  · obtain ⟨q1, q2, q3, q4⟩ := d k hk
    rw [yo (7 + 5) (by omega) (by omega) (by omega), yo (7 + 6) (by omega) (by omega) (by omega), yo (7 + 8) (by omega) (by omega) (by omega), to (41 + 5 * k) (by omega), to (42 + 5 * k) (by omega), to (45 + 5 * k) (by omega)]
    refine ⟨q1, q2, ?_, q4⟩
    by_cases c : k = g
    · rw [c]; exact yg
    · rw [to _ (by omega)]
      exact (ygo k c).trans q3
  · rw [y7]; exact e2
  · rw [e3 k hk, to _ (by omega)]
  · rw [y7, to 0 (by omega)]; exact f
  · rw [yo (7 + 8) (by omega) (by omega) (by omega)]; exact gg k hk hk2
theorem tal_val : ∀ b, b < 21 → ∀ k, k < 41 → k = 20 ∨ (zMax 0 (zMin 20 (nI b + (nI k - 20))) = (if 0 ≤ nI b + (nI k - 20) then (if nI b + (nI k - 20) ≤ 20 then nI b + (nI k - 20) else 20) else 0) ∧ zMax 0 (zMin 20 (nI b + (nI k - 20))) = nI (b + k - 20 - (b + k - 40))) := by decide +kernel
theorem op_tale {N : Nat} (hN : 40000 ≤ N) : zOp_tale N Sim := by
  intro X M hS a1 a2
  obtain ⟨hR, hT, hTr, hSt, hNw, hDr, hI, hA⟩ := id hS
  obtain ⟨lim, q, w, H, G, ev, hv, hc⟩ := hNw
  have hV := hv
  obtain ⟨_, _, _, ⟨s7, hH⟩, ⟨s8, hG⟩, _, a5, b1, b2, b3, b4, b5⟩ := hv
  unfold f_X6_tale f_X7_tale f_X7_isToCome f_X7_tale_82
  rcases isGuest_v hG (hc.1.2.2.2.2.2.2.2.2.trans s8) s8 a1 with ⟨g, hg, rfl, e1, e2⟩ | ⟨e1, e2⟩
  rotate_left
  · simp only [e1, e2, zLet, zB1_s, zB2_s, z10, eq_self_iff_true, if_true, if_false]
    exact ⟨_, X, M, rfl, rfl, hS⟩
  have g6 : g < 6 := by omega
  simp only [e1, e2, of_3 M g6, stateOf_v hc hG hg (b4 g hg) b5, zLet, zB1_s, zB2_s, z10, eq_self_iff_true, if_true, if_false]
  unfold f_X7_in
  by_cases c1 : a2 < -20
  · simp only [c1, zLet, zB1_s, zB2_s, z10, eq_self_iff_true, if_true, if_false]
    exact ⟨_, X, M, rfl, rfl, hS⟩
  by_cases c2 : 20 < a2
  · simp only [c1, c2, zLet, zB1_s, zB2_s, z10, eq_self_iff_true, if_true, if_false]
    exact ⟨_, X, M, rfl, rfl, hS⟩
  by_cases c0 : a2 = 0
  · simp only [c1, c2, c0, zLet, zB1_s, zB2_s, z10, eq_self_iff_true, if_true, if_false]
    exact ⟨_, X, M, rfl, rfl, hS⟩
  simp only [c1, c2, c0, zLet, zB1_s, zB2_s, z10, eq_self_iff_true, if_true, if_false]
  by_cases c3 : M 6 (44 + 5 * g) = 0
  rotate_left
  · simp only [c3, zLet, zB1_s, zB2_s, z10, eq_self_iff_true, if_true, if_false]
    exact ⟨_, X, M, rfl, rfl, hS⟩
  simp only [c3, show ¬ (1 : Int32) = 0 by decide, zLet, zB1_s, zB2_s, z10, eq_self_iff_true, if_true, if_false]
  obtain ⟨k, hk, rfl⟩ : ∃ k, k < 41 ∧ a2 = nI k - 20 := by
    have h1 : -20 ≤ a2.toInt := by
      have := Int32.not_lt.mp c1
      rw [Int32.le_iff_toInt_le] at this
      exact this
    have h2 : a2.toInt ≤ 20 := by
      have := Int32.not_lt.mp c2
      rw [Int32.le_iff_toInt_le] at this
      exact this
    refine ⟨(a2.toInt + 20).toNat, by omega, Int32.toInt_inj.mp ?_⟩
    rw [show (20 : Int32) = nI 20 from rfl, sub_ti (by omega) (by omega)]
    omega
  obtain ⟨m, fe, bo, ho, f1, f2, f3, f4, f5, f6, f7, f8, f9⟩ := b4 g hg
  have k20 : k ≠ 20 := fun z => c0 (by rw [z]; rfl)
  obtain ⟨v1, v2⟩ := (tal_val bo (by omega) k hk).resolve_left k20
  obtain ⟨X1, M1, k1, k2, x1, m1, m10, fin⟩ := act_v hN hA 3 (nI g) (X 14 g)
  have x14 : X 14 g = M 6 (43 + 5 * g) := (hc.2.2.1 g hg).2.2.1
  have hc1 : CK X1 7 (M 6) H G := CK_c (x1 7 (by omega)) (x1 8 (by omega)) (x1 9 (by omega)) (x1 10 (by omega)) (x1 11 (by omega)) (x1 12 (by omega)) (x1 13 (by omega)) (x1 14 (by omega)) (x1 15 (by omega)) hc
  have n6 : M1 6 = M 6 := m1 6 (by decide) (by decide)
  have y14 : X1 14 g = nI bo := (hc1.2.2.1 g hg).2.2.1.trans f5
  have G6 : ∀ (α : Type) (e : Option α), zGd (nI g) 6 e = e := fun _ e => zGd_n e g6 (by decide)
  have cg : (nI g).toNatClampNeg = g := nI_cl g (by omega)
  simp only [G6, cg]
  rw [k1, k2]
  simp only [y14, of_2 _ g6, n6, f5, ixg2, zG71 (show 43 + 5 * g < 71 by omega), nI_cl (43 + 5 * g) (by omega), zU_s, up_s, zLet, zB1_s, zB2_s, z10, eq_self_iff_true, if_true, if_false]
  have hres : (if 0 ≤ nI bo + (nI k - 20) then (if nI bo + (nI k - 20) ≤ 20 then some (nI bo + (nI k - 20), zU M1 6 (43 + 5 * g) (nI bo + (nI k - 20))) else some (20, zU M1 6 (43 + 5 * g) 20)) else some (0, zU M1 6 (43 + 5 * g) 0)) = some (zMax 0 (zMin 20 (nI bo + (nI k - 20))), zU M1 6 (43 + 5 * g) (zMax 0 (zMin 20 (nI bo + (nI k - 20))))) := by
    rw [v1]
    by_cases d1 : (0 : Int32) ≤ nI bo + (nI k - 20)
    · by_cases d2 : nI bo + (nI k - 20) ≤ 20
      · simp only [d1, d2, if_true]
      · simp only [d1, d2, if_true, if_false]
    · simp only [d1, if_false]
  rw [hres, v2]
  have t6 : (zU M1 6 (43 + 5 * g) (nI (bo + k - 20 - (bo + k - 40)))) 6 = upd (M 6) (43 + 5 * g) (nI (bo + k - 20 - (bo + k - 40))) := by rw [zU_s, n6]
  refine ⟨_, zU X1 14 g (nI (bo + k - 20 - (bo + k - 40))), zU M1 6 (43 + 5 * g) (nI (bo + k - 20 - (bo + k - 40))), rfl, rfl, sim_act hS (fun k hk => ?_) (fun k h1 h2 h3 => ?_) (fun i hi => ?_) ⟨lim, q, w, H, G, ev, ?_, ?_⟩ (fin _ _ rfl rfl rfl rfl rfl rfl ⟨lim, q, w, H, G, ev, hV⟩ (lim0 hV hg) (Or.inr (Or.inr (Or.inr ⟨rfl, g, G, s8, hg, hG, rfl, x14, nI (bo + k - 20 - (bo + k - 40)), ?_⟩))))⟩
  · rw [zU_o _ _ _ (by omega)]; exact x1 k (by omega)
  · rw [zU_o _ _ _ h2]; exact m1 k h1 h3
  · exact m10 i hi
  · rw [t6]
    exact cV_tal hV hg (by omega) (up_s _ _ _) (fun j hj => up_o _ _ hj)
  · rw [t6]
    exact CK_tal hc1 hH hG hg (fun j hj => up_o _ _ hj) (by rw [zU_s, up_s, up_s]) (fun k hk => by rw [zU_s, up_o _ _ hk]) (fun k h1 h2 h3 => zU_o _ _ _ h3)
  · rw [t6]; exact eS_rf _
