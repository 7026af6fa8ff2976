theorem nI_1ne : ¬ (nI 0 : Int32) = 1 := by decide
theorem m1_ne (g : Nat) (h : g < 2 ^ 31) : ¬ nI g = (-1 : Int32) := by
  intro q
  have := congrArg Int32.toInt q
  rw [nI_toInt h] at this
  simp at this
theorem pc_or : ∀ ev, ev < 256 → ∀ h, h < 8 → ev.testBit h = true ∨ pc (ev ||| 2 ^ h) = pc ev + 1 := by decide +kernel
theorem or_lt (ev h H : Nat) (h1 : ev < 2 ^ H) (h2 : h < H) : ev ||| 2 ^ h < 2 ^ H := Nat.or_lt_two_pow h1 (Nat.pow_lt_pow_right (by decide) h2)
/-! invited -/
theorem cV_inv {S T : Nat → Int32} {lim q w H G ev g : Nat} (hv : cV S lim q w H G ev) (hg : g < G) (h3 : S 3 = -1) (h44 : S (44 + 5 * g) = 0) (h5 : S 5 = 0) (t3 : T 3 = nI g) (t4 : T 4 = 0) (t44 : T (44 + 5 * g) = 1) (to : ∀ j, j ≠ 3 → j ≠ 4 → j ≠ 44 + 5 * g → T j = S j) : cV T lim q w H G 0 := by
  obtain ⟨a0, a1, a2, a7, a8, a4, a5, b1, b2, b3, b4, b5⟩ := hv
  have hG := a8.2
  have hH := a7.2
  refine ⟨by rw [to 0 (by omega) (by omega) (by omega)]; exact a0, by rw [to 1 (by omega) (by omega) (by omega)]; exact a1, by rw [to 2 (by omega) (by omega) (by omega)]; exact a2, by rw [to 7 (by omega) (by omega) (by omega)]; exact a7, by rw [to 8 (by omega) (by omega) (by omega)]; exact a8, ⟨t4, Nat.two_pow_pos H, by unfold pc; omega⟩, by rw [to 5 (by omega) (by omega) (by omega)]; exact a5, b1, b2, fun k hk => ?_, fun k hk => ?_, Or.inr ⟨g, hg, t3, by rw [to 5 (by omega) (by omega) (by omega)]; exact h5, fun k hk => ?_⟩⟩
  · unfold hV
    rw [to (9 + 4 * k) (by omega) (by omega) (by omega), to (10 + 4 * k) (by omega) (by omega) (by omega), to (11 + 4 * k) (by omega) (by omega) (by omega)]
    exact b3 k hk
  · obtain ⟨m, fe, bo, ho, e1, e2, e3, e4, e5, e6, e7, e8, e9⟩ := b4 k hk
    by_cases c : k = g
    · subst c
      refine ⟨m, fe, bo, 1, by rw [to _ (by omega) (by omega) (by omega)]; exact e1, e2, by rw [to _ (by omega) (by omega) (by omega)]; exact e3, e4, by rw [to _ (by omega) (by omega) (by omega)]; exact e5, e6, t44, by decide, fun _ => ?_⟩
      rw [to _ (by omega) (by omega) (by omega)]
      exact e9 (fun z => by rw [e7, z] at h44; exact absurd h44 (by decide))
    · refine ⟨m, fe, bo, ho, by rw [to _ (by omega) (by omega) (by omega)]; exact e1, e2, by rw [to _ (by omega) (by omega) (by omega)]; exact e3, e4, by rw [to _ (by omega) (by omega) (by omega)]; exact e5, e6, by rw [to _ (by omega) (by omega) (by omega)]; exact e7, e8, fun z => by rw [to _ (by omega) (by omega) (by omega)]; exact e9 z⟩
  · by_cases c : k = g
    · subst c
      exact ⟨fun _ => rfl, fun _ => t44⟩
    · rw [to _ (by omega) (by omega) (by omega)]
      refine ⟨fun z => ?_, fun z => absurd z c⟩
      rcases b5 with ⟨_, _, z3⟩ | ⟨g0, z0, z1, _⟩
      · exact absurd z (z3 k hk)
      · rw [h3] at z1
        exact absurd z1.symm (m1_ne g0 (by omega))
theorem CK_inv {X Y : KX} {S T : Nat → Int32} {H G g : Nat} (hc : CK X 7 S H G) (hH : H ≤ 8) (hG : G ≤ 6) (hg : g < G) (h44 : S (44 + 5 * g) = 0) (h4 : S 4 = 0) (t3 : T 3 = nI g) (t4 : T 4 = 0) (t44 : T (44 + 5 * g) = 1) (to : ∀ j, j ≠ 3 → j ≠ 4 → j ≠ 44 + 5 * g → T j = S j) (y7 : ∀ j, j ≠ 14 → Y 7 j = X 7 j) (y14 : Y 7 14 = nI g) (yo : ∀ k, 8 ≤ k → k < 16 → Y k = X k) : CK Y 7 T H G := by
  obtain ⟨⟨a3, a1, a2, a14, a16, a18, a17, a4, a5⟩, b, d, ⟨bb, e1, e2, e3⟩, f, gg⟩ := hc
  refine ⟨⟨?_, ?_, ?_, ?_, ?_, ?_, ?_, ?_, ?_⟩, fun k hk => ?_, fun k hk => ?_, ⟨bb, e1, ?_, fun k hk => ?_⟩, ?_, fun k hk hk2 => ?_⟩
  · rw [y7 3 (by decide), to 0 (by omega) (by omega) (by omega)]; exact a3
  · rw [y7 1 (by decide), to 1 (by omega) (by omega) (by omega)]; exact a1
  · rw [y7 2 (by decide), to 2 (by omega) (by omega) (by omega)]; exact a2
  · rw [y14, t3]
  · rw [y7 16 (by decide), t4, a16]; exact h4
  · rw [y7 18 (by decide), to 5 (by omega) (by omega) (by omega)]; exact a18
  · rw [y7 17 (by decide), to 6 (by omega) (by omega) (by omega)]; exact a17
  · rw [y7 4 (by decide), to 7 (by omega) (by omega) (by omega)]; exact a4
  · rw [y7 5 (by decide), to 8 (by omega) (by omega) (by omega)]; exact a5
  · rw [yo (7 + 1) (by omega) (by omega), yo (7 + 2) (by omega) (by omega), yo (7 + 3) (by omega) (by omega), yo (7 + 4) (by omega) (by omega), to (9 + 4 * k) (by omega) (by omega) (by omega), to (10 + 4 * k) (by omega) (by omega) (by omega), to (11 + 4 * k) (by omega) (by omega) (by omega), to (12 + 4 * k) (by omega) (by omega) (by omega)]
    exact b k hk
  · rw [yo (7 + 5) (by omega) (by omega), yo (7 + 6) (by omega) (by omega), yo (7 + 7) (by omega) (by omega), yo (7 + 8) (by omega) (by omega), to (41 + 5 * k) (by omega) (by omega) (by omega), to (42 + 5 * k) (by omega) (by omega) (by omega), to (43 + 5 * k) (by omega) (by omega) (by omega), to (45 + 5 * k) (by omega) (by omega) (by omega)]
    exact d k hk
  · rw [y7 15 (by decide)]; exact e2
  · rw [e3 k hk]
    by_cases c : k = g
    · subst c
      rw [t44, h44]
      exact ⟨fun z => absurd z.2 (by decide), fun z => absurd z.2 (by decide)⟩
    · rw [to _ (by omega) (by omega) (by omega)]
  · rw [y7 0 (by decide), to 0 (by omega) (by omega) (by omega)]; exact f
  · rw [yo (7 + 8) (by omega) (by omega)]; exact gg k hk hk2
theorem ixg3 (g : Nat) : (41 : Int32) + 5 * nI g + 3 = nI (44 + 5 * g) := by rw [show (3 : Int32) = nI 3 from rfl, ixg, show 41 + 5 * g + 3 = 44 + 5 * g by omega]
theorem ixg4 (g : Nat) : (41 : Int32) + 5 * nI g + 4 = nI (45 + 5 * g) := by rw [show (4 : Int32) = nI 4 from rfl, ixg, show 41 + 5 * g + 4 = 45 + 5 * g by omega]
theorem ixg2 (g : Nat) : (41 : Int32) + 5 * nI g + 2 = nI (43 + 5 * g) := by rw [show (2 : Int32) = nI 2 from rfl, ixg, show 41 + 5 * g + 2 = 43 + 5 * g by omega]
theorem ixg0 (g : Nat) : (41 : Int32) + 5 * nI g + 0 = nI (41 + 5 * g) := ixg g 0
theorem zG71 {k : Nat} (h : k < 71) (α : Type) (e : Option α) : zGd (nI k) 71 e = e := zGd_n e h (by decide)
theorem lim0 {S : Nat → Int32} {lim q w H G ev g : Nat} (hv : cV S lim q w H G ev) (hg : g < G) : ¬ S 0 = 0 := by
  obtain ⟨a0, a1, a2, a7, a8, a4, a5, b1, b2, b3, b4, b5⟩ := hv
  intro z
  rw [a0.1] at z
  have := nI_inj (a := lim) (b := 0) (by omega) (by omega) z
  have := (b1 this).2
  omega
theorem op_invite {N : Nat} (hN : 40000 ≤ N) : zOp_invite N Sim := by
  intro X M hS a1
  obtain ⟨hR, hT, hTr, hSt, hNw, hDr, hI, hA⟩ := id hS
  obtain ⟨lim, q, w, H, G, ev, hv, hc⟩ := hNw
  have hV := hv
  obtain ⟨a0, a1', a2, ⟨s7, hH⟩, ⟨s8, hG⟩, a4, a5, b1, b2, b3, b4, b5⟩ := hv
  unfold f_X6_invite f_X7_invite f_X7_isToCome
  rcases isGuest_v hG (hc.1.2.2.2.2.2.2.2.2.trans s8) s8 a1 with ⟨g, hg, rfl, e1, e2⟩ | ⟨e1, e2⟩
  rotate_left
  · simp only [e1, e2, zLet, zB1_s, zB2_s, z10, eq_self_iff_true, if_true, if_false]
    exact ⟨_, X, M, rfl, rfl, hS⟩
  have g6 : g < 6 := by omega
  have x14 : X 7 14 = M 6 3 := hc.1.2.2.2.1
  have x18 : X 7 18 = M 6 5 := hc.1.2.2.2.2.2.1
  simp only [e1, e2, z71_0, z71_1, z71_2, z71_3, z71_4, z71_5, z71_6, z71_7, z71_8, cl_0, cl_1, cl_2, cl_3, cl_4, cl_5, cl_6, cl_7, cl_8, x14, x18, stateOf_v hc hG hg (b4 g hg) b5, of_3 M g6, zLet, zB1_s, zB2_s, z10, eq_self_iff_true, if_true, if_false]
  rcases b5 with ⟨p3, p4, p5⟩ | ⟨g0, p0, p3, _⟩
  rotate_left
  · rw [p3]
    simp only [m1_ne g0 (by omega), nI_pos' (show g0 < 2 ^ 31 by omega), if_true, if_false]
    exact ⟨_, X, M, rfl, rfl, hS⟩
  rw [p3]
  simp only [show ¬ (0 : Int32) ≤ -1 by decide, if_true, if_false]
  obtain ⟨m, fe, bo, ho, f1, f2, f3, f4, f5, f6, f7, f8, f9⟩ := b4 g hg
  have hn1 : ho ≠ 1 := fun z => p5 g hg (by rw [f7, z]; rfl)
  by_cases c2 : ho = 2
  · rw [f7, c2]
    simp only [show (nI 2 : Int32) = 2 from rfl, show ¬ (2 : Int32) = 0 by decide, zLet, zB1_s, zB2_s, z10, eq_self_iff_true, if_true, if_false]
    exact ⟨_, X, M, rfl, rfl, hS⟩
  have h0 : ho = 0 := by omega
  have s44 : M 6 (44 + 5 * g) = 0 := by rw [f7, h0]; rfl
  rw [s44]
  simp only [show ¬ (0 : Int32) = 2 by decide, show ¬ (1 : Int32) = 0 by decide, zLet, zB1_s, zB2_s, z10, eq_self_iff_true, if_true, if_false]
  rcases a5 with s5 | s5
  rotate_left
  · rw [s5]
    simp only [show ¬ (1 : Int32) = 0 by decide, zLet, zB1_s, zB2_s, z10, eq_self_iff_true, if_true, if_false]
    exact ⟨_, X, M, rfl, rfl, hS⟩
  rw [s5]
  simp only [show ¬ (0 : Int32) = 1 by decide, zLet, zB1_s, zB2_s, z10, eq_self_iff_true, if_true, if_false]
  obtain ⟨X1, M1, k1, k2, x1, m1, m10, fin⟩ := act_v hN hA 0 (nI g) 0
  rw [k1, k2]
  unfold f_X2_receive
  have G6 : ∀ (α : Type) (e : Option α), zGd (nI g) 6 e = e := fun _ e => zGd_n e g6 (by decide)
  have cg : (nI g).toNatClampNeg = g := nI_cl g (by omega)
  simp only [z71_0, z71_1, z71_2, z71_3, z71_4, z71_5, z71_6, z71_7, z71_8, cl_0, cl_1, cl_2, cl_3, cl_4, cl_5, cl_6, cl_7, cl_8, ixg3, zG71 (show 44 + 5 * g < 71 by omega), nI_cl (44 + 5 * g) (by omega), G6, cg, of_0 _ g6, zLet, zB1_s, zB2_s, z10, eq_self_iff_true, if_true, if_false]
  have t6 : (zU (zU (zU M1 6 3 (nI g)) 6 4 0) 6 (44 + 5 * g) 1) 6 = upd (upd (upd (M 6) 3 (nI g)) 4 0) (44 + 5 * g) 1 := by
    rw [zU_s, zU_s, zU_s, m1 6 (by decide) (by decide)]
  refine ⟨M 6 (41 + 5 * g), zU X1 7 14 (nI g), zU (zU (zU M1 6 3 (nI g)) 6 4 0) 6 (44 + 5 * g) 1, ?_, ?_, sim_act hS (fun k hk => ?_) (fun k h1 h2 h3 => ?_) (fun i hi => ?_) ⟨lim, q, w, H, G, 0, ?_, ?_⟩ (fin _ _ rfl rfl rfl rfl rfl rfl ⟨lim, q, w, H, G, ev, hV⟩ (lim0 hV hg) (Or.inl ⟨rfl, g, G, s8, hg, hG, rfl, p3, p4, s44, ?_⟩))⟩
  · have : (zU X1 7 14 (nI g)) 12 g = M 6 (41 + 5 * g) := by
      rw [zU_o _ _ _ (by decide), x1 12 (by omega)]
      exact (hc.2.2.1 g hg).1
    rw [this]
  · rw [t6, up_o _ _ (by omega), up_o _ _ (by omega), up_o _ _ (by omega)]
  · rw [zU_o _ _ _ (by omega)]; exact x1 k (by omega)
  · rw [zU_o _ _ _ h2, zU_o _ _ _ h2, zU_o _ _ _ h2]; exact m1 k h1 h3
  · exact m10 i hi
  · rw [t6]
    exact cV_inv hV hg p3 s44 s5 (by rw [up_o _ _ (by omega), up_o _ _ (by omega), up_s]) (by rw [up_o _ _ (by omega), up_s]) (up_s _ _ _) (fun j j1 j2 j3 => by rw [up_o _ _ j3, up_o _ _ j2, up_o _ _ j1])
  · rw [t6]
    exact CK_inv hc hH hG hg s44 p4 (by rw [up_o _ _ (by omega), up_o _ _ (by omega), up_s]) (by rw [up_o _ _ (by omega), up_s]) (up_s _ _ _) (fun j j1 j2 j3 => by rw [up_o _ _ j3, up_o _ _ j2, up_o _ _ j1]) (fun j hj => by rw [zU_s, up_o _ _ hj, x1 7 (by omega)]) (by rw [zU_s, up_s]) (fun k h1 h2 => by rw [zU_o _ _ _ (by omega)]; exact x1 k (by omega))
  · rw [t6]; exact eS_rf _
/-! shown -/
theorem cV_shw {S T : Nat → Int32} {lim q w H G ev g h m' : Nat} (hv : cV S lim q w H G ev) (hg : g < G) (hh : h < H) (h3 : S 3 = nI g) (hb : ev.testBit h = false) (hl : pc ev < lim) (hm : m' < 8) (t41 : T (41 + 5 * g) = nI m') (t4 : T 4 = nI (ev ||| 2 ^ h)) (to : ∀ j, j ≠ 41 + 5 * g → j ≠ 12 + 4 * h → j ≠ 4 → T j = S j) : cV T lim q w H G (ev ||| 2 ^ h) := by
  obtain ⟨a0, a1, a2, a7, a8, a4, a5, b1, b2, b3, b4, b5⟩ := hv
  have hG := a8.2
  have hH := a7.2
  have hp := pc_or ev (lt8_v H hH ev a4.2.1) h (by omega)
  refine ⟨by rw [to 0 (by omega) (by omega) (by omega)]; exact a0, by rw [to 1 (by omega) (by omega) (by omega)]; exact a1, by rw [to 2 (by omega) (by omega) (by omega)]; exact a2, by rw [to 7 (by omega) (by omega) (by omega)]; exact a7, by rw [to 8 (by omega) (by omega) (by omega)]; exact a8, ⟨t4, or_lt ev h H a4.2.1 hh, by rcases hp with hp | hp <;> simp_all; omega⟩, by rw [to 5 (by omega) (by omega) (by omega)]; exact a5, b1, b2, fun k hk => ?_, fun k hk => ?_, ?_⟩
  · unfold hV
    rw [to (9 + 4 * k) (by omega) (by omega) (by omega), to (10 + 4 * k) (by omega) (by omega) (by omega), to (11 + 4 * k) (by omega) (by omega) (by omega)]
    exact b3 k hk
  · obtain ⟨m, fe, bo, ho, e1, e2, e3, e4, e5, e6, e7, e8, e9⟩ := b4 k hk
    by_cases c : k = g
    · subst c
      exact ⟨m', fe, bo, ho, t41, hm, by rw [to _ (by omega) (by omega) (by omega)]; exact e3, e4, by rw [to _ (by omega) (by omega) (by omega)]; exact e5, e6, by rw [to _ (by omega) (by omega) (by omega)]; exact e7, e8, fun z => by rw [to _ (by omega) (by omega) (by omega)]; exact e9 z⟩
    · exact ⟨m, fe, bo, ho, by rw [to _ (by omega) (by omega) (by omega)]; exact e1, e2, by rw [to _ (by omega) (by omega) (by omega)]; exact e3, e4, by rw [to _ (by omega) (by omega) (by omega)]; exact e5, e6, by rw [to _ (by omega) (by omega) (by omega)]; exact e7, e8, fun z => by rw [to _ (by omega) (by omega) (by omega)]; exact e9 z⟩
  · rcases b5 with ⟨z1, _⟩ | ⟨g0, z0, z1, z2, z3⟩
    · rw [h3] at z1; exact absurd z1 (m1_ne g (by omega))
    · exact Or.inr ⟨g0, z0, by rw [to 3 (by omega) (by omega) (by omega)]; exact z1, by rw [to 5 (by omega) (by omega) (by omega)]; exact z2, fun k hk => by rw [to _ (by omega) (by omega) (by omega)]; exact z3 k hk⟩
theorem CK_shw {X Y : KX} {S T : Nat → Int32} {H G g h : Nat} {v4 : Int32} (hc : CK X 7 S H G) (hH : H ≤ 8) (hG : G ≤ 6) (hg : g < G) (hh : h < H) (to : ∀ j, j ≠ 41 + 5 * g → j ≠ 12 + 4 * h → j ≠ 4 → T j = S j) (y7 : ∀ j, j ≠ 16 → Y 7 j = X 7 j) (y16 : Y 7 16 = T 4) (y12 : Y 12 g = T (41 + 5 * g)) (y12o : ∀ j, j ≠ g → Y 12 j = X 12 j) (y11 : Y 11 h = T (12 + 4 * h)) (y11o : ∀ j, j ≠ h → Y 11 j = X 11 j) (yo : ∀ k, 8 ≤ k → k < 16 → k ≠ 11 → k ≠ 12 → Y k = X k) : CK Y 7 T H G := by
  obtain ⟨⟨a3, a1, a2, a14, a16, a18, a17, a4, a5⟩, b, d, ⟨bb, e1, e2, e3⟩, f, gg⟩ := hc
  refine ⟨⟨?_, ?_, ?_, ?_, ?_, ?_, ?_, ?_, ?_⟩, fun k hk => ?_, fun k hk => ?_, ⟨bb, e1, ?_, fun k hk => ?_⟩, ?_, fun k hk hk2 => ?_⟩
  · rw [y7 3 (by decide), to 0 (by omega) (by omega) (by omega)]; exact a3
  · rw [y7 1 (by decide), to 1 (by omega) (by omega) (by omega)]; exact a1
  · rw [y7 2 (by decide), to 2 (by omega) (by omega) (by omega)]; exact a2
  · rw [y7 14 (by decide), to 3 (by omega) (by omega) (by omega)]; exact a14
  · exact y16
  · rw [y7 18 (by decide), to 5 (by omega) (by omega) (by omega)]; exact a18
  · rw [y7 17 (by decide), to 6 (by omega) (by omega) (by omega)]; exact a17
  · rw [y7 4 (by decide), to 7 (by omega) (by omega) (by omega)]; exact a4
  · rw [y7 5 (by decide), to 8 (by omega) (by omega) (by omega)]; exact a5
  · obtain ⟨q1, q2, q3, q4⟩ := b k hk
    rw [yo (7 + 1) (by omega) (by omega) (by omega) (by omega), yo (7 + 2) (by omega) (by omega) (by omega) (by omega), yo (7 + 3) (by omega) (by omega) (by omega) (by omega), to (9 + 4 * k) (by omega) (by omega) (by omega), to (10 + 4 * k) (by omega) (by omega) (by omega), to (11 + 4 * k) (by omega) (by omega) (by omega)]
    refine ⟨q1, q2, q3, ?_⟩
    by_cases c : k = h
    · rw [c]; exact y11
    · rw [to _ (by omega) (by omega) (by omega)]
      exact (y11o k c).trans q4
  · obtain ⟨q1, q2, q3, q4⟩ := d k hk
    rw [yo (7 + 6) (by omega) (by omega) (by omega) (by omega), yo (7 + 7) (by omega) (by omega) (by omega) (by omega), yo (7 + 8) (by omega) (by omega) (by omega) (by omega), to (42 + 5 * k) (by omega) (by omega) (by omega), to (43 + 5 * k) (by omega) (by omega) (by omega), to (45 + 5 * k) (by omega) (by omega) (by omega)]
    refine ⟨?_, q2, q3, q4⟩
    by_cases c : k = g
    · rw [c]; exact y12
    · rw [to _ (by omega) (by omega) (by omega)]
      exact (y12o k c).trans q1
  · rw [y7 15 (by decide)]; exact e2
  · rw [e3 k hk, to _ (by omega) (by omega) (by omega)]
  · rw [y7 0 (by decide), to 0 (by omega) (by omega) (by omega)]; exact f
  · rw [yo (7 + 8) (by omega) (by omega) (by omega) (by omega)]; exact gg k hk hk2
theorem shw_m {S : Nat → Int32} {lim q w H G ev g : Nat} (hv : cV S lim q w H G ev) (hg : g < G) : ∃ m, S (41 + 5 * g) = nI m ∧ m < 8 := by
  obtain ⟨a0, a1, a2, a7, a8, a4, a5, b1, b2, b3, b4, b5⟩ := hv
  obtain ⟨m, fe, bo, ho, e1, e2, _⟩ := b4 g hg
  exact ⟨m, e1, e2⟩
theorem op_show {N : Nat} (hN : 40000 ≤ N) : zOp_show N Sim := by
  intro X M hS a1
  obtain ⟨hR, hT, hTr, hSt, hNw, hDr, hI, hA⟩ := id hS
  obtain ⟨lim, q, w, H, G, ev, hv, hc⟩ := hNw
  have hV := hv
  obtain ⟨⟨s0, hlim⟩, a1', a2, ⟨s7, hH⟩, ⟨s8, hG⟩, ⟨s4, hev, hpc⟩, a5, b1, b2, b3, b4, b5⟩ := hv
  have ev8 := lt8_v H hH ev hev
  unfold f_X6_show f_X7_show
  rcases isHint_v hH (hc.1.2.2.2.2.2.2.2.1.trans s7) s7 a1 with ⟨h, hh, rfl, e1, e2⟩ | ⟨e1, e2⟩
  rotate_left
  · simp only [e1, e2, zLet, zB1_s, zB2_s, z10, eq_self_iff_true, if_true, if_false]
    exact ⟨_, X, M, rfl, rfl, hS⟩
  have h8 : h < 8 := by omega
  have x14 : X 7 14 = M 6 3 := hc.1.2.2.2.1
  have x16 : X 7 16 = nI ev := hc.1.2.2.2.2.1.trans s4
  have x3 : X 7 3 = nI lim := hc.1.1.trans s0
  simp only [e1, e2, z71_0, z71_1, z71_2, z71_3, z71_4, z71_5, z71_6, z71_7, z71_8, cl_0, cl_1, cl_2, cl_3, cl_4, cl_5, cl_6, cl_7, cl_8, x14, x16, x3, s4, s0, has_tb ev ev8 h h8, hasM_tb ev ev8 h h8, bitc_pc ev ev8, ones_v hN ev8, zLet, zB1_s, zB2_s, z10, eq_self_iff_true, if_true, if_false]
  rcases b5 with ⟨p3, p4, p5⟩ | ⟨g, hg, p3, p5, p6⟩
  · rw [p3]
    simp only [show (-1 : Int32) < 0 by decide, if_true]
    exact ⟨_, X, M, rfl, rfl, hS⟩
  have g6 : g < 6 := by omega
  rw [p3]
  simp only [m1_ne g (by omega), nI_lt0 g (by omega), if_false]
  cases hb : ev.testBit h with
  | true =>
    simp only [if_true, z10, if_false]
    exact ⟨_, X, M, rfl, rfl, hS⟩
  | false =>
  have pl : pc ev ≤ 8 := pc_le ev ev8
  have c1 : (nI (pc ev) < nI lim) = (pc ev < lim) := propext (nI_ltI (by omega) (by omega))
  have c2 : (nI (pc ev) = nI lim) = (pc ev = lim) := nIe (by omega) (by omega)
  simp only [Bool.false_eq_true, if_false, if_true, c1, c2]
  by_cases cl : pc ev = lim
  · simp only [cl, Nat.lt_irrefl, if_true, if_false]
    exact ⟨_, X, M, rfl, rfl, hS⟩
  have cl2 : pc ev < lim := by omega
  simp only [cl, cl2, if_true, if_false]
  have G6 : ∀ (α : Type) (e : Option α), zGd (nI g) 6 e = e := fun _ e => zGd_n e g6 (by decide)
  have cg : (nI g).toNatClampNeg = g := nI_cl g (by omega)
  have G8 : ∀ (α : Type) (e : Option α), zGd (nI h) 8 e = e := fun _ e => zGd_n e h8 (by decide)
  have ch : (nI h).toNatClampNeg = h := nI_cl h (by omega)
  obtain ⟨X1, M1, k1, k2, x1, m1, m10, fin⟩ := act_v hN hA 1 (nI h) (X 12 g)
  have x12 : X 12 g = M 6 (41 + 5 * g) := (hc.2.2.1 g hg).1
  obtain ⟨m, em, hm⟩ := shw_m hV hg
  have hc1 : CK X1 7 (M 6) H G := CK_c (x1 7 (by omega)) (x1 8 (by omega)) (x1 9 (by omega)) (x1 10 (by omega)) (x1 11 (by omega)) (x1 12 (by omega)) (x1 13 (by omega)) (x1 14 (by omega)) (x1 15 (by omega)) hc
  have y11 : X1 11 h = M 6 (12 + 4 * h) := (hc1.2.1 h hh).2.2.2
  have y12 : X1 12 g = nI m := by rw [(x1 12 (by omega)), x12, em]
  have y714 : X1 7 14 = nI g := by rw [x1 7 (by omega), x14, p3]
  have y716 : X1 7 16 = nI ev := by rw [x1 7 (by omega), x16]
  have n6 : M1 6 = M 6 := m1 6 (by decide) (by decide)
  simp only [G6, cg]
  rw [k1, k2]
  have hm' : ld (M 6) h m < 8 := ldS_lt (b3 h hh) hm _
  have hldM : f_X7_leadsNow M1 (nI h) (nI m) = some (nI (ld (M 6) h m)) := by
    have := leadsNow_v (M := M1) h8 hm (by rw [n6]; exact b3 h hh)
    rw [n6] at this
    exact this
  have hldK : f_X2_ledFrom X1 (nI m) (nI h) (M 6 (12 + 4 * h)) = some (nI (ld (M 6) h m)) := ledFrom_v hc1 hh hH (b3 h hh) hm _
  have i3 : nI (9 + 4 * h) + 3 = nI (12 + 4 * h) := by rw [show (3 : Int32) = nI 3 from rfl, nI_add, show 9 + 4 * h + 3 = 12 + 4 * h by omega]
  have i0 : nI (41 + 5 * g) + 0 = nI (41 + 5 * g) := nI_add _ 0
  have i5 : (41 : Int32) + 5 * nI g = nI (41 + 5 * g) := by rw [show (5 : Int32) = nI 5 from rfl, show (41 : Int32) = nI 41 from rfl, pk_mul, nI_add]
  unfold f_X2_reveal
  simp only [zB1_s, y714, G6, G8, cg, ch, y12, y11, hldK, zLet]
  have z11 : (zU X1 12 g (nI (ld (M 6) h m))) 11 = X1 11 := rfl
  have z716 : (zU (zU X1 12 g (nI (ld (M 6) h m))) 11 h (M 6 (12 + 4 * h) + 1)) 7 = X1 7 := rfl
  simp only [z11, y11, z716, y716, shl_tb h h8, nI_or]
  have z714 : (zU (zU (zU X1 12 g (nI (ld (M 6) h m))) 11 h (M 6 (12 + 4 * h) + 1)) 7 16 (nI (ev ||| 2 ^ h))) 7 14 = nI g := y714
  have z12 : (zU (zU (zU X1 12 g (nI (ld (M 6) h m))) 11 h (M 6 (12 + 4 * h) + 1)) 7 16 (nI (ev ||| 2 ^ h))) 12 g = nI (ld (M 6) h m) := by
    rw [zU_o _ _ _ (by decide), zU_o _ _ _ (by decide), zU_s, up_s]
  simp only [z714, G6, cg, z12]
  simp only [z71_0, z71_1, z71_2, z71_3, z71_4, z71_5, z71_6, z71_7, z71_8, cl_0, cl_1, cl_2, cl_3, cl_4, cl_5, cl_6, cl_7, cl_8, n6, p3, i5, i0, zG71 (show 41 + 5 * g < 71 by omega), nI_cl (41 + 5 * g) (by omega), em, hldM, zB1_s, ixh, i3, zG71 (show 12 + 4 * h < 71 by omega), nI_cl (12 + 4 * h) (by omega), shl_tb h h8]
  have w12 : (zU M1 6 (41 + 5 * g) (nI (ld (M 6) h m))) 6 (12 + 4 * h) = M 6 (12 + 4 * h) := by rw [zU_s, up_o _ _ (by omega), n6]
  simp only [w12]
  have w4 : (zU (zU M1 6 (41 + 5 * g) (nI (ld (M 6) h m))) 6 (12 + 4 * h) (M 6 (12 + 4 * h) + 1)) 6 4 = nI ev := by rw [zU_s, up_o _ _ (by omega), zU_s, up_o _ _ (by omega), n6, s4]
  simp only [w4, nI_or]
  have t6 : (zU (zU (zU M1 6 (41 + 5 * g) (nI (ld (M 6) h m))) 6 (12 + 4 * h) (M 6 (12 + 4 * h) + 1)) 6 4 (nI (ev ||| 2 ^ h))) 6 = upd (upd (upd (M 6) (41 + 5 * g) (nI (ld (M 6) h m))) (12 + 4 * h) (M 6 (12 + 4 * h) + 1)) 4 (nI (ev ||| 2 ^ h)) := by
    rw [zU_s, zU_s, zU_s, n6]
  have to : ∀ j, j ≠ 41 + 5 * g → j ≠ 12 + 4 * h → j ≠ 4 → (upd (upd (upd (M 6) (41 + 5 * g) (nI (ld (M 6) h m))) (12 + 4 * h) (M 6 (12 + 4 * h) + 1)) 4 (nI (ev ||| 2 ^ h))) j = M 6 j := fun j j1 j2 j3 => by rw [up_o _ _ j3, up_o _ _ j2, up_o _ _ j1]
  refine ⟨nI (ld (M 6) h m), _, _, rfl, ?_, sim_act (X' := zU (zU (zU X1 12 g (nI (ld (M 6) h m))) 11 h (M 6 (12 + 4 * h) + 1)) 7 16 (nI (ev ||| 2 ^ h))) (M' := zU (zU (zU M1 6 (41 + 5 * g) (nI (ld (M 6) h m))) 6 (12 + 4 * h) (M 6 (12 + 4 * h) + 1)) 6 4 (nI (ev ||| 2 ^ h))) hS (fun k hk => ?_) (fun k h1 h2 h3 => ?_) (fun i hi => ?_) ⟨lim, q, w, H, G, ev ||| 2 ^ h, ?_, ?_⟩ (fin _ _ rfl rfl rfl rfl rfl rfl ⟨lim, q, w, H, G, ev, hV⟩ (lim0 hV hg) (Or.inr (Or.inl ⟨rfl, h, g, H, G, ev, s7, hh, hH, s8, hg, hG, s4, hev, hb, rfl, p3, x12, nI (ld (M 6) h m), ?_⟩)))⟩
  · rw [t6, up_o _ _ (by omega), up_o _ _ (by omega), up_s]
  · rw [zU_o _ _ _ (by omega), zU_o _ _ _ (by omega), zU_o _ _ _ (by omega)]; exact x1 k (by omega)
  · rw [zU_o _ _ _ h2, zU_o _ _ _ h2, zU_o _ _ _ h2]; exact m1 k h1 h3
  · exact m10 i hi
  · rw [t6]
    exact cV_shw hV hg hh p3 hb cl2 hm' (by rw [up_o _ _ (by omega), up_o _ _ (by omega), up_s]) (up_s _ _ _) to
  · rw [t6]
    refine CK_shw (v4 := 0) hc1 hH hG hg hh to (fun j hj => by rw [zU_s, up_o _ _ hj]; rfl) (by rw [up_s]; rfl) (by rw [z12, up_o _ _ (by omega), up_o _ _ (by omega), up_s]) (fun j hj => by rw [zU_o _ _ _ (by decide), zU_o _ _ _ (by decide), zU_s, up_o _ _ hj]) (by rw [zU_o _ _ _ (by decide), zU_s, up_s, up_o _ _ (by omega), up_s]) (fun j hj => by rw [zU_o _ _ _ (by decide), zU_s, up_o _ _ hj]; rfl) (fun k h1 h2 h3 h4 => by rw [zU_o _ _ _ (by omega), zU_o _ _ _ h3, zU_o _ _ _ h4])
  · rw [t6]; exact eS_rf _
