theorem imS_e {X X' M M' : KX} {k : Nat} (a : ∀ j, 25 + 9 * k ≤ j → j < 34 + 9 * k → X' j = X j) (b : M' 10 k = M 10 k) (c : ∀ j, j < 71 → M' 9 (71 * k + j) = M 9 (71 * k + j)) (h : imS X M k) : imS X' M' k := by
  unfold imS at *
  rw [b, a (25 + 9 * k) (by omega) (by omega)]
  rcases h with h | ⟨h1, h2, lim, q, w, H, G, ev, h3, h4⟩
  · exact Or.inl h
  · have e : eS (fun j => M 9 (71 * k + j)) (fun j => M' 9 (71 * k + j)) := fun j hj => (c j hj).symm
    have hH := h3.2.2.2.1.2
    have hG := h3.2.2.2.2.1.2
    exact Or.inr ⟨h1, h2, lim, q, w, H, G, ev, cV_e e h3, CK_e e hH hG (CK_c (a _ (by omega) (by omega)) (a _ (by omega) (by omega)) (a _ (by omega) (by omega)) (a _ (by omega) (by omega)) (a _ (by omega) (by omega)) (a _ (by omega) (by omega)) (a _ (by omega) (by omega)) (a _ (by omega) (by omega)) (a _ (by omega) (by omega)) h4)⟩
theorem sim_im {X X' M M' : KX} (h : Sim X M) (hx : ∀ k, (k < 25 ∨ 42 < k) → X' k = X k) (hm : ∀ c, c ≠ 9 → c ≠ 10 → M' c = M c) (h0 : imS X' M' 0) (h1 : imS X' M' 1) : Sim X' M' := by
  obtain ⟨hR, hT, hTr, hSt, hNw, hDr, ⟨hI0, hI1⟩, hA⟩ := h
  have m0 := hm 0 (by decide) (by decide)
  exact ⟨rwS_c (hx 2 (by omega)) (hx 3 (by omega)) (hx 4 (by omega)) (hm 1 (by decide) (by decide)) (hm 2 (by decide) (by decide)) (hm 3 (by decide) (by decide)) hR, tpS_c (by rw [hx 5 (by omega)]) (hx 6 (by omega)) (by rw [m0]) (hm 5 (by decide) (by decide)) hT, trS_c (by rw [hx 49 (by omega)]) (hx 50 (by omega)) (by rw [m0]) (hm 11 (by decide) (by decide)) hTr, stS_c (by rw [hx 0 (by omega)]) (by rw [hx 0 (by omega)]) (by rw [m0]) (by rw [m0]) hSt, nwS_c (fun k h1 h2 => hx k (by omega)) (hm 6 (by decide) (by decide)) hNw, drS_c (hx 16 (by omega)) (hx 20 (by omega)) (hx 24 (by omega)) hDr, ⟨h0, h1⟩, acS_c (by rw [hx 43 (by omega)]) (by rw [hx 43 (by omega)]) (hx 44 (by omega)) (hx 45 (by omega)) (hx 46 (by omega)) (by rw [m0]) (hm 8 (by decide) (by decide)) (hm 6 (by decide) (by decide)) hA⟩
theorem castle_v {X M : KX} {lim q w H G ev : Nat} (hv : cV (M 6) lim q w H G ev) (hc : CK X 7 (M 6) H G) : (lim = 0 ∧ X 7 0 = 0 ∧ f_X7_isCastle M = some 0) ∨ (0 < lim ∧ X 7 0 = 1 ∧ f_X7_isCastle M = some 1) := by
  obtain ⟨⟨s0, hlim⟩, _⟩ := hv
  have h0 := hc.2.2.2.2.1
  unfold f_X7_isCastle
  simp only [z71_0, z71_1, z71_2, z71_3, z71_4, z71_5, z71_6, z71_7, z71_8, cl_0, cl_1, cl_2, cl_3, cl_4, cl_5, cl_6, cl_7, cl_8]
  rw [s0] at h0 ⊢
  have e0 : (nI lim = (0 : Int32)) = (lim = 0) := nIe (b := 0) (by omega) (by omega)
  have l0 : (nI lim ≤ (0 : Int32)) = (lim ≤ 0) := propext (nI_leI (b := 0) (by omega) (by omega))
  simp only [e0] at h0
  simp only [l0]
  by_cases c : lim = 0
  · left; rw [if_pos c] at h0; exact ⟨c, h0, if_pos (by omega)⟩
  · right; rw [if_neg c] at h0; exact ⟨by omega, h0, if_neg (by omega)⟩
theorem in2_t {k : Nat} (hk : k < 2) : f_X7_in (nI k) 0 1 = 1 := in_t (n := 1) (by omega) (by decide)
theorem in2_f {a : Int32} (h : a < 0 ∨ nI 2 ≤ a) : f_X7_in a 0 1 = 0 := in_f (n := 1) h (by decide)
theorem bel2_t {k : Nat} (hk : k < 2) : f_X6_isBelow (nI k) 2 = 1 := isBelow_t (n := 2) hk (by decide)
theorem bel2_f {a : Int32} (h : a < 0 ∨ nI 2 ≤ a) : f_X6_isBelow a 2 = 0 := isBelow_f (n := 2) h
theorem ix71 (k : Nat) : (71 : Int32) * nI k = nI (71 * k) := by rw [show (71 : Int32) = nI 71 from rfl, pk_mul]
theorem op_image {N : Nat} (hN : 40000 ≤ N) : zOp_image N Sim := by
  intro X M hS a1
  obtain ⟨lim, q, w, H, G, ev, hv, hc⟩ := hS.2.2.2.2.1
  obtain ⟨hI0, hI1⟩ := hS.2.2.2.2.2.2.1
  have hH := hv.2.2.2.1.2
  have hG := hv.2.2.2.2.1.2
  have h5 := hv.2.2.2.2.2.2.1
  unfold f_X6_image f_X7_image
  rcases rg a1 2 (by decide) with ⟨k, hk, rfl⟩ | h1
  rotate_left
  · simp only [bel2_f h1, in2_f h1, zLet, zB1_s, zB2_s, z10, eq_self_iff_true, if_true, if_false]
    exact ⟨_, X, M, rfl, rfl, hS⟩
  simp only [bel2_t hk, in2_t hk, zLet, zB1_s, zB2_s, z10, eq_self_iff_true, if_true, if_false]
  rcases castle_v hv hc with ⟨l0, x0, e⟩ | ⟨l0, x0, e⟩
  · simp only [x0, e, zLet, zB1_s, zB2_s, z10, eq_self_iff_true, if_true, if_false]
    exact ⟨_, X, M, rfl, rfl, hS⟩
  simp only [x0, e, show ¬ (1 : Int32) = 0 by decide, zLet, zB1_s, zB2_s, z10, eq_self_iff_true, if_true, if_false]
  obtain ⟨M1, eM, m1, m2, m3⟩ := copies_6_9_v hN M (s := 0) (d := 71 * k) (by omega) (by omega)
  have eM : f_X7_copies_6_9 N M 0 (nI (71 * k)) = some M1 := eM
  have G2 : ∀ (α : Type) (e : Option α), zGd (nI k) 2 e = e := fun _ e => zGd_n e hk (by decide)
  have ck : (nI k).toNatClampNeg = k := nI_cl k (by omega)
  rw [ix71, eM]
  simp only [G2, ck, zLet, zB1_s, zB2_s, z10, eq_self_iff_true, if_true, if_false]
  have hx18 : X 7 18 = 0 ∨ X 7 18 = 1 := by rw [hc.1.2.2.2.2.2.1]; exact h5
  have hes : ∀ k, (∀ j, j < 71 → M1 9 (71 * k + j) = M 6 (0 + j)) → eS (M 6) (fun j => (zU M1 10 k 1) 9 (71 * k + j)) := fun k hk j hj => by
    show M 6 j = M1 9 (71 * k + j)
    rw [hk j hj, Nat.zero_add]
  match k, hk with
  | 0, _ =>
    obtain ⟨Y, eY, hb⟩ := become_25_7_v X (Or.inr x0) hx18
    rw [if_pos (show (nI 0 : Int32) = 0 from rfl), eY]
    refine ⟨1, Y, zU M1 10 0 1, rfl, rfl, sim_im hS (fun k hk => hb.1 k (by omega)) (fun c c9 c10 => by rw [zU_o _ _ _ c10]; exact m1 c c9) (Or.inr ⟨rfl, ?_, lim, q, w, H, G, ev, cV_e (hes 0 m2) hv, CK_e (hes 0 m2) hH hG (CK_bc hb hH hG hc)⟩) (imS_e (fun j h1 h2 => hb.1 j (by omega)) ?_ (fun j hj => ?_) hI1)⟩
    · show Y 25 0 = 1
      rw [hb.2.1 0 (by omega)]; exact x0
    · rw [zU_s, up_o _ _ (by decide), m1 10 (by decide)]
    · show M1 9 (71 * 1 + j) = _
      rw [m3 _ (by omega)]
  | 1, _ =>
    obtain ⟨Y, eY, hb⟩ := become_34_7_v X (Or.inr x0) hx18
    rw [if_neg (show ¬ (nI 1 : Int32) = 0 by decide), eY]
    refine ⟨1, Y, zU M1 10 1 1, rfl, rfl, sim_im hS (fun k hk => hb.1 k (by omega)) (fun c c9 c10 => by rw [zU_o _ _ _ c10]; exact m1 c c9) (imS_e (fun j h1 h2 => hb.1 j (by omega)) ?_ (fun j hj => ?_) hI0) (Or.inr ⟨rfl, ?_, lim, q, w, H, G, ev, cV_e (hes 1 m2) hv, CK_e (hes 1 m2) hH hG (CK_bc hb hH hG hc)⟩)⟩
    · rw [zU_s, up_o _ _ (by decide), m1 10 (by decide)]
    · show M1 9 (71 * 0 + j) = _
      rw [m3 _ (by omega)]
    · show Y 34 0 = 1
      rw [hb.2.1 0 (by omega)]; exact x0
theorem sim_rs {X X' M M' : KX} (h : Sim X M) (hx : ∀ k, (k < 7 ∨ 15 < k) → k ≠ 43 → X' k = X k) (h3 : X' 43 3 = 0) (h4 : X' 43 4 = X 43 4) (hm : ∀ c, c ≠ 0 → c ≠ 6 → M' c = M c) (hm0 : ∀ i, i ≠ 16 → M' 0 i = M 0 i) (h16 : M' 0 16 = 0) (hn : nwS X' M') : Sim X' M' := by
  obtain ⟨hR, hT, hTr, hSt, hNw, hDr, ⟨hI0, hI1⟩, hA⟩ := h
  obtain ⟨A, f, _, hf, _, _, e4, _⟩ := hA
  exact ⟨rwS_c (hx 2 (by omega) (by omega)) (hx 3 (by omega) (by omega)) (hx 4 (by omega) (by omega)) (hm 1 (by decide) (by decide)) (hm 2 (by decide) (by decide)) (hm 3 (by decide) (by decide)) hR, tpS_c (by rw [hx 5 (by omega) (by omega)]) (hx 6 (by omega) (by omega)) (hm0 6 (by decide)) (hm 5 (by decide) (by decide)) hT, trS_c (by rw [hx 49 (by omega) (by omega)]) (hx 50 (by omega) (by omega)) (hm0 20 (by decide)) (hm 11 (by decide) (by decide)) hTr, stS_c (by rw [hx 0 (by omega) (by omega)]) (by rw [hx 0 (by omega) (by omega)]) (hm0 4 (by decide)) (hm0 7 (by decide)) hSt, hn, drS_c (hx 16 (by omega) (by omega)) (hx 20 (by omega) (by omega)) (hx 24 (by omega) (by omega)) hDr, ⟨imS_c (fun k h1 h2 => hx k (by omega) (by omega)) (hm 10 (by decide) (by decide)) (hm 9 (by decide) (by decide)) hI0, imS_c (fun k h1 h2 => hx k (by omega) (by omega)) (hm 10 (by decide) (by decide)) (hm 9 (by decide) (by decide)) hI1⟩, ⟨0, f, by omega, hf, h3, h16, by rw [h4]; exact e4, fun j hj => by omega⟩⟩
theorem op_restore {N : Nat} (hN : 40000 ≤ N) : zOp_restore N Sim := by
  intro X M hS a1
  obtain ⟨hI0, hI1⟩ := hS.2.2.2.2.2.2.1
  unfold f_X6_restore f_X7_restore f_X0_forgetAll
  rcases rg a1 2 (by decide) with ⟨k, hk, rfl⟩ | h1
  rotate_left
  · simp only [bel2_f h1, in2_f h1, zLet, zB1_s, zB2_s, z10, eq_self_iff_true, if_true, if_false]
    exact ⟨_, X, M, rfl, rfl, hS⟩
  have G2 : ∀ (α : Type) (e : Option α), zGd (nI k) 2 e = e := fun _ e => zGd_n e hk (by decide)
  have ck : (nI k).toNatClampNeg = k := nI_cl k (by omega)
  simp only [bel2_t hk, in2_t hk, G2, ck, zLet, zB1_s, zB2_s, z10, eq_self_iff_true, if_true, if_false]
  match k, hk with
  | 0, _ =>
    rw [if_pos (show (nI 0 : Int32) = 0 from rfl)]
    rcases hI0 with ⟨m0, x0⟩ | ⟨m0, x0, lim, q, w, H, G, ev, hv, hc⟩
    · rw [m0, show X 25 0 = 0 from x0]
      exact ⟨_, X, M, rfl, rfl, hS⟩
    · have x0 : X 25 0 = 1 := x0
      rw [m0, x0]
      obtain ⟨M1, eM, m1, m2, m3⟩ := copies_9_6_v hN M (s := 71 * 0) (d := 0) (by omega) (by omega)
      have eM : f_X7_copies_9_6 N M (71 * nI 0) 0 = some M1 := eM
      have hH := hv.2.2.2.1.2
      have hG := hv.2.2.2.2.1.2
      have hx18 : X 25 18 = 0 ∨ X 25 18 = 1 := by rw [show X 25 18 = _ from hc.1.2.2.2.2.2.1]; exact hv.2.2.2.2.2.2.1
      obtain ⟨Y, eY, hb⟩ := become_7_25_v X (Or.inr x0) hx18
      rw [eM, eY]
      have es : eS (fun j => M 9 (71 * 0 + j)) ((zU M1 0 16 0) 6) := fun j hj => by
        show M 9 (71 * 0 + j) = M1 6 j
        have h9 := m2 j hj
        have h8 : 0 + j = j := Nat.zero_add j
        exact (h9.symm.trans (congrArg (M1 6) h8))
      refine ⟨1, zU Y 43 3 0, zU M1 0 16 0, rfl, rfl, sim_rs hS (fun k h1 h2 => by rw [zU_o _ _ _ h2]; exact hb.1 k (by omega)) rfl (by rw [zU_s, up_o _ _ (by decide), hb.1 43 (by omega)]) (fun c c0 c6 => by rw [zU_o _ _ _ c0]; exact m1 c c6) (fun i hi => by rw [zU_s, up_o _ _ hi, m1 0 (by decide)]) rfl ⟨lim, q, w, H, G, ev, cV_e es hv, CK_e es hH hG (CK_c (X := Y) rfl rfl rfl rfl rfl rfl rfl rfl rfl (CK_bc hb hH hG hc))⟩⟩
  | 1, _ =>
    rw [if_neg (show ¬ (nI 1 : Int32) = 0 by decide)]
    rcases hI1 with ⟨m0, x0⟩ | ⟨m0, x0, lim, q, w, H, G, ev, hv, hc⟩
    · rw [m0, show X 34 0 = 0 from x0]
      exact ⟨_, X, M, rfl, rfl, hS⟩
    · have x0 : X 34 0 = 1 := x0
      rw [m0, x0]
      obtain ⟨M1, eM, m1, m2, m3⟩ := copies_9_6_v hN M (s := 71 * 1) (d := 0) (by omega) (by omega)
      have eM : f_X7_copies_9_6 N M (71 * nI 1) 0 = some M1 := eM
      have hH := hv.2.2.2.1.2
      have hG := hv.2.2.2.2.1.2
      have hx18 : X 34 18 = 0 ∨ X 34 18 = 1 := by rw [show X 34 18 = _ from hc.1.2.2.2.2.2.1]; exact hv.2.2.2.2.2.2.1
      obtain ⟨Y, eY, hb⟩ := become_7_34_v X (Or.inr x0) hx18
      rw [eM]
      simp only [show ¬ (nI 1 : Int32) = 0 by decide, show ¬ (1 : Int32) = 0 by decide, if_false, eY]
      have es : eS (fun j => M 9 (71 * 1 + j)) ((zU M1 0 16 0) 6) := fun j hj => by
        show M 9 (71 * 1 + j) = M1 6 j
        have h9 := m2 j hj
        have h8 : 0 + j = j := Nat.zero_add j
        exact (h9.symm.trans (congrArg (M1 6) h8))
      refine ⟨1, zU Y 43 3 0, zU M1 0 16 0, rfl, rfl, sim_rs hS (fun k h1 h2 => by rw [zU_o _ _ _ h2]; exact hb.1 k (by omega)) rfl (by rw [zU_s, up_o _ _ (by decide), hb.1 43 (by omega)]) (fun c c0 c6 => by rw [zU_o _ _ _ c0]; exact m1 c c6) (fun i hi => by rw [zU_s, up_o _ _ hi, m1 0 (by decide)]) rfl ⟨lim, q, w, H, G, ev, cV_e es hv, CK_e es hH hG (CK_c (X := Y) rfl rfl rfl rfl rfl rfl rfl rfl rfl (CK_bc hb hH hG hc))⟩⟩
