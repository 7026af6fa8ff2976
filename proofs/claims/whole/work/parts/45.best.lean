/-! bestGuest -/
theorem nIm (n : Nat) (h : n < 2 ^ 31) : ¬ nI n = (-1000000 : Int32) := fun z => by
  have := congrArg Int32.toInt z
  rw [nI_toInt h] at this
  simp at this
def fX (X' X : KX) : Prop := ∀ c, c ≠ 47 → c ≠ 48 → X' c = X c
theorem CK_f {X X' : KX} {S : Nat → Int32} {H G : Nat} (h1 : fX X' X) (hc : CK X 7 S H G) : CK X' 7 S H G := CK_c (h1 7 (by decide) (by decide)) (h1 8 (by decide) (by decide)) (h1 9 (by decide) (by decide)) (h1 10 (by decide) (by decide)) (h1 11 (by decide) (by decide)) (h1 12 (by decide) (by decide)) (h1 13 (by decide) (by decide)) (h1 14 (by decide) (by decide)) (h1 15 (by decide) (by decide)) hc
theorem m0_v : ∀ d, d < 256 → nI d &&& ((0 : Int32) ^^^ (-1)) = nI d := by decide +kernel
theorem meas0_v {N : Nat} (hN : 40000 ≤ N) {X : KX} {S : Nat → Int32} {H G a q lim : Nat} (hc : CK X 7 S H G) (hH : H ≤ 8) (hv : ∀ h, h < H → hV S h) (x4 : X 7 4 = nI H) (x3 : X 7 3 = nI lim) (hlim : lim ≤ 5) (x1 : X 7 1 = nI q) (hq : q < 8) (ha : a < 256) : ∃ X' : KX, f_X3_measure N X (nI a) 0 = some X' ∧ fX X' X ∧ nrS X' S H a (fun _ => False) q lim := by
  unfold f_X3_measure
  rw [if_pos rfl]
  exact meas_v hN 0 hc hH hv x4 x3 hlim x1 hq ha (fun d hd => ⟨d, hd, m0_v d hd, fun t ht => ⟨fun z => ⟨z, fun z => z⟩, fun z => z.1⟩⟩) (fun z => z)
theorem few_v {N : Nat} (hN : 40000 ≤ N) {X M : KX} {S : Nat → Int32} {H G a q lim g : Nat} (hc : CK X 7 S H G) (h6 : M 6 = S) (s0 : S 0 = nI lim) (s1 : S 1 = nI q) (s7 : S 7 = nI H) (hH : H ≤ 8) (hv : ∀ h, h < H → hV S h) (hlim : lim ≤ 5) (hq : q < 8) (ha : a < 256) (hg : g < G) (hG : G ≤ 6) (hgv : gV S g) (hn : nrS X S H a (fun _ => False) q lim) : ∃ (r : Int32) (M1 : KX) (mi : Nat), S (41 + 5 * g) = nI mi ∧ mi < 8 ∧ X 12 g = nI mi ∧ f_X3_fewestFrom N X (X 12 g) (X 7 3) = some r ∧ f_X7_thinks N M (nI g) = some M1 ∧ (∀ c, c ≠ 12 → M1 c = M c) ∧ (∀ p, p < 256 → ∃ b, b < 256 ∧ M1 12 p = nI b ∧ ∀ u, u < 8 → (b.testBit u = true ↔ Th (ld S) H mi p u)) ∧ f_X7_fewest N M1 (nI a) (nI lim) = some r ∧ (r = -1000000 ∨ ∃ n, n ≤ lim ∧ r = nI n) := by
  obtain ⟨m, fe, bo, ho, f1, f2, _⟩ := hgv
  have y12 : X 12 g = nI m := (hc.2.2.1 g hg).1.trans f1
  have y73 : X 7 3 = nI lim := hc.1.1.trans s0
  obtain ⟨M1, t1, t2, t3⟩ := thinks_v hN h6 s7 hH hv (show g < 6 by omega) f1 f2
  obtain ⟨r, e1, e2⟩ := fewF_v hN hn hlim (Nat.le_refl lim) f2
  obtain ⟨r', e3, e4⟩ := fewM_v hN (X := M1) (a := a) (m := lim) (by rw [t2 6 (by decide), h6, s1]) hq ha (by omega) t3
  have e : r = r' := few_eq hH e2 e4
  subst e
  refine ⟨r, M1, m, f1, f2, y12, by rw [y12, y73]; exact e1, t1, t2, t3, e3, ?_⟩
  rcases e2 with ⟨z, _⟩ | ⟨k, z1, z2, _⟩
  · exact Or.inl z
  · exact Or.inr ⟨k, z1, z2⟩
theorem best_v {N : Nat} (hN : 40000 ≤ N) {X M : KX} {lim q w H G ev : Nat} {a1 a2 : Int32} (hV : cV (M 6) lim q w H G ev) (hC : CK X 7 (M 6) H G) (hn : nrS X (M 6) H (2 ^ H - 1) (fun _ => False) q lim) (hw : (a1 = 0 ∧ a2 = 1) ∨ (a1 = 1 ∧ a2 = 0)) : ∃ (r : Int32) (M2 : KX), f_X3_bestOf_20 N N X a2 (-1000000) (-1000000) 0 = some (r, X) ∧ f_X7_bestGuest_31 N N M a1 (-1000000) (-1000000) 0 = some (r, M2) ∧ ∀ c, c ≠ 12 → M2 c = M c := by
  obtain ⟨⟨s0, hlim⟩, ⟨s1, hq⟩, _, ⟨s7, hH⟩, ⟨s8, hG⟩, _, _, _, _, hhs, hgs, hes⟩ := id hV
  have x5 : X 7 5 = nI G := hC.1.2.2.2.2.2.2.2.2.trans s8
  have key : ∀ k g, g + k = G → ∀ t u, k < t → k < u → ∀ (vb vf : Int32) (M1 : KX), (vb = -1000000 ↔ vf = -1000000) → (∀ c, c ≠ 12 → M1 c = M c) → ∃ (r : Int32) (M2 : KX), f_X3_bestOf_20 N t X a2 vb vf (nI g) = some (r, X) ∧ f_X7_bestGuest_31 N u M1 a1 vb vf (nI g) = some (r, M2) ∧ ∀ c, c ≠ 12 → M2 c = M c := by
    intro k
    induction k with
    | zero =>
      intro g hg t u ht hu vb vf M1 hbf hm
      obtain ⟨t, rfl⟩ : ∃ u, t = u + 1 := ⟨t - 1, by omega⟩
      obtain ⟨u, rfl⟩ : ∃ t, u = t + 1 := ⟨u - 1, by omega⟩
      have e : g = G := by omega
      subst e
      have hle : nI g ≤ nI g := by rw [le_n (by omega) (by omega)]; omega
      unfold f_X3_bestOf_20 f_X7_bestGuest_31
      simp only [z71_0, z71_1, z71_2, z71_3, z71_4, z71_5, z71_6, z71_7, z71_8, cl_0, cl_1, cl_2, cl_3, cl_4, cl_5, cl_6, cl_7, cl_8, hm 6 (by decide), s8, x5]
      rw [if_pos hle, if_pos hle]
      rcases hw with ⟨rfl, rfl⟩ | ⟨rfl, rfl⟩
      · exact ⟨vb, M1, rfl, rfl, hm⟩
      · exact ⟨vf, M1, rfl, rfl, hm⟩
    | succ k ih =>
      intro g hg t u ht hu vb vf M1 hbf hm
      obtain ⟨t, rfl⟩ : ∃ u, t = u + 1 := ⟨t - 1, by omega⟩
      obtain ⟨u, rfl⟩ : ∃ t, u = t + 1 := ⟨u - 1, by omega⟩
      have hle : ¬ nI G ≤ nI g := by rw [le_n (by omega) (by omega)]; omega
      have g6 : g < 6 := by omega
      have gG : g < G := by omega
      have m6 : M1 6 = M 6 := hm 6 (by decide)
      have p := p8 hH
      obtain ⟨r, M2, mi, q1, q2, q3, q4, q5, q6, _, q8, q9⟩ := few_v hN (M := M1) (a := 2 ^ H - 1) hC m6 s0 s1 s7 hH hhs hlim hq (by omega) gG hG (hgs g gG) hn
      unfold f_X3_bestOf_20 f_X7_bestGuest_31
      simp only [z71_0, z71_1, z71_2, z71_3, z71_4, z71_5, z71_6, z71_7, z71_8, cl_0, cl_1, cl_2, cl_3, cl_4, cl_5, cl_6, cl_7, cl_8, m6, s8, x5]
      rw [if_neg hle, if_neg hle, zGd_n _ g6 (by decide), nI_cl g (by omega), q4, stateOf_v hC hG gG (hgs g gG) hes, daresX_v hC hG gG, show f_X7_dares M1 (nI g) = _ from daresM_v g6, m6]
      unfold f_X7_isToCome
      rw [of_3 M1 g6, m6]
      simp only [zB1_s]
      unfold f_X3_bestOf_75 f_X3_bestOf_76 f_X3_bestOf_96 f_X3_bestOf_103 f_X7_bestGuest_108 f_X7_bestGuest_102 f_X7_bestGuest_108
      simp only [zLet, nIp, if_true, z10, if_false]
      have n0 := ih (g + 1) (by omega) t u (by omega) (by omega)
      by_cases c0 : M 6 (44 + 5 * g) = 0
      rotate_left
      · simp only [c0, if_false, zB1_s, if_true]
        exact n0 vb vf M1 hbf hm
      simp only [c0, if_true, zB1_s, z10, if_false]
      by_cases c1 : M 6 (43 + 5 * g) < M 6 (42 + 5 * g)
      · simp only [c1, if_true, zB1_s]
        exact n0 vb vf M1 hbf hm
      simp only [c1, if_false, zB1_s, z10]
      have m26 : M2 6 = M 6 := (q6 6 (by decide)).trans m6
      have hm2 : ∀ c, c ≠ 12 → M2 c = M c := fun c hc => (q6 c hc).trans (hm c hc)
      rw [q5]
      simp only [zB1_s]
      rw [allM_v hH (by rw [m26, s7])]
      simp only [zB1_s, m26, s0]
      rw [q8]
      simp only [zB1_s]
      by_cases c2 : r = -1000000
      · simp only [c2, if_true]
        exact n0 vb vf M2 hbf hm2
      simp only [c2, if_false]
      have tk : (nI g = -1000000 ↔ r = -1000000) := ⟨fun z => absurd z (nIm g (by omega)), fun z => absurd z c2⟩
      by_cases c3 : vf = -1000000
      · simp only [c3, hbf.mpr c3, if_true]
        exact n0 (nI g) r M2 tk hm2
      simp only [c3, show ¬ vb = -1000000 from fun z => c3 (hbf.mp z), if_false]
      by_cases c4 : vf ≤ r
      · simp only [c4, if_true]
        exact n0 vb vf M2 hbf hm2
      · simp only [c4, if_false]
        exact n0 (nI g) r M2 tk hm2
  exact key G 0 (by omega) N N (by omega) (by omega) _ _ M Iff.rfl (fun _ _ => rfl)
theorem op_bestGuest {N : Nat} (hN : 40000 ≤ N) : zOp_bestGuest N Sim := by
  intro X M hS a1
  obtain ⟨lim, q, w, H, G, ev, hV, hC⟩ := hS.2.2.2.2.1
  obtain ⟨⟨s0, hlim⟩, ⟨s1, hq⟩, _, ⟨s7, hH⟩, ⟨s8, hG⟩, _, _, _, _, hhs, hgs, hes⟩ := id hV
  unfold f_X6_bestGuest f_X7_bestGuest
  rcases castle_v hV hC with ⟨_, e1, e2⟩ | ⟨_, e1, e2⟩
  · simp only [e1, e2, zLet, zB1_s, zB2_s, z10, eq_self_iff_true, if_true, if_false]
    exact ⟨_, X, M, rfl, rfl, hS⟩
  simp only [e1, e2, zLet, zB1_s, zB2_s, z10, eq_self_iff_true, if_true, if_false]
  rcases rg a1 2 (by decide) with ⟨k, hk, rfl⟩ | h1
  rotate_left
  · simp only [bel2_f h1, in2_f h1, zLet, zB1_s, zB2_s, z10, eq_self_iff_true, if_true, if_false]
    exact ⟨_, X, M, rfl, rfl, hS⟩
  simp only [bel2_t hk, in2_t hk, zLet, zB1_s, zB2_s, z10, eq_self_iff_true, if_true, if_false]
  have p := p8 hH
  have x4 : X 7 4 = nI H := hC.1.2.2.2.2.2.2.2.1.trans s7
  obtain ⟨X1, m1, m2, m3⟩ := meas0_v hN (a := 2 ^ H - 1) hC hH hhs x4 (hC.1.1.trans s0) hlim (hC.1.2.1.trans s1) hq (by omega)
  unfold f_X6_bestGuest_41 f_X3_bestOf f_X2_allHints
  rw [x4, allH H (by omega), m1]
  simp only [zB1_s]
  have hw : ∃ a2 : Int32, ((nI k = 0 ∧ a2 = 1) ∨ (nI k = 1 ∧ a2 = 0)) ∧ (if nI k = 0 then (zB2 (f_X3_bestOf_20 N N X1 1 (-1000000) (-1000000) 0) (fun r_1 X_2 => some (r_1, X_2))) else (zB2 (f_X3_bestOf_20 N N X1 0 (-1000000) (-1000000) 0) (fun r_1 X_2 => some (r_1, X_2)))) = zB2 (f_X3_bestOf_20 N N X1 a2 (-1000000) (-1000000) 0) (fun r_1 X_2 => some (r_1, X_2)) := by
    match k, hk with
    | 0, _ => exact ⟨1, Or.inl ⟨rfl, rfl⟩, rfl⟩
    | 1, _ => exact ⟨0, Or.inr ⟨rfl, rfl⟩, rfl⟩
  obtain ⟨a2, w1, w2⟩ := hw
  obtain ⟨r, M2, b1, b2, b3⟩ := best_v hN hV (CK_f m2 hC) m3 w1
  refine ⟨r, X1, M2, ?_, b2, sim_scr hS m2 (fun c _ c2 _ _ => b3 c c2)⟩
  refine w2.trans ?_
  rw [b1]
  rfl
