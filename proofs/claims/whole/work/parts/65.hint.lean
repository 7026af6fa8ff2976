/-! one hint of the tape -/
theorem sort_kind : ∀ c, c < 256 → f_X5_sortOf (nI c) = f_X7_kindOf (nI c) := by decide +kernel
def kdN (c : Nat) : Nat := if c = 115 then 1 else if c = 103 then 2 else if c = 119 then 3 else if c = 109 then 4 else if c = 100 then 5 else 0
theorem kind_v : ∀ c, c < 256 → f_X7_kindOf (nI c) = nI (kdN c) := by decide +kernel
theorem kdN_le (c : Nat) : kdN c ≤ 5 := by
  unfold kdN
  (repeat' split) <;> omega
theorem kdN_l {c : Nat} (h : kdN c ≠ 0) : 97 ≤ c ∧ c ≤ 122 := by
  unfold kdN at h
  by_cases c1 : c = 115
  · omega
  by_cases c2 : c = 103
  · omega
  by_cases c3 : c = 119
  · omega
  by_cases c4 : c = 109
  · omega
  by_cases c5 : c = 100
  · omega
  · rw [if_neg c1, if_neg c2, if_neg c3, if_neg c4, if_neg c5] at h; exact absurd rfl h
def dF (X' X : KX) : Prop := (∀ c, c ≠ 5 → c ≠ 16 → c ≠ 17 → c ≠ 18 → c ≠ 19 → c ≠ 21 → c ≠ 22 → c ≠ 23 → X' c = X c) ∧ X' 5 1 = X 5 1 ∧ (∀ i, (i = 0 ∨ 5 < i) → X' 16 i = X 16 i)
def eF (M' M : KX) : Prop := (∀ c, c ≠ 0 → c ≠ 7 → M' c = M c) ∧ (∀ i, (i < 7 ∨ 12 < i) → M' 0 i = M 0 i) ∧ (M' 0 8 = -1 → M 0 8 = -1 ∧ M' 0 7 = M 0 7)
theorem tok_s {M : KX} {k p c : Nat} {b : Nat → Nat} {v : Int32} (h : tkS M k b p) (hc : (c = 44 ∧ v = 3) ∨ (c = 59 ∧ v = 4)) : ∃ s0 : Int32, ((M 0 11 = v ∧ s0 = 1) ∨ (¬ M 0 11 = v ∧ s0 = 0)) ∧ ((s0 = 1 ∧ p < k ∧ b p = c) ∨ (s0 = 0 ∧ ¬ (p < k ∧ b p = c))) := by
  have t := tok_c h hc
  by_cases d : M 0 11 = v
  · exact ⟨1, Or.inl ⟨d, rfl⟩, Or.inl ⟨rfl, t.mp d⟩⟩
  · exact ⟨0, Or.inr ⟨d, rfl⟩, Or.inr ⟨rfl, fun z => d (t.mpr z)⟩⟩
theorem wl_x {X X' M : KX} {k p : Nat} {b : Nat → Nat} (h : wl X M k b p) (h5 : X' 5 = X 5) (h6 : X' 6 = X 6) : wl X' M k b p := by
  obtain ⟨⟨a1, a2, a3, a4⟩, b1, b2, b3⟩ := h
  exact ⟨⟨by rw [h5]; exact a1, a2, a3, fun i hi => by rw [h6]; exact a4 i hi⟩, by rw [h5]; exact b1, b2, b3⟩
theorem wl_m {X M M' : KX} {k p : Nat} {b : Nat → Nat} (h : wl X M k b p) (h0 : M' 0 = M 0) (h5 : M' 5 = M 5) : wl X M' k b p := by
  obtain ⟨⟨a1, a2, a3, a4⟩, b1, b2, b3⟩ := h
  refine ⟨⟨a1, by rw [h0]; exact a2, a3, fun i hi => by rw [h5]; exact a4 i hi⟩, b1, by rw [h0]; exact b2, ?_⟩
  unfold tkS at b3 ⊢
  rw [h0]
  exact b3
theorem wl_p {X M : KX} {k p : Nat} {b : Nat → Nat} (h : wl X M k b p) : p ≤ k ∧ k ≤ 120 := ⟨h.2.2.2.2.1, h.1.2.2.1⟩
theorem cd1 {X' X : KX} (h : cF X' X) : dF X' X := ⟨fun c c5 _ _ _ _ _ _ _ => h.1 c c5, h.2, fun i _ => by rw [h.1 16 (by decide)]⟩
theorem cd_t {A B C : KX} (h1 : dF A B) (h2 : dF B C) : dF A C := ⟨fun c c1 c2 c3 c4 c5 c6 c7 c8 => (h1.1 c c1 c2 c3 c4 c5 c6 c7 c8).trans (h2.1 c c1 c2 c3 c4 c5 c6 c7 c8), h1.2.1.trans h2.2.1, fun i hi => (h1.2.2 i hi).trans (h2.2.2 i hi)⟩
theorem cd_u {X : KX} {c i : Nat} {v : Int32} (hc : c = 17 ∨ c = 18 ∨ c = 19 ∨ c = 21 ∨ c = 22 ∨ c = 23) : dF (zU X c i v) X := ⟨fun d d5 d16 d17 d18 d19 d21 d22 d23 => zU_o _ _ _ (by omega), by rw [zU_o _ _ _ (by omega)], fun j _ => by rw [zU_o _ _ _ (by omega)]⟩
theorem eb {M' M : KX} (h : bF M' M) : eF M' M := ⟨fun c c0 _ => h.1 c c0, h.2⟩
theorem e_t {A B C : KX} (h1 : eF A B) (h2 : eF B C) : eF A C := ⟨fun c c0 c7 => (h1.1 c c0 c7).trans (h2.1 c c0 c7), fun i hi => (h1.2.1 i hi).trans (h2.2.1 i hi), fun z => ⟨(h2.2.2 (h1.2.2 z).1).1, (h1.2.2 z).2.trans (h2.2.2 (h1.2.2 z).1).2⟩⟩
theorem e_u {M : KX} {i : Nat} {v : Int32} : eF (zU M 7 i v) M := ⟨fun c _ c7 => zU_o _ _ _ c7, fun j _ => by rw [zU_o _ _ _ (by decide)], fun z => ⟨z, rfl⟩⟩
theorem hint_v {N : Nat} (hN : 40000 ≤ N) {X M : KX} {k p h : Nat} {b : Nat → Nat} (hw : wl X M k b p) (hp : p < k) (hkd : kdN (b p) ≠ 0) (hh : h < 8) (m7 : M 7 7 = nI h) : ∃ X' M' : KX, dF X' X ∧ eF M' M ∧ f_X7_readsHint N M = some M' ∧ ((f_X5_tellsHint N X (nI h) = some (1, X') ∧ ∃ p' f t : Nat, wl X' M' k b p' ∧ f < 8 ∧ t < 8 ∧ f ≠ t ∧ X' 17 = upd (X 17) h (nI (kdN (b p))) ∧ X' 18 = upd (X 18) h (nI f) ∧ X' 19 = upd (X 19) h (nI t) ∧ X' 16 = X 16 ∧ X' 21 = X 21 ∧ X' 22 = X 22 ∧ X' 23 = X 23 ∧ M' 7 = upd (upd (upd (upd (upd (M 7) (9 + 4 * h) (nI (kdN (b p)))) (10 + 4 * h) (nI f)) (11 + 4 * h) (nI t)) (12 + 4 * h) 0) 7 (nI (h + 1))) ∨ (f_X5_tellsHint N X (nI h) = some (0, X') ∧ ∃ f kd, f ≤ 120 ∧ flt X' M' f kd)) := by
  obtain ⟨hpk, hk120⟩ := wl_p hw
  have hb := (hw.1.2.2.2 p hp).1
  have hlet := kdN_l hkd
  have hnd : ¬ dg (b p) := fun z => by unfold dg at z; omega
  have tc := tk_char hw.2.2.2 hp hnd
  have G8 : ∀ (α : Type) (e : Option α), zGd (nI h) 8 e = e := fun _ e => zGd_n e hh (by decide)
  have ch : (nI h).toNatClampNeg = h := nI_cl h (by omega)
  obtain ⟨M1, a1, a2, a3, a4⟩ := takes_yes hN (kd := 3) hw tc.2 (by omega)
  have m77 : M1 7 7 = nI h := by rw [a2.1 7 (by decide)]; exact m7
  have h8 : ¬ (8 : Int32) ≤ nI h := by rw [show (8 : Int32) = nI 8 from rfl, le_n (by omega) (by omega)]; omega
  -- the model's start
  have eM : f_X7_readsHint N M = f_X7_readsHint_57 N M1 (nI h) 4 9 (nI (kdN (b p))) := by
    unfold f_X7_readsHint f_X7_readsHint_26
    simp only [zLet, z71_0, z71_1, z71_2, z71_3, z71_4, z71_5, z71_6, z71_7, z71_8, cl_0, cl_1, cl_2, cl_3, cl_4, cl_5, cl_6, cl_7, cl_8]
    rw [m7, if_neg h8, a1, tc.1, kind_v _ hb]
    simp only [zB2_s]
    rw [m77, if_neg h8]
  rw [eM]
  -- the class's start
  have e17 : f_X5_sortOf (nI (b p)) = nI (kdN (b p)) := (sort_kind _ hb).trans (kind_v _ hb)
  obtain ⟨X3, hX3⟩ : ∃ X3 : KX, X3 = zU (zU X 17 h (nI (kdN (b p)))) 5 2 (nI (p + 1)) := ⟨_, rfl⟩
  have d3 : dF X3 X := by
    rw [hX3]
    exact cd_t (cd1 ⟨fun c hc => zU_o _ _ _ hc, by rw [zU_s, up_o _ _ (by decide)]⟩) (cd_u (by omega))
  have w3 : wl X3 M1 k b (p + 1) := by
    obtain ⟨⟨g1, g2, g3, g4⟩, _⟩ := hw
    refine ⟨⟨by rw [hX3]; exact g1, by rw [a2.2.1 6 (by omega)]; exact g2, g3, fun i hi => by rw [a2.1 5 (by decide), hX3]; exact g4 i hi⟩, by rw [hX3, zU_s, up_s], a3, a4⟩
  have fg := fig_v hN (lo := 0) (hi := 7) w3 (by decide) (by decide)
  obtain ⟨X4, M2, r, q1, q2, q3, q4⟩ := fg
  have eC : f_X5_tellsHint N X (nI h) = zB2 (f_X5_tellsNumber N X3 0 7 (-1)) (fun r_4 X_5 => if r_4 = 0 then (some (0, X_5)) else (zLet (zU X_5 18 h (X_5 5 4)) (fun X_6 => zB2 (f_X5_tellsSign X_6 44) (fun r_7 X_8 => if r_7 = 0 then (some (0, X_8)) else (zB2 (f_X5_tellsNumber N X_8 0 7 (X_8 18 h)) (fun r_9 X_10 => if r_9 = 0 then (some (0, X_10)) else (zLet (zU X_10 19 h (X_10 5 4)) (fun X_11 => zB2 (f_X5_tellsSign X_11 59) (fun r_12 X_13 => zGb r_12 (some (r_12, X_13))))))))))) := by
    unfold f_X5_tellsHint
    rw [lett_v hw.1 hw.2.1 (by omega), if_pos hp]
    simp only [zB1_s, G8, ch, zLet]
    rw [e17, show (zU X 17 h (nI (kdN (b p)))) 5 2 + 1 = nI (p + 1) by rw [zU_o _ _ _ (by decide), hw.2.1, nIp], ← hX3]
  rw [eC]
  have e57 : f_X7_readsHint_57 N M1 (nI h) 4 9 (nI (kdN (b p))) = zB2 (f_X7_figure N M1 0 7) (fun r_2 X_3 => if (X_3 0 11) = 3 then (f_X7_readsHint_82 N X_3 1 (nI (kdN (b p))) (nI (9 + 4 * h)) r_2) else (f_X7_readsHint_82 N X_3 0 (nI (kdN (b p))) (nI (9 + 4 * h)) r_2)) := by
    unfold f_X7_readsHint_57
    simp only [zLet]
    rw [ixh]
  rw [e57]
  have q1' : f_X7_figure N M1 0 7 = some (r, M2) := q1
  rw [q1']
  simp only [zB2_s]
  have b12 : bF M2 M := bF_t q3 a2
  rcases q4 with ⟨f, e, n1, n2, n3, n4, _, n6⟩ | ⟨kd, n1, n2⟩
  rotate_left
  · have n1' : f_X5_tellsNumber N X3 0 7 (-1) = some (0, X4) := n1
    rw [n1']
    simp only [zB2_s, if_true]
    have hp1 := wl_p w3
    refine ⟨X4, M2, cd_t (cd1 q2) d3, eb b12, ?_, Or.inr ⟨rfl, p + 1, kd, by omega, n2⟩⟩
    rw [h82_i n2.2.2.1 (by omega), h82_i n2.2.2.1 (by omega)]
    split <;> rfl
  have n1' : f_X5_tellsNumber N X3 0 7 (-1) = some (1, X4) := n1
  rw [n1', n3]
  simp only [zB2_s, z10, if_false, zLet]
  obtain ⟨s0, t1, t2⟩ := tok_s n2.2.2.2 (Or.inl ⟨rfl, rfl⟩)
  have w6 : wl (zU X4 18 h (X4 5 4)) M2 k b e := wl_x n2 (zU_o _ _ _ (by decide)) (zU_o _ _ _ (by decide))
  obtain ⟨X6, M3, r3, s1, s2, s3, s4⟩ := sign_v hN w6 (show 44 < 256 by decide) (by unfold dg; omega) t2
  have e82 : (if M2 0 11 = 3 then f_X7_readsHint_82 N M2 1 (nI (kdN (b p))) (nI (9 + 4 * h)) (nI f) else f_X7_readsHint_82 N M2 0 (nI (kdN (b p))) (nI (9 + 4 * h)) (nI f)) = zB2 (f_X7_figureBut N M3 7 (nI f)) (fun r_3 X_4 => if (X_4 0 11) = 4 then (f_X7_readsHint_110 N X_4 1 (nI (kdN (b p))) (nI (9 + 4 * h)) (nI f) r_3) else (f_X7_readsHint_110 N X_4 0 (nI (kdN (b p))) (nI (9 + 4 * h)) (nI f) r_3)) := by
    have : ∀ s : Int32, s = s0 → f_X7_readsHint_82 N M2 s (nI (kdN (b p))) (nI (9 + 4 * h)) (nI f) = zB2 (f_X7_figureBut N M3 7 (nI f)) (fun r_3 X_4 => if (X_4 0 11) = 4 then (f_X7_readsHint_110 N X_4 1 (nI (kdN (b p))) (nI (9 + 4 * h)) (nI f) r_3) else (f_X7_readsHint_110 N X_4 0 (nI (kdN (b p))) (nI (9 + 4 * h)) (nI f) r_3)) := by
      intro s hs
      unfold f_X7_readsHint_82
      rw [hs, s1]
      rfl
    rcases t1 with ⟨y1, y2⟩ | ⟨y1, y2⟩
    · rw [if_pos y1, this 1 y2.symm]
    · rw [if_neg y1, this 0 y2.symm]
  rw [e82]
  have d6 : dF X6 X := cd_t (cd1 s2) (cd_t (cd_u (by omega)) (cd_t (cd1 q2) d3))
  have b13 : bF M3 M := bF_t s3 b12
  have he := wl_p n2
  rcases s4 with ⟨z1, z2⟩ | ⟨z1, z2⟩
  rotate_left
  · have z1' : f_X5_tellsSign (zU X4 18 h (X4 5 4)) 44 = some (0, X6) := z1
    rw [z1']
    simp only [zB2_s, if_true]
    refine ⟨X6, M3, d6, eb b13, ?_, Or.inr ⟨rfl, e, 1, by omega, z2⟩⟩
    rw [figB_i z2.2.2.1 (by omega)]
    simp only [zB2_s]
    rw [h110_i z2.2.2.1 (by omega), h110_i z2.2.2.1 (by omega)]
    split <;> rfl
  have z1' : f_X5_tellsSign (zU X4 18 h (X4 5 4)) 44 = some (1, X6) := z1
  rw [z1']
  simp only [zB2_s, z10, if_false]
  have x18 : X6 18 = upd (X 18) h (nI f) := by
    rw [s2.1 18 (by decide), zU_s, n4, q2.1 18 (by decide), hX3]; rfl
  rw [show X6 18 h = nI f by rw [x18, up_s]]
  obtain ⟨X7, M4, r4, k1, k2, k3, k4⟩ := figB_v hN z2 (show f < 8 by omega)
  rw [k1]
  simp only [zB2_s]
  have b14 : bF M4 M := bF_t k3 b13
  have hp6 := wl_p z2
  rcases k4 with ⟨t, e2, j1, j2, j3, j4, j5, j6⟩ | ⟨kd, j1, j2⟩
  rotate_left
  · rw [j1]
    simp only [zB2_s, if_true]
    refine ⟨X7, M4, cd_t (cd1 k2) d6, eb b14, ?_, Or.inr ⟨rfl, e + 1, kd, by omega, j2⟩⟩
    rw [h110_i j2.2.2.1 (by omega), h110_i j2.2.2.1 (by omega)]
    split <;> rfl
  rw [j1, j3]
  simp only [zB2_s, z10, if_false, zLet]
  obtain ⟨s0', t1', t2'⟩ := tok_s j2.2.2.2 (Or.inr ⟨rfl, rfl⟩)
  have w8 : wl (zU X7 19 h (X7 5 4)) M4 k b e2 := wl_x j2 (zU_o _ _ _ (by decide)) (zU_o _ _ _ (by decide))
  obtain ⟨X9, M5, r5, o1, o2, o3, o4⟩ := sign_v hN w8 (show 59 < 256 by decide) (by unfold dg; omega) t2'
  have d9 : dF X9 X := cd_t (cd1 o2) (cd_t (cd_u (by omega)) (cd_t (cd1 k2) d6))
  have b15 : bF M5 M := bF_t o3 b14
  have e110 : ∀ R : Option KX, (f_X7_readsHint_110 N M4 s0' (nI (kdN (b p))) (nI (9 + 4 * h)) (nI f) (nI t) = R) → (if M4 0 11 = 4 then f_X7_readsHint_110 N M4 1 (nI (kdN (b p))) (nI (9 + 4 * h)) (nI f) (nI t) else f_X7_readsHint_110 N M4 0 (nI (kdN (b p))) (nI (9 + 4 * h)) (nI f) (nI t)) = R := by
    intro R hR
    rcases t1' with ⟨y1, y2⟩ | ⟨y1, y2⟩
    · rw [if_pos y1, ← y2]; exact hR
    · rw [if_neg y1, ← y2]; exact hR
  have he2 := wl_p j2
  rcases o4 with ⟨z3, z4⟩ | ⟨z3, z4⟩
  rotate_left
  · have z3' : f_X5_tellsSign (zU X7 19 h (X7 5 4)) 59 = some (0, X9) := z3
    rw [z3']
    simp only [zB2_s]
    rw [zGb_ok _ (Or.inl rfl)]
    refine ⟨X9, M5, d9, eb b15, e110 _ ?_, Or.inr ⟨rfl, e2, 1, by omega, z4⟩⟩
    unfold f_X7_readsHint_110
    rw [o1]
    simp only [zB2_s]
    rw [ill z4.2.2.1 (by omega), if_pos rfl]
  have z3' : f_X5_tellsSign (zU X7 19 h (X7 5 4)) 59 = some (1, X9) := z3
  rw [z3']
  simp only [zB2_s]
  rw [zGb_ok _ (Or.inr rfl)]
  have c7 : M5 7 = M 7 := b15.1 7 (by decide)
  refine ⟨X9, zU (zU (zU (zU (zU M5 7 (9 + 4 * h) (nI (kdN (b p)))) 7 (10 + 4 * h) (nI f)) 7 (11 + 4 * h) (nI t)) 7 (12 + 4 * h) 0) 7 7 (nI (h + 1)), d9, e_t e_u (e_t e_u (e_t e_u (e_t e_u (e_t e_u (eb b15))))), e110 _ ?_, Or.inl ⟨rfl, e2 + 1, f, t, wl_m z4 rfl rfl, by omega, by omega, fun z => j6 z.symm, ?_, ?_, ?_, ?_, ?_, ?_, ?_, ?_⟩⟩
  · unfold f_X7_readsHint_110
    rw [o1]
    simp only [zB2_s]
    rw [well_t z4.2.2.1, if_neg (by decide)]
    rw [show nI (9 + 4 * h) + 1 = nI (10 + 4 * h) by rw [show (1 : Int32) = nI 1 from rfl, nI_add]; congr 1; omega, show nI (9 + 4 * h) + 2 = nI (11 + 4 * h) by rw [show (2 : Int32) = nI 2 from rfl, nI_add]; congr 1; omega, show nI (9 + 4 * h) + 3 = nI (12 + 4 * h) by rw [show (3 : Int32) = nI 3 from rfl, nI_add]; congr 1; omega]
    simp only [zG71 (show 9 + 4 * h < 71 by omega), zG71 (show 10 + 4 * h < 71 by omega), zG71 (show 11 + 4 * h < 71 by omega), zG71 (show 12 + 4 * h < 71 by omega), nI_cl (9 + 4 * h) (by omega), nI_cl (10 + 4 * h) (by omega), nI_cl (11 + 4 * h) (by omega), nI_cl (12 + 4 * h) (by omega), zLet, z71_0, z71_1, z71_2, z71_3, z71_4, z71_5, z71_6, z71_7, z71_8, cl_0, cl_1, cl_2, cl_3, cl_4, cl_5, cl_6, cl_7, cl_8]
    rw [show (zU (zU (zU (zU M5 7 (9 + 4 * h) (nI (kdN (b p)))) 7 (10 + 4 * h) (nI f)) 7 (11 + 4 * h) (nI t)) 7 (12 + 4 * h) 0) 7 7 + 1 = nI (h + 1) by
      rw [zU_s, up_o _ _ (by omega), zU_s, up_o _ _ (by omega), zU_s, up_o _ _ (by omega), zU_s, up_o _ _ (by omega), c7, m7, nIp]]
  · rw [o2.1 17 (by decide), zU_o _ _ _ (by decide), k2.1 17 (by decide), s2.1 17 (by decide), zU_o _ _ _ (by decide), q2.1 17 (by decide), hX3]; rfl
  · rw [o2.1 18 (by decide), zU_o _ _ _ (by decide), k2.1 18 (by decide), x18]
  · rw [o2.1 19 (by decide), zU_s, j4, k2.1 19 (by decide), s2.1 19 (by decide), zU_o _ _ _ (by decide), q2.1 19 (by decide), hX3]; rfl
  · rw [o2.1 16 (by decide), zU_o _ _ _ (by decide), k2.1 16 (by decide), s2.1 16 (by decide), zU_o _ _ _ (by decide), q2.1 16 (by decide), hX3]; rfl
  · rw [o2.1 21 (by decide), zU_o _ _ _ (by decide), k2.1 21 (by decide), s2.1 21 (by decide), zU_o _ _ _ (by decide), q2.1 21 (by decide), hX3]; rfl
  · rw [o2.1 22 (by decide), zU_o _ _ _ (by decide), k2.1 22 (by decide), s2.1 22 (by decide), zU_o _ _ _ (by decide), q2.1 22 (by decide), hX3]; rfl
  · rw [o2.1 23 (by decide), zU_o _ _ _ (by decide), k2.1 23 (by decide), s2.1 23 (by decide), zU_o _ _ _ (by decide), q2.1 23 (by decide), hX3]; rfl
  · rw [zU_s, zU_s, zU_s, zU_s, zU_s, c7]
