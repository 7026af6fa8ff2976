/-! one guest of the tape -/
theorem ite_s {α : Type} {P : Prop} [Decidable P] {s0 : Int32} (F : Int32 → α) (h : (P ∧ s0 = 1) ∨ (¬ P ∧ s0 = 0)) : (if P then F 1 else F 0) = F s0 := by
  rcases h with ⟨h1, h2⟩ | ⟨h1, h2⟩
  · rw [if_pos h1, h2]
  · rw [if_neg h1, h2]
/-- a number and then a sign, on both sides -/
theorem ns_v {N : Nat} (hN : 40000 ≤ N) {X M : KX} {k p lo hi c i ch : Nat} {b : Nat → Nat} {v : Int32} (h : wl X M k b p) (hlo : lo < 100) (hhi : hi < 100) (hc5 : c ≠ 5) (hc6 : c ≠ 6) (hch : (ch = 44 ∧ v = 3) ∨ (ch = 59 ∧ v = 4)) : ∃ (X' M' M1 X1 : KX) (r r2 s0 : Int32), f_X7_figure N M (nI lo) (nI hi) = some (r, M1) ∧ ((M1 0 11 = v ∧ s0 = 1) ∨ (¬ M1 0 11 = v ∧ s0 = 0)) ∧ f_X7_takes N M1 s0 1 = some (r2, M') ∧ bF M' M ∧ ((∀ d, d ≠ 5 → d ≠ c → X' d = X d) ∧ X' 5 1 = X 5 1 ∧ ∀ j, j ≠ i → X' c j = X c j) ∧
    ((∃ vv e, f_X5_tellsNumber N X (nI lo) (nI hi) (-1) = some (1, X1) ∧ f_X5_tellsSign (zU X1 c i (X1 5 4)) (nI ch) = some (1, X') ∧ wl X' M' k b e ∧ r = nI vv ∧ lo ≤ vv ∧ vv ≤ hi ∧ X' c = upd (X c) i (nI vv)) ∨
     (f_X5_tellsNumber N X (nI lo) (nI hi) (-1) = some (1, X1) ∧ f_X5_tellsSign (zU X1 c i (X1 5 4)) (nI ch) = some (0, X') ∧ ∃ f kd, f ≤ 120 ∧ flt X' M' f kd) ∨
     (f_X5_tellsNumber N X (nI lo) (nI hi) (-1) = some (0, X') ∧ ∃ f kd, f ≤ 120 ∧ flt X' M' f kd)) := by
  have hch2 : ch < 256 ∧ ¬ dg ch := by unfold dg; omega
  obtain ⟨X1, M1, r, q1, q2, q3, q4⟩ := fig_v hN h hlo hhi
  have hp := wl_p h
  rcases q4 with ⟨vv, e, n1, n2, n3, n4, n5, n6⟩ | ⟨kd, n1, n2⟩
  rotate_left
  · have hs : ∃ s0 : Int32, (M1 0 11 = v ∧ s0 = 1) ∨ (¬ M1 0 11 = v ∧ s0 = 0) := by
      by_cases d : M1 0 11 = v
      · exact ⟨1, Or.inl ⟨d, rfl⟩⟩
      · exact ⟨0, Or.inr ⟨d, rfl⟩⟩
    obtain ⟨s0, hs⟩ := hs
    exact ⟨X1, M1, M1, X1, r, 0, s0, q1, hs, takes_i n2.2.2.1 (by omega) _ _, q3, ⟨fun d d5 _ => q2.1 d d5, q2.2, fun j _ => by rw [q2.1 c hc5]⟩, Or.inr (Or.inr ⟨n1, p, kd, by omega, n2⟩)⟩
  obtain ⟨s0, t1, t2⟩ := tok_s n2.2.2.2 hch
  have w6 : wl (zU X1 c i (X1 5 4)) M1 k b e := wl_x n2 (zU_o _ _ _ (fun z => hc5 z.symm)) (zU_o _ _ _ (fun z => hc6 z.symm))
  obtain ⟨X6, M3, r3, s1, s2, s3, s4⟩ := sign_v hN w6 hch2.1 hch2.2 t2
  have he := wl_p n2
  have xc : X6 c = upd (X c) i (nI vv) := by rw [s2.1 c hc5, zU_s, n4, q2.1 c hc5]
  have fr : (∀ d, d ≠ 5 → d ≠ c → X6 d = X d) ∧ X6 5 1 = X 5 1 ∧ ∀ j, j ≠ i → X6 c j = X c j := ⟨fun d d5 dc => by rw [s2.1 d d5, zU_o _ _ _ dc, q2.1 d d5], by rw [s2.2, zU_o _ _ _ (fun z => hc5 z.symm), q2.2], fun j hj => by rw [xc, up_o _ _ hj]⟩
  refine ⟨X6, M3, M1, X1, r, r3, s0, q1, t1, s1, bF_t s3 q3, fr, ?_⟩
  rcases s4 with ⟨z1, z2⟩ | ⟨z1, z2⟩
  · exact Or.inl ⟨vv, e + 1, n1, z1, z2, n3, n5, n6, xc⟩
  · exact Or.inr (Or.inl ⟨n1, z1, e, 1, by omega, z2⟩)
theorem cd_n {X' X : KX} {c : Nat} (hc : c = 17 ∨ c = 18 ∨ c = 19 ∨ c = 21 ∨ c = 22 ∨ c = 23) (h1 : ∀ d, d ≠ 5 → d ≠ c → X' d = X d) (h2 : X' 5 1 = X 5 1) : dF X' X := ⟨fun d d5 d16 d17 d18 d19 d21 d22 d23 => h1 d d5 (by omega), h2, fun j _ => by rw [h1 16 (by decide) (by omega)]⟩
theorem wr71 {α : Type} {k w : Nat} (h : k + w < 71) (e : Option α) : zGd (nI k + nI w) 71 e = e := by rw [nI_add]; exact zG71 h _ _
theorem wrcl {k w : Nat} (h : k + w < 71) : (nI k + nI w).toNatClampNeg = k + w := by rw [nI_add]; exact nI_cl _ (by omega)
theorem guest_v {N : Nat} (hN : 40000 ≤ N) {X M : KX} {k p g : Nat} {b : Nat → Nat} (hw : wl X M k b p) (hp : p < k) (hn : b p = 110) (hg : g < 6) (m8 : M 7 8 = nI g) : ∃ X' M' : KX, dF X' X ∧ eF M' M ∧ f_X7_readsGuest N M = some M' ∧ ((f_X5_tellsGuest N X (nI g) = some (1, X') ∧ ∃ p' a c d : Nat, wl X' M' k b p' ∧ a < 8 ∧ c ≤ 20 ∧ d ≤ 20 ∧ X' 21 = upd (X 21) g (nI a) ∧ X' 22 = upd (X 22) g (nI c) ∧ X' 23 = upd (X 23) g (nI d) ∧ X' 16 = X 16 ∧ X' 17 = X 17 ∧ X' 18 = X 18 ∧ X' 19 = X 19 ∧ M' 7 = upd (upd (upd (upd (upd (upd (M 7) (41 + 5 * g) (nI a)) (41 + 5 * g + 1) (nI c)) (41 + 5 * g + 2) (nI d)) (41 + 5 * g + 3) 0) (41 + 5 * g + 4) (-1000000)) 8 (nI (g + 1))) ∨ (f_X5_tellsGuest N X (nI g) = some (0, X') ∧ ∃ f kd, f ≤ 120 ∧ flt X' M' f kd)) := by
  obtain ⟨hpk, hk120⟩ := wl_p hw
  have hnd : ¬ dg (b p) := fun z => by unfold dg at z; omega
  have tc := tk_char hw.2.2.2 hp hnd
  have G6 : ∀ (α : Type) (e : Option α), zGd (nI g) 6 e = e := fun _ e => zGd_n e hg (by decide)
  have cg : (nI g).toNatClampNeg = g := nI_cl g (by omega)
  obtain ⟨M1, a1, a2, a3, a4⟩ := takes_yes hN (kd := 3) hw tc.2 (by omega)
  have m81 : M1 7 8 = nI g := by rw [a2.1 7 (by decide)]; exact m8
  have h6 : ¬ (6 : Int32) ≤ nI g := by rw [show (6 : Int32) = nI 6 from rfl, le_n (by omega) (by omega)]; omega
  obtain ⟨X3, hX3⟩ : ∃ X3 : KX, X3 = zU X 5 2 (nI (p + 1)) := ⟨_, rfl⟩
  have c3 : cF X3 X := by rw [hX3]; exact ⟨fun c hc => zU_o _ _ _ hc, by rw [zU_s, up_o _ _ (by decide)]⟩
  have w3 : wl X3 M1 k b (p + 1) := by
    obtain ⟨⟨g1, g2, g3, g4⟩, _⟩ := hw
    refine ⟨⟨by rw [hX3]; exact g1, by rw [a2.2.1 6 (by omega)]; exact g2, g3, fun i hi => by rw [a2.1 5 (by decide), hX3]; exact g4 i hi⟩, by rw [hX3, zU_s, up_s], a3, a4⟩
  obtain ⟨X6, M3, M2, X4, ra, rx, s0, q1, q2, q3, q4, q5, q6⟩ := ns_v hN (lo := 0) (hi := 7) (c := 21) (i := g) (ch := 44) (v := 3) w3 (by decide) (by decide) (by decide) (by decide) (by decide)
  have q1' : f_X7_figure N M1 0 7 = some (ra, M2) := q1
  have i1 : (if M2 0 11 = 3 then f_X7_readsGuest_74 N M2 1 (nI (41 + 5 * g)) ra else f_X7_readsGuest_74 N M2 0 (nI (41 + 5 * g)) ra) = f_X7_readsGuest_74 N M2 s0 (nI (41 + 5 * g)) ra := ite_s (fun s => f_X7_readsGuest_74 N M2 s (nI (41 + 5 * g)) ra) q2
  have e74 : f_X7_readsGuest_74 N M2 s0 (nI (41 + 5 * g)) ra = zB2 (f_X7_figure N M3 0 20) (fun r_3 X_4 => if (X_4 0 11) = 3 then (f_X7_readsGuest_101 N X_4 1 (nI (41 + 5 * g)) ra r_3) else (f_X7_readsGuest_101 N X_4 0 (nI (41 + 5 * g)) ra r_3)) := by
    unfold f_X7_readsGuest_74
    rw [q3]
    rfl
  have eM : f_X7_readsGuest N M = zB2 (f_X7_figure N M3 0 20) (fun r_3 X_4 => if (X_4 0 11) = 3 then (f_X7_readsGuest_101 N X_4 1 (nI (41 + 5 * g)) ra r_3) else (f_X7_readsGuest_101 N X_4 0 (nI (41 + 5 * g)) ra r_3)) := by
    unfold f_X7_readsGuest f_X7_readsGuest_18 f_X7_readsGuest_49
    simp only [zLet, z71_0, z71_1, z71_2, z71_3, z71_4, z71_5, z71_6, z71_7, z71_8, cl_0, cl_1, cl_2, cl_3, cl_4, cl_5, cl_6, cl_7, cl_8]
    rw [m8, if_neg h6, a1]
    simp only [zB2_s]
    rw [m81, if_neg h6, q1']
    simp only [zB2_s]
    rw [show (41 : Int32) + 5 * nI g = nI (41 + 5 * g) by rw [show (5 : Int32) = nI 5 from rfl, pk_mul, show (41 : Int32) = nI 41 from rfl, nI_add], i1, e74]
  rw [eM]
  have eC : f_X5_tellsGuest N X (nI g) = zB2 (f_X5_tellsNumber N X3 (nI 0) (nI 7) (-1)) (fun r_2 X_3 => if r_2 = 0 then (some (0, X_3)) else (zLet (zU X_3 21 g (X_3 5 4)) (fun X_4 => zB2 (f_X5_tellsSign X_4 (nI 44)) (fun r_5 X_6 => if r_5 = 0 then (some (0, X_6)) else (zB2 (f_X5_tellsNumber N X_6 (nI 0) (nI 20) (-1)) (fun r_7 X_8 => if r_7 = 0 then (some (0, X_8)) else (zLet (zU X_8 22 g (X_8 5 4)) (fun X_9 => zB2 (f_X5_tellsSign X_9 (nI 44)) (fun r_10 X_11 => if r_10 = 0 then (some (0, X_11)) else (zB2 (f_X5_tellsNumber N X_11 (nI 0) (nI 20) (-1)) (fun r_12 X_13 => if r_12 = 0 then (some (0, X_13)) else (zLet (zU X_13 23 g (X_13 5 4)) (fun X_14 => zB2 (f_X5_tellsSign X_14 (nI 59)) (fun r_15 X_16 => zGb r_15 (some (r_15, X_16)))))))))))))))) := by
    unfold f_X5_tellsGuest
    simp only [G6, cg, zLet]
    rw [hw.2.1, nIp, ← hX3]
    rfl
  rw [eC]
  have d3 : dF X6 X := cd_t (cd_n (by decide) q5.1 q5.2.1) (cd1 c3)
  have b3 : bF M3 M := bF_t q4 a2
  have g101 : ∀ {f : Nat} (kd : Int32), f ≤ 120 → flt X6 M3 f kd → zB2 (f_X7_figure N M3 0 20) (fun r_3 X_4 => if (X_4 0 11) = 3 then (f_X7_readsGuest_101 N X_4 1 (nI (41 + 5 * g)) ra r_3) else (f_X7_readsGuest_101 N X_4 0 (nI (41 + 5 * g)) ra r_3)) = some M3 := by
    intro f kd hf hfl
    rw [fig_i hfl.2.2.1 hf]
    simp only [zB2_s]
    rw [g101_i hfl.2.2.1 hf, g101_i hfl.2.2.1 hf]
    split <;> rfl
  rcases q6 with ⟨a, e1, n1, n2, n3, n4, _, n6, n7⟩ | ⟨n1, n2, f, kd, n3, n4⟩ | ⟨n1, f, kd, n3, n4⟩
  rotate_left
  · rw [n1]
    simp only [zB2_s, z10, if_false, zLet]
    rw [n2]
    simp only [zB2_s, if_true]
    exact ⟨X6, M3, d3, eb b3, g101 kd n3 n4, Or.inr ⟨rfl, f, kd, n3, n4⟩⟩
  · rw [n1]
    simp only [zB2_s, if_true]
    exact ⟨X6, M3, d3, eb b3, g101 kd n3 n4, Or.inr ⟨rfl, f, kd, n3, n4⟩⟩
  clear g101
  rw [n1]
  simp only [zB2_s, z10, if_false, zLet]
  rw [n2]
  simp only [zB2_s, z10, if_false, zLet]
  obtain ⟨X8, M5, M4, X7, rb, rx2, s0', q1b, q2b, q3b, q4b, q5b, q6b⟩ := ns_v hN (lo := 0) (hi := 20) (c := 22) (i := g) (ch := 44) (v := 3) n3 (by decide) (by decide) (by decide) (by decide) (by decide)
  have q1b' : f_X7_figure N M3 0 20 = some (rb, M4) := q1b
  have i2 : (if M4 0 11 = 3 then f_X7_readsGuest_101 N M4 1 (nI (41 + 5 * g)) ra rb else f_X7_readsGuest_101 N M4 0 (nI (41 + 5 * g)) ra rb) = f_X7_readsGuest_101 N M4 s0' (nI (41 + 5 * g)) ra rb := ite_s (fun s => f_X7_readsGuest_101 N M4 s (nI (41 + 5 * g)) ra rb) q2b
  have e101 : f_X7_readsGuest_101 N M4 s0' (nI (41 + 5 * g)) ra rb = zB2 (f_X7_figure N M5 0 20) (fun r_3 X_4 => if (X_4 0 11) = 4 then (f_X7_readsGuest_129 N X_4 1 (nI (41 + 5 * g)) ra rb r_3) else (f_X7_readsGuest_129 N X_4 0 (nI (41 + 5 * g)) ra rb r_3)) := by
    unfold f_X7_readsGuest_101
    rw [q3b]
    rfl
  rw [q1b']
  simp only [zB2_s]
  rw [i2, e101]
  have d8 : dF X8 X := cd_t (cd_n (by decide) q5b.1 q5b.2.1) d3
  have b5 : bF M5 M := bF_t q4b b3
  have g129 : ∀ {f : Nat} (kd : Int32), f ≤ 120 → flt X8 M5 f kd → zB2 (f_X7_figure N M5 0 20) (fun r_3 X_4 => if (X_4 0 11) = 4 then (f_X7_readsGuest_129 N X_4 1 (nI (41 + 5 * g)) ra rb r_3) else (f_X7_readsGuest_129 N X_4 0 (nI (41 + 5 * g)) ra rb r_3)) = some M5 := by
    intro f kd hf hfl
    rw [fig_i hfl.2.2.1 hf]
    simp only [zB2_s]
    rw [g129_i hfl.2.2.1 hf, g129_i hfl.2.2.1 hf]
    split <;> rfl
  rcases q6b with ⟨c, e2, n1b, n2b, n3b, n4b, _, n6b, n7b⟩ | ⟨n1b, n2b, f, kd, n3b, n4b⟩ | ⟨n1b, f, kd, n3b, n4b⟩
  rotate_left
  · rw [n1b]
    simp only [zB2_s, z10, if_false, zLet]
    rw [n2b]
    simp only [zB2_s, if_true]
    exact ⟨X8, M5, d8, eb b5, g129 kd n3b n4b, Or.inr ⟨rfl, f, kd, n3b, n4b⟩⟩
  · rw [n1b]
    simp only [zB2_s, if_true]
    exact ⟨X8, M5, d8, eb b5, g129 kd n3b n4b, Or.inr ⟨rfl, f, kd, n3b, n4b⟩⟩
  clear g129
  rw [n1b]
  simp only [zB2_s, z10, if_false, zLet]
  rw [n2b]
  simp only [zB2_s, z10, if_false, zLet]
  obtain ⟨XA, M7, M6, X9, rc, rx3, s2, q1c, q2c, q3c, q4c, q5c, q6c⟩ := ns_v hN (lo := 0) (hi := 20) (c := 23) (i := g) (ch := 59) (v := 4) n3b (by decide) (by decide) (by decide) (by decide) (by decide)
  have q1c' : f_X7_figure N M5 0 20 = some (rc, M6) := q1c
  have i3 : (if M6 0 11 = 4 then f_X7_readsGuest_129 N M6 1 (nI (41 + 5 * g)) ra rb rc else f_X7_readsGuest_129 N M6 0 (nI (41 + 5 * g)) ra rb rc) = f_X7_readsGuest_129 N M6 s2 (nI (41 + 5 * g)) ra rb rc := ite_s (fun s => f_X7_readsGuest_129 N M6 s (nI (41 + 5 * g)) ra rb rc) q2c
  rw [q1c']
  simp only [zB2_s]
  rw [i3]
  have dA : dF XA X := cd_t (cd_n (by decide) q5c.1 q5c.2.1) d8
  have b7 : bF M7 M := bF_t q4c b5
  have g7 : ∀ {f : Nat} (kd : Int32), f ≤ 120 → flt XA M7 f kd → f_X7_readsGuest_129 N M6 s2 (nI (41 + 5 * g)) ra rb rc = some M7 := by
    intro f kd hf hfl
    unfold f_X7_readsGuest_129
    rw [q3c]
    simp only [zB2_s]
    rw [ill hfl.2.2.1 hf, if_pos rfl]
  rcases q6c with ⟨d, e3, n1c, n2c, n3c, n4c, _, n6c, n7c⟩ | ⟨n1c, n2c, f, kd, n3c, n4c⟩ | ⟨n1c, f, kd, n3c, n4c⟩
  rotate_left
  · rw [n1c]
    simp only [zB2_s, z10, if_false, zLet]
    rw [n2c]
    simp only [zB2_s]
    rw [zGb_ok _ (Or.inl rfl)]
    exact ⟨XA, M7, dA, eb b7, g7 kd n3c n4c, Or.inr ⟨rfl, f, kd, n3c, n4c⟩⟩
  · rw [n1c]
    simp only [zB2_s, if_true]
    exact ⟨XA, M7, dA, eb b7, g7 kd n3c n4c, Or.inr ⟨rfl, f, kd, n3c, n4c⟩⟩
  clear g7
  rw [n1c]
  simp only [zB2_s, z10, if_false, zLet]
  rw [n2c]
  simp only [zB2_s]
  rw [zGb_ok _ (Or.inr rfl)]
  have c7 : M7 7 = M 7 := b7.1 7 (by decide)
  refine ⟨XA, zU (zU (zU (zU (zU (zU M7 7 (41 + 5 * g) (nI a)) 7 (41 + 5 * g + 1) (nI c)) 7 (41 + 5 * g + 2) (nI d)) 7 (41 + 5 * g + 3) 0) 7 (41 + 5 * g + 4) (-1000000)) 7 8 (nI (g + 1)), dA, e_t e_u (e_t e_u (e_t e_u (e_t e_u (e_t e_u (e_t e_u (eb b7)))))), ?_, Or.inl ⟨rfl, e3, a, c, d, wl_m n3c rfl rfl, by omega, by omega, by omega, ?_, ?_, ?_, ?_, ?_, ?_, ?_, ?_⟩⟩
  · unfold f_X7_readsGuest_129
    rw [q3c]
    simp only [zB2_s]
    rw [well_t n3c.2.2.1, if_neg (by decide), n4, n4b, n4c]
    rw [show (0 : Int32) = nI 0 from rfl, show (1 : Int32) = nI 1 from rfl, show (2 : Int32) = nI 2 from rfl, show (3 : Int32) = nI 3 from rfl, show (4 : Int32) = nI 4 from rfl]
    simp only [wr71 (show 41 + 5 * g + 0 < 71 by omega), wr71 (show 41 + 5 * g + 1 < 71 by omega), wr71 (show 41 + 5 * g + 2 < 71 by omega), wr71 (show 41 + 5 * g + 3 < 71 by omega), wr71 (show 41 + 5 * g + 4 < 71 by omega), wrcl (show 41 + 5 * g + 0 < 71 by omega), wrcl (show 41 + 5 * g + 1 < 71 by omega), wrcl (show 41 + 5 * g + 2 < 71 by omega), wrcl (show 41 + 5 * g + 3 < 71 by omega), wrcl (show 41 + 5 * g + 4 < 71 by omega), zLet, z71_0, z71_1, z71_2, z71_3, z71_4, z71_5, z71_6, z71_7, z71_8, cl_0, cl_1, cl_2, cl_3, cl_4, cl_5, cl_6, cl_7, cl_8]
    rw [show (zU (zU (zU (zU (zU M7 7 (41 + 5 * g + 0) (nI a)) 7 (41 + 5 * g + 1) (nI c)) 7 (41 + 5 * g + 2) (nI d)) 7 (41 + 5 * g + 3) (nI 0)) 7 (41 + 5 * g + 4) (-1000000)) 7 8 + nI 1 = nI (g + 1) by
      rw [zU_s, up_o _ _ (by omega), zU_s, up_o _ _ (by omega), zU_s, up_o _ _ (by omega), zU_s, up_o _ _ (by omega), zU_s, up_o _ _ (by omega), c7, m8, nI_add]]
    rfl
  · rw [q5c.1 21 (by decide) (by decide), q5b.1 21 (by decide) (by decide), n7, hX3]; rfl
  · rw [q5c.1 22 (by decide) (by decide), n7b, q5.1 22 (by decide) (by decide), hX3]; rfl
  · rw [n7c, q5b.1 23 (by decide) (by decide), q5.1 23 (by decide) (by decide), hX3]; rfl
  · rw [q5c.1 16 (by decide) (by decide), q5b.1 16 (by decide) (by decide), q5.1 16 (by decide) (by decide), hX3]; rfl
  · rw [q5c.1 17 (by decide) (by decide), q5b.1 17 (by decide) (by decide), q5.1 17 (by decide) (by decide), hX3]; rfl
  · rw [q5c.1 18 (by decide) (by decide), q5b.1 18 (by decide) (by decide), q5.1 18 (by decide) (by decide), hX3]; rfl
  · rw [q5c.1 19 (by decide) (by decide), q5b.1 19 (by decide) (by decide), q5.1 19 (by decide) (by decide), hX3]; rfl
  · rw [zU_s, zU_s, zU_s, zU_s, zU_s, zU_s, c7]
