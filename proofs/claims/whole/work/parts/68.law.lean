/-- the wrong one and the limit -/
theorem lawB {N : Nat} (hN : 40000 ≤ N) {X M M0 : KX} {k p u : Nat} {b : Nat → Nat} {r0 s : Int32} (hw : wl X M k b p) (hu : u < 8) (m1 : M 7 1 = nI u) (ht : f_X7_takes N M0 s 1 = some (r0, M)) : ∃ X' : KX, dF X' X ∧
  ((∃ (M' : KX) (w lim e : Nat), zB2 (f_X5_tellsNumber N X 0 7 (nI u)) (fun r_8 X_9 => if r_8 = 0 then (some (0, X_9)) else (zLet (zU X_9 16 2 (X_9 5 4)) (fun X_10 => zB2 (f_X5_tellsSign X_10 44) (fun r_11 X_12 => if r_11 = 0 then (some (0, X_12)) else (zB2 (f_X5_tellsNumber N X_12 1 5 (-1)) (fun r_13 X_14 => if r_13 = 0 then (some (0, X_14)) else (zLet (zU X_14 16 3 (X_14 5 4)) (fun X_15 => zB2 (f_X5_tellsSign X_15 59) (fun r_16 X_17 => zGb r_16 (some (r_16, X_17))))))))))) = some (1, X') ∧ f_X7_castle_97 N M0 s = f_X7_castle_170 N N M' ∧ eF M' M ∧ wl X' M' k b e ∧ w < 8 ∧ w ≠ u ∧ 1 ≤ lim ∧ lim ≤ 5 ∧ X' 16 = upd (upd (X 16) 2 (nI w)) 3 (nI lim) ∧ M' 7 = upd (upd (M 7) 2 (nI w)) 0 (nI lim)) ∨
   (zB2 (f_X5_tellsNumber N X 0 7 (nI u)) (fun r_8 X_9 => if r_8 = 0 then (some (0, X_9)) else (zLet (zU X_9 16 2 (X_9 5 4)) (fun X_10 => zB2 (f_X5_tellsSign X_10 44) (fun r_11 X_12 => if r_11 = 0 then (some (0, X_12)) else (zB2 (f_X5_tellsNumber N X_12 1 5 (-1)) (fun r_13 X_14 => if r_13 = 0 then (some (0, X_14)) else (zLet (zU X_14 16 3 (X_14 5 4)) (fun X_15 => zB2 (f_X5_tellsSign X_15 59) (fun r_16 X_17 => zGb r_16 (some (r_16, X_17))))))))))) = some (0, X') ∧ ∃ f kd, f ≤ 120 ∧ fO X' M f kd (f_X7_castle_97 N M0 s))) := by
  have hp := wl_p hw
  obtain ⟨X1, M1, r, q1, q2, q3, q4⟩ := figB_v hN hw hu
  have q4' : (∃ v e, f_X5_tellsNumber N X 0 7 (nI u) = some (1, X1) ∧ wl X1 M1 k b e ∧ r = nI v ∧ X1 5 4 = nI v ∧ (v ≤ 7 ∧ v ≠ u)) ∨ (∃ kd, f_X5_tellsNumber N X 0 7 (nI u) = some (0, X1) ∧ flt X1 M1 p kd) := q4
  obtain ⟨X2, M2, r2, s0, t1, t2, t3, t4, _, t5, t6⟩ := ns7_v hN (i := 2) (j := 2) (ch := 44) (sv := 3) (P := fun v => v ≤ 7 ∧ v ≠ u) (by omega) (by decide) (by decide) q2 q3 q4'
  have i1 : (if (zU M1 7 2 r) 0 11 = 3 then f_X7_castle_134 N (zU M1 7 2 r) 1 else f_X7_castle_134 N (zU M1 7 2 r) 0) = f_X7_castle_134 N (zU M1 7 2 r) s0 := ite_s (P := (zU M1 7 2 r) 0 11 = 3) (fun s => f_X7_castle_134 N (zU M1 7 2 r) s) t1
  have e : f_X7_castle_97 N M0 s = f_X7_castle_134 N (zU M1 7 2 r) s0 := by
    unfold f_X7_castle_97
    rw [ht]
    simp only [zB2_s, z71_0, z71_1, z71_2, z71_3, z71_4, z71_5, z71_6, z71_7, z71_8, cl_0, cl_1, cl_2, cl_3, cl_4, cl_5, cl_6, cl_7, cl_8]
    rw [m1, q1]
    simp only [zB2_s, zLet]
    rw [i1]
  rw [e]
  have il : ∀ {f : Nat} {kd : Int32}, f ≤ 120 → flt X2 M2 f kd → fO X2 M f kd (f_X7_castle_134 N (zU M1 7 2 r) s0) := by
    intro f kd hf hfl
    refine fO_i (N := N) hfl t3 ?_
    unfold f_X7_castle_134
    rw [t2]
    simp only [zB2_s]
    rw [fig_i hfl.2.2.1 hf]
    simp only [zB2_s, z71_0, z71_1, z71_2, z71_3, z71_4, z71_5, z71_6, z71_7, z71_8, cl_0, cl_1, cl_2, cl_3, cl_4, cl_5, cl_6, cl_7, cl_8, zLet]
    have h' : (zU M2 7 0 0) 0 8 = nI f := hfl.2.2.1
    split
    · exact iF_7 (c165_i h' hf (by omega) 1)
    · exact iF_7 (c165_i h' hf (by omega) 0)
  rcases t6 with ⟨v, e2, n1, n2, n3, n4, n5, n6⟩ | ⟨n1, n2, f, kd, n3, n4⟩ | ⟨n1, f, kd, n3, n4⟩
  · have n2' : f_X5_tellsSign (zU X1 16 2 (X1 5 4)) 44 = some (1, X2) := n2
    rw [n1]
    simp only [zB2_s, z10, if_false, zLet]
    rw [n2']
    simp only [zB2_s, z10, if_false, zLet]
    obtain ⟨X3, d1, d2⟩ := lawC hN n3 t2
    refine ⟨X3, cd_t d1 t4, ?_⟩
    rcases d2 with ⟨M', lim, e3, g1, g2, g3, g4, g5, g6, g7, g8⟩ | ⟨g1, f, kd, g2, g3⟩
    · exact Or.inl ⟨M', v, lim, e3, g1, g2, e_t g3 t3, g4, by omega, n5.2, g5, g6, by rw [g7, n6], by rw [g8, t5, n4]⟩
    · exact Or.inr ⟨g1, f, kd, g2, fO_t g3 t3⟩
  · have n2' : f_X5_tellsSign (zU X1 16 2 (X1 5 4)) 44 = some (0, X2) := n2
    refine ⟨X2, t4, Or.inr ⟨?_, f, kd, n3, il n3 n4⟩⟩
    rw [n1]
    simp only [zB2_s, z10, if_false, zLet]
    rw [n2']
    simp only [zB2_s, if_true]
  · refine ⟨X2, t4, Or.inr ⟨?_, f, kd, n3, il n3 n4⟩⟩
    rw [n1]
    simp only [zB2_s, if_true]
theorem lawA {N : Nat} (hN : 40000 ≤ N) {X M M0 : KX} {k p : Nat} {b : Nat → Nat} {r0 s : Int32} (hw : wl X M k b p) (ht : f_X7_takes N M0 s 1 = some (r0, M)) : lO N X M k b (zB2 (f_X5_tellsNumber N X 0 7 (-1)) (fun r_3 X_4 => if r_3 = 0 then (some (0, X_4)) else (zLet (zU X_4 16 1 (X_4 5 4)) (fun X_5 => zB2 (f_X5_tellsSign X_5 44) (fun r_6 X_7 => if r_6 = 0 then (some (0, X_7)) else (zB2 (f_X5_tellsNumber N X_7 0 7 (X_7 16 1)) (fun r_8 X_9 => if r_8 = 0 then (some (0, X_9)) else (zLet (zU X_9 16 2 (X_9 5 4)) (fun X_10 => zB2 (f_X5_tellsSign X_10 44) (fun r_11 X_12 => if r_11 = 0 then (some (0, X_12)) else (zB2 (f_X5_tellsNumber N X_12 1 5 (-1)) (fun r_13 X_14 => if r_13 = 0 then (some (0, X_14)) else (zLet (zU X_14 16 3 (X_14 5 4)) (fun X_15 => zB2 (f_X5_tellsSign X_15 59) (fun r_16 X_17 => zGb r_16 (some (r_16, X_17))))))))))))))))) (f_X7_castle_65 N M0 s) := by
  have hp := wl_p hw
  obtain ⟨X1, M1, r, q1, q2, q3, q4⟩ := fig_v hN (lo := 0) (hi := 7) hw (by decide) (by decide)
  have q1' : f_X7_figure N M 0 7 = some (r, M1) := q1
  have q4' : (∃ v e, f_X5_tellsNumber N X 0 7 (-1) = some (1, X1) ∧ wl X1 M1 k b e ∧ r = nI v ∧ X1 5 4 = nI v ∧ (0 ≤ v ∧ v ≤ 7)) ∨ (∃ kd, f_X5_tellsNumber N X 0 7 (-1) = some (0, X1) ∧ flt X1 M1 p kd) := q4
  obtain ⟨X2, M2, r2, s0, t1, t2, t3, t4, _, t5, t6⟩ := ns7_v hN (i := 1) (j := 1) (ch := 44) (sv := 3) (P := fun v => 0 ≤ v ∧ v ≤ 7) (by omega) (by decide) (by decide) q2 q3 q4'
  have i1 : (if (zU M1 7 1 r) 0 11 = 3 then f_X7_castle_97 N (zU M1 7 1 r) 1 else f_X7_castle_97 N (zU M1 7 1 r) 0) = f_X7_castle_97 N (zU M1 7 1 r) s0 := ite_s (P := (zU M1 7 1 r) 0 11 = 3) (fun s => f_X7_castle_97 N (zU M1 7 1 r) s) t1
  have e : f_X7_castle_65 N M0 s = f_X7_castle_97 N (zU M1 7 1 r) s0 := by
    unfold f_X7_castle_65
    rw [ht]
    simp only [zB2_s]
    rw [q1']
    simp only [zB2_s, z71_0, z71_1, z71_2, z71_3, z71_4, z71_5, z71_6, z71_7, z71_8, cl_0, cl_1, cl_2, cl_3, cl_4, cl_5, cl_6, cl_7, cl_8, zLet]
    rw [i1]
  rw [e]
  have il : ∀ {f : Nat} {kd : Int32}, f ≤ 120 → flt X2 M2 f kd → fO X2 M f kd (f_X7_castle_97 N (zU M1 7 1 r) s0) := by
    intro f kd hf hfl
    refine fO_i (N := N) hfl t3 ?_
    unfold f_X7_castle_97
    rw [t2]
    simp only [zB2_s, z71_0, z71_1, z71_2, z71_3, z71_4, z71_5, z71_6, z71_7, z71_8, cl_0, cl_1, cl_2, cl_3, cl_4, cl_5, cl_6, cl_7, cl_8]
    rw [figB_i hfl.2.2.1 hf]
    simp only [zB2_s, z71_0, z71_1, z71_2, z71_3, z71_4, z71_5, z71_6, z71_7, z71_8, cl_0, cl_1, cl_2, cl_3, cl_4, cl_5, cl_6, cl_7, cl_8, zLet]
    have h' : (zU M2 7 2 0) 0 8 = nI f := hfl.2.2.1
    split
    · exact iF_7 (c134_i h' hf (by omega) 1)
    · exact iF_7 (c134_i h' hf (by omega) 0)
  rcases t6 with ⟨v, e2, n1, n2, n3, n4, n5, n6⟩ | ⟨n1, n2, f, kd, n3, n4⟩ | ⟨n1, f, kd, n3, n4⟩
  · have n2' : f_X5_tellsSign (zU X1 16 1 (X1 5 4)) 44 = some (1, X2) := n2
    rw [n1]
    simp only [zB2_s, z10, if_false, zLet]
    rw [n2']
    simp only [zB2_s, z10, if_false]
    rw [show X2 16 1 = nI v by rw [n6, up_s]]
    obtain ⟨X3, d1, d2⟩ := lawB hN n3 (u := v) (by omega) (by rw [t5, up_s, n4]) t2
    refine ⟨X3, cd_t d1 t4, ?_⟩
    rcases d2 with ⟨M', w, lim, e3, g1, g2, g3, g4, g5, g6, g7, g8, g9, gA⟩ | ⟨g1, f, kd, g2, g3⟩
    · exact Or.inl ⟨M', v, w, lim, e3, g1, g2, e_t g3 t3, g4, by omega, g5, fun z => g6 z.symm, g7, g8, by rw [g9, n6], by rw [gA, t5, n4]⟩
    · exact Or.inr ⟨g1, f, kd, g2, fO_t g3 t3⟩
  · have n2' : f_X5_tellsSign (zU X1 16 1 (X1 5 4)) 44 = some (0, X2) := n2
    refine ⟨X2, t4, Or.inr ⟨?_, f, kd, n3, il n3 n4⟩⟩
    rw [n1]
    simp only [zB2_s, z10, if_false, zLet]
    rw [n2']
    simp only [zB2_s, if_true]
  · refine ⟨X2, t4, Or.inr ⟨?_, f, kd, n3, il n3 n4⟩⟩
    rw [n1]
    simp only [zB2_s, if_true]
/-- the whole first part, from its letter on -/
theorem law_v {N : Nat} (hN : 40000 ≤ N) {X M : KX} {k p : Nat} {b : Nat → Nat} {s0 : Int32} (hw : wl X M k b p) (hs : (s0 = 1 ∧ p < k ∧ b p = 107) ∨ (s0 = 0 ∧ ¬ (p < k ∧ b p = 107))) : lO N X M k b (f_X5_tellsLaw N X) (f_X7_castle_65 N M s0) := by
  have hp := wl_p hw
  obtain ⟨X1, M1, r, q1, q2, q3, q4⟩ := sign_v hN hw (show 107 < 256 by decide) (by unfold dg; omega) hs
  unfold f_X5_tellsLaw
  rcases q4 with ⟨n1, n2⟩ | ⟨n1, n2⟩
  · have n1' : f_X5_tellsSign X 107 = some (1, X1) := n1
    rw [n1']
    simp only [zB2_s, z10, if_false]
    obtain ⟨X', d1, d2⟩ := lawA hN n2 q1
    refine ⟨X', cd_t d1 (cd1 q2), ?_⟩
    rcases d2 with ⟨M', q, w, lim, e, g1, g2, g3, g4, g5, g6, g7, g8, g9, gA, gB⟩ | ⟨g1, f, kd, g2, g3⟩
    · exact Or.inl ⟨M', q, w, lim, e, g1, g2, e_t g3 (eb q3), g4, g5, g6, g7, g8, g9, by rw [gA, q2.1 16 (by decide)], by rw [gB, q3.1 7 (by decide)]⟩
    · exact Or.inr ⟨g1, f, kd, g2, fO_t g3 (eb q3)⟩
  · have n1' : f_X5_tellsSign X 107 = some (0, X1) := n1
    rw [n1']
    simp only [zB2_s, if_true]
    refine ⟨X1, cd1 q2, Or.inr ⟨rfl, p, 1, by omega, fO_i (N := N) n2 (eb q3) ?_⟩⟩
    unfold f_X7_castle_65
    rw [q1]
    simp only [zB2_s, z71_0, z71_1, z71_2, z71_3, z71_4, z71_5, z71_6, z71_7, z71_8, cl_0, cl_1, cl_2, cl_3, cl_4, cl_5, cl_6, cl_7, cl_8]
    rw [fig_i n2.2.2.1 (by omega)]
    simp only [zB2_s, zLet]
    have h' : (zU M1 7 1 0) 0 8 = nI p := n2.2.2.1
    split
    · exact iF_7 (c97_i h' (by omega) (by omega) 1)
    · exact iF_7 (c97_i h' (by omega) (by omega) 0)
