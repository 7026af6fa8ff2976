/-! the first part of the tape -/
def fO (X' M : KX) (f : Nat) (kd : Int32) (om : Option (Int32 × KX)) : Prop := X' 5 2 = nI f ∧ X' 5 3 = kd ∧ ∃ M' : KX, om = some (-1000100 - nI f, M') ∧ (∀ c, c ≠ 0 → c ≠ 7 → M' c = M c) ∧ (∀ i, (i < 6 ∨ 12 < i) → M' 0 i = M 0 i) ∧ M' 0 6 = 0 ∧ M' 0 7 = kd
theorem fO_i {N : Nat} {X' Ma M : KX} {f : Nat} {kd : Int32} {om : Option (Int32 × KX)} (h : flt X' Ma f kd) (he : eF Ma M) (hi : iF N Ma f om) : fO X' M f kd om := by
  obtain ⟨M', h1, h2, h3, h4⟩ := hi
  refine ⟨h.1, h.2.1, M', h1, fun c c0 c7 => (h2 c c0 c7).trans (he.1 c c0 c7), fun i hi => (h3 i (by omega)).trans (he.2.1 i (by omega)), h4, ?_⟩
  rw [h3 7 (by decide)]; exact h.2.2.2
theorem iF_s {N : Nat} {M : KX} {f : Nat} : iF N M f (some (-1000100 - nI f, zU M 0 6 0)) := ⟨_, rfl, fun c c0 _ => zU_o _ _ _ c0, fun i hi => by rw [zU_s, up_o _ _ hi], by rw [zU_s, up_s]⟩
theorem fO_t {X' M1 M : KX} {f : Nat} {kd : Int32} {om : Option (Int32 × KX)} (h : fO X' M1 f kd om) (he : eF M1 M) : fO X' M f kd om := by
  obtain ⟨h1, h2, M', h3, h4, h5, h6, h7⟩ := h
  exact ⟨h1, h2, M', h3, fun c c0 c7 => (h4 c c0 c7).trans (he.1 c c0 c7), fun i hi => (h5 i hi).trans (he.2.1 i (by omega)), h6, h7⟩
theorem cd_16 {X' X : KX} {j : Nat} (hj : 0 < j ∧ j ≤ 5) (h1 : ∀ d, d ≠ 5 → d ≠ 16 → X' d = X d) (h2 : X' 5 1 = X 5 1) (h3 : ∀ i, i ≠ j → X' 16 i = X 16 i) : dF X' X := ⟨fun d d5 d16 _ _ _ _ _ _ => h1 d d5 d16, h2, fun i hi => h3 i (by omega)⟩
/-- a number that is kept, and then a sign, on both sides -/
theorem ns7_v {N : Nat} (hN : 40000 ≤ N) {X M X1 M1 : KX} {k p i j ch : Nat} {b : Nat → Nat} {sv r : Int32} {P : Nat → Prop} {oc : Option (Int32 × KX)} (hpk : p ≤ 120) (hj : 0 < j ∧ j ≤ 5) (hch : (ch = 44 ∧ sv = 3) ∨ (ch = 59 ∧ sv = 4)) (q2 : cF X1 X) (q3 : bF M1 M) (q4 : (∃ v e, oc = some (1, X1) ∧ wl X1 M1 k b e ∧ r = nI v ∧ X1 5 4 = nI v ∧ P v) ∨ (∃ kd, oc = some (0, X1) ∧ flt X1 M1 p kd)) : ∃ (X' M' : KX) (r2 s0 : Int32), ((M1 0 11 = sv ∧ s0 = 1) ∨ (¬ M1 0 11 = sv ∧ s0 = 0)) ∧ f_X7_takes N (zU M1 7 i r) s0 1 = some (r2, M') ∧ eF M' M ∧ dF X' X ∧ (∀ d, d ≠ 5 → d ≠ 16 → X' d = X d) ∧ M' 7 = upd (M 7) i r ∧
    ((∃ v e, oc = some (1, X1) ∧ f_X5_tellsSign (zU X1 16 j (X1 5 4)) (nI ch) = some (1, X') ∧ wl X' M' k b e ∧ r = nI v ∧ P v ∧ X' 16 = upd (X 16) j (nI v)) ∨
     (oc = some (1, X1) ∧ f_X5_tellsSign (zU X1 16 j (X1 5 4)) (nI ch) = some (0, X') ∧ ∃ f kd, f ≤ 120 ∧ flt X' M' f kd) ∨
     (oc = some (0, X') ∧ ∃ f kd, f ≤ 120 ∧ flt X' M' f kd)) := by
  have hch2 : ch < 256 ∧ ¬ dg ch := by unfold dg; omega
  have e7 : (zU M1 7 i r) 7 = upd (M 7) i r := by rw [zU_s, q3.1 7 (by decide)]
  have f1 : eF (zU M1 7 i r) M := e_t e_u (eb q3)
  rcases q4 with ⟨v, e, n1, n2, n3, n4, n5⟩ | ⟨kd, n1, n2⟩
  rotate_left
  · have hs : ∃ s0 : Int32, (M1 0 11 = sv ∧ s0 = 1) ∨ (¬ M1 0 11 = sv ∧ s0 = 0) := by
      by_cases d : M1 0 11 = sv
      · exact ⟨1, Or.inl ⟨d, rfl⟩⟩
      · exact ⟨0, Or.inr ⟨d, rfl⟩⟩
    obtain ⟨s0, hs⟩ := hs
    have h8 : (zU M1 7 i r) 0 8 = nI p := n2.2.2.1
    exact ⟨X1, zU M1 7 i r, 0, s0, hs, takes_i h8 hpk _ _, f1, cd1 q2, fun d d5 _ => q2.1 d d5, e7, Or.inr (Or.inr ⟨n1, p, kd, hpk, n2⟩)⟩
  obtain ⟨s0, t1, t2⟩ := tok_s n2.2.2.2 hch
  have w6 : wl (zU X1 16 j (X1 5 4)) (zU M1 7 i r) k b e := wl_m (wl_x n2 (zU_o _ _ _ (by decide)) (zU_o _ _ _ (by decide))) (zU_o _ _ _ (by decide)) (zU_o _ _ _ (by decide))
  obtain ⟨X6, M3, r3, s1, s2, s3, s4⟩ := sign_v hN w6 hch2.1 hch2.2 t2
  have he := wl_p n2
  have xc : X6 16 = upd (X 16) j (nI v) := by rw [s2.1 16 (by decide), zU_s, n4, q2.1 16 (by decide)]
  have fr : ∀ d, d ≠ 5 → d ≠ 16 → X6 d = X d := fun d d5 dc => by rw [s2.1 d d5, zU_o _ _ _ dc, q2.1 d d5]
  refine ⟨X6, M3, r3, s0, t1, s1, e_t (eb s3) f1, cd_16 hj fr (by rw [s2.2, zU_o _ _ _ (by decide), q2.2]) (fun i hi => by rw [xc, up_o _ _ hi]), fr, by rw [s3.1 7 (by decide), e7], ?_⟩
  rcases s4 with ⟨z1, z2⟩ | ⟨z1, z2⟩
  · exact Or.inl ⟨v, e + 1, n1, z1, z2, n3, n5, xc⟩
  · exact Or.inr (Or.inl ⟨n1, z1, e, 1, by omega, z2⟩)
theorem c65_i {N : Nat} {M : KX} {f : Nat} (h : M 0 8 = nI f) (hf : f ≤ 120) (hN : 0 < N) (s : Int32) : iF N M f (f_X7_castle_65 N M s) := by
  unfold f_X7_castle_65
  rw [takes_i h hf]
  simp only [zB2_s, z71_0, z71_1, z71_2, z71_3, z71_4, z71_5, z71_6, z71_7, z71_8, cl_0, cl_1, cl_2, cl_3, cl_4, cl_5, cl_6, cl_7, cl_8]
  rw [fig_i h hf]
  simp only [zB2_s, zLet]
  have h' : (zU M 7 1 0) 0 8 = nI f := h
  split
  · exact iF_7 (c97_i h' hf hN 1)
  · exact iF_7 (c97_i h' hf hN 0)
/-- what the first part of the tape tells -/
def lO (N : Nat) (X M : KX) (k : Nat) (b : Nat → Nat) (oc om : Option (Int32 × KX)) : Prop := ∃ X' : KX, dF X' X ∧
  ((∃ (M' : KX) (q w lim e : Nat), oc = some (1, X') ∧ om = f_X7_castle_170 N N M' ∧ eF M' M ∧ wl X' M' k b e ∧ q < 8 ∧ w < 8 ∧ q ≠ w ∧ 1 ≤ lim ∧ lim ≤ 5 ∧ X' 16 = upd (upd (upd (X 16) 1 (nI q)) 2 (nI w)) 3 (nI lim) ∧ M' 7 = upd (upd (upd (M 7) 1 (nI q)) 2 (nI w)) 0 (nI lim)) ∨
   (oc = some (0, X') ∧ ∃ f kd, f ≤ 120 ∧ fO X' M f kd om))
/-- the limit -/
theorem lawC {N : Nat} (hN : 40000 ≤ N) {X M M0 : KX} {k p : Nat} {b : Nat → Nat} {r0 s : Int32} (hw : wl X M k b p) (ht : f_X7_takes N M0 s 1 = some (r0, M)) : ∃ X' : KX, dF X' X ∧
  ((∃ (M' : KX) (lim e : Nat), zB2 (f_X5_tellsNumber N X 1 5 (-1)) (fun r_13 X_14 => if r_13 = 0 then (some (0, X_14)) else (zLet (zU X_14 16 3 (X_14 5 4)) (fun X_15 => zB2 (f_X5_tellsSign X_15 59) (fun r_16 X_17 => zGb r_16 (some (r_16, X_17)))))) = some (1, X') ∧ f_X7_castle_134 N M0 s = f_X7_castle_170 N N M' ∧ eF M' M ∧ wl X' M' k b e ∧ 1 ≤ lim ∧ lim ≤ 5 ∧ X' 16 = upd (X 16) 3 (nI lim) ∧ M' 7 = upd (M 7) 0 (nI lim)) ∨
   (zB2 (f_X5_tellsNumber N X 1 5 (-1)) (fun r_13 X_14 => if r_13 = 0 then (some (0, X_14)) else (zLet (zU X_14 16 3 (X_14 5 4)) (fun X_15 => zB2 (f_X5_tellsSign X_15 59) (fun r_16 X_17 => zGb r_16 (some (r_16, X_17)))))) = some (0, X') ∧ ∃ f kd, f ≤ 120 ∧ fO X' M f kd (f_X7_castle_134 N M0 s))) := by
  have hp := wl_p hw
  obtain ⟨X1, M1, r, q1, q2, q3, q4⟩ := fig_v hN (lo := 1) (hi := 5) hw (by decide) (by decide)
  have q1' : f_X7_figure N M 1 5 = some (r, M1) := q1
  have q4' : (∃ v e, f_X5_tellsNumber N X 1 5 (-1) = some (1, X1) ∧ wl X1 M1 k b e ∧ r = nI v ∧ X1 5 4 = nI v ∧ (1 ≤ v ∧ v ≤ 5)) ∨ (∃ kd, f_X5_tellsNumber N X 1 5 (-1) = some (0, X1) ∧ flt X1 M1 p kd) := q4
  obtain ⟨X', M', r2, s0, t1, t2, t3, t4, _, t5, t6⟩ := ns7_v hN (i := 0) (j := 3) (ch := 59) (sv := 4) (P := fun v => 1 ≤ v ∧ v ≤ 5) (by omega) (by decide) (by decide) q2 q3 q4'
  have i1 : (if (zU M1 7 0 r) 0 11 = 4 then f_X7_castle_165 N (zU M1 7 0 r) 1 else f_X7_castle_165 N (zU M1 7 0 r) 0) = f_X7_castle_165 N (zU M1 7 0 r) s0 := ite_s (P := (zU M1 7 0 r) 0 11 = 4) (fun s => f_X7_castle_165 N (zU M1 7 0 r) s) t1
  have e : f_X7_castle_134 N M0 s = f_X7_castle_170 N N M' := by
    unfold f_X7_castle_134
    rw [ht]
    simp only [zB2_s]
    rw [q1']
    simp only [zB2_s, z71_0, z71_1, z71_2, z71_3, z71_4, z71_5, z71_6, z71_7, z71_8, cl_0, cl_1, cl_2, cl_3, cl_4, cl_5, cl_6, cl_7, cl_8, zLet]
    rw [i1]
    unfold f_X7_castle_165
    rw [t2]
    rfl
  have il : ∀ {f : Nat} {kd : Int32}, f ≤ 120 → flt X' M' f kd → fO X' M f kd (f_X7_castle_134 N M0 s) := fun {f kd} hf hfl => fO_i hfl t3 (by rw [e, c170_i hfl.2.2.1 hf (by omega) (by omega)]; exact iF_s (N := N))
  refine ⟨X', t4, ?_⟩
  rcases t6 with ⟨v, e2, n1, n2, n3, n4, n5, n6⟩ | ⟨n1, n2, f, kd, n3, n4⟩ | ⟨n1, f, kd, n3, n4⟩
  · have n2' : f_X5_tellsSign (zU X1 16 3 (X1 5 4)) 59 = some (1, X') := n2
    refine Or.inl ⟨M', v, e2, ?_, e, t3, n3, n5.1, n5.2, n6, by rw [t5, n4]⟩
    rw [n1]
    simp only [zB2_s, z10, if_false, zLet]
    rw [n2']
    simp only [zB2_s]
    rw [zGb_ok _ (Or.inr rfl)]
  · have n2' : f_X5_tellsSign (zU X1 16 3 (X1 5 4)) 59 = some (0, X') := n2
    refine Or.inr ⟨?_, f, kd, n3, il n3 n4⟩
    rw [n1]
    simp only [zB2_s, z10, if_false, zLet]
    rw [n2']
    simp only [zB2_s]
    rw [zGb_ok _ (Or.inl rfl)]
  · refine Or.inr ⟨?_, f, kd, n3, il n3 n4⟩
    rw [n1]
    simp only [zB2_s, if_true]
