/-! the castle that is told -/
def tO (N : Nat) (X M : KX) (oc om : Option (Int32 × KX)) : Prop := ∃ X' : KX, dF X' X ∧ ((∃ (M' : KX) (h g : Nat), oc = some (1, X') ∧ om = f_X7_castle_254 N M' ∧ eF M' M ∧ M' 0 8 = -1 ∧ dI X' M' h g ∧ X' 16 4 = nI h ∧ X' 16 5 = nI g) ∨ (oc = some (0, X') ∧ ∃ f kd, f ≤ 120 ∧ fO X' M f kd om))
theorem end_v {N : Nat} (hN : 40000 ≤ N) {X M : KX} {k p h : Nat} {b : Nat → Nat} (hw : wl X M k b p) (hd : dI X M h 0) (h4 : X 16 4 = nI h) : tO N X M (zB2 (f_X5_tellsGuests N X) (fun r_6 X_7 => if r_6 = 0 then (some (0, X_7)) else (if (X_7 5 2) = (X_7 5 1) then (f_X5_tells_48 N X_7) else (zB2 (f_X5_isFaulty X_7 1) (fun r_8 X_9 => if r_8 = 0 then (some (0, X_9)) else (f_X5_tells_48 N X_9)))))) (f_X7_castle_202 N N M) := by
  obtain ⟨X1, d1, d2⟩ := guests_v hN 6 0 N N X M p (by omega) (by omega) (by omega) hw hd
  have e : f_X5_tellsGuests N X = f_X5_tellsGuests_2 N N X (nI 0) := rfl
  rw [e]
  rcases d2 with ⟨M1, p', g, n1, n2, n3, n4, n5, n6, n7⟩ | ⟨n1, f, kd, n2, n3⟩
  rotate_left
  · rw [n1]
    simp only [zB2_s, if_true]
    exact ⟨X1, d1, Or.inr ⟨rfl, f, kd, n2, n3⟩⟩
  rw [n1, n2]
  simp only [zB2_s, z10, if_false]
  have hp := wl_p n4
  have t0 := tok_0 n4.2.2.2
  unfold f_X7_castle_233
  rw [well_t n4.2.2.1, if_neg (show ¬ (1 : Int32) = 0 by decide), n4.2.1, n4.1.1]
  by_cases c : p' = k
  · rw [if_pos (show nI p' = nI k by rw [c]), if_pos (t0.mpr (by omega))]
    exact ⟨X1, d1, Or.inl ⟨M1, h, g, rfl, rfl, n3, n4.2.2.1, n5, by rw [n7, h4], n6⟩⟩
  · rw [if_neg (fun z => c (nI_inj (by omega) (by omega) z)), if_neg (fun z => by have := t0.mp z; omega)]
    obtain ⟨M2, a1, a2, a3, a4⟩ := takes_no (N := N) (kd := 1) n4
    rw [a1]
    unfold f_X5_isFaulty
    simp only [zLet, zB2_s, if_true]
    refine ⟨zU X1 5 3 1, cd_t (cd1 ⟨fun c hc => zU_o _ _ _ hc, by rw [zU_s, up_o _ _ (by decide)]⟩) d1, Or.inr ⟨rfl, p', 1, by omega, fO_i (N := N) (Ma := M2) ⟨?_, by rw [zU_s, up_s], a3, a4⟩ (e_t (eb a2) n3) (by rw [c254_i a3 (by omega)]; exact iF_s (N := N))⟩⟩
    rw [zU_s, up_o _ _ (by decide)]; exact n4.2.1
theorem rest_v {N : Nat} (hN : 40000 ≤ N) {X M : KX} {k p : Nat} {b : Nat → Nat} (hw : wl X M k b p) (hd : dI X M 0 0) : tO N X M (zB2 (f_X5_tellsHints N X) (fun r_4 X_5 => if r_4 = 0 then (some (0, X_5)) else (zB2 (f_X5_tellsGuests N X_5) (fun r_6 X_7 => if r_6 = 0 then (some (0, X_7)) else (if (X_7 5 2) = (X_7 5 1) then (f_X5_tells_48 N X_7) else (zB2 (f_X5_isFaulty X_7 1) (fun r_8 X_9 => if r_8 = 0 then (some (0, X_9)) else (f_X5_tells_48 N X_9)))))))) (f_X7_castle_170 N N M) := by
  obtain ⟨X1, d1, d2⟩ := hints_v hN 8 0 N N X M p (by omega) (by omega) (by omega) hw hd
  have e : f_X5_tellsHints N X = f_X5_tellsHints_2 N N X (nI 0) := rfl
  rw [e]
  rcases d2 with ⟨M1, p', h, n1, n2, n3, n4, n5, n6⟩ | ⟨n1, f, kd, n2, n3⟩
  rotate_left
  · rw [n1]
    simp only [zB2_s, if_true]
    exact ⟨X1, d1, Or.inr ⟨rfl, f, kd, n2, n3⟩⟩
  rw [n1, n2]
  simp only [zB2_s, z10, if_false]
  obtain ⟨X2, g1, g2⟩ := end_v hN n4 n5 n6
  refine ⟨X2, cd_t g1 d1, ?_⟩
  rcases g2 with ⟨M2, h', g, y1, y2, y3, y4, y5, y6, y7⟩ | ⟨y1, f, kd, y2, y3⟩
  · exact Or.inl ⟨M2, h', g, y1, y2, e_t y3 n3, y4, y5, y6, y7⟩
  · exact Or.inr ⟨y1, f, kd, y2, fO_t y3 n3⟩
theorem dI_0 {X X' M M' : KX} {q w lim : Nat} (hz : ∀ i, i < 71 → i ≠ 3 → M 7 i = 0) (h3 : M 7 3 = -1) (hq : q < 8) (hw : w < 8) (hqw : q ≠ w) (l1 : 1 ≤ lim) (l5 : lim ≤ 5) (x16 : X' 16 = upd (upd (upd (X 16) 1 (nI q)) 2 (nI w)) 3 (nI lim)) (m7 : M' 7 = upd (upd (upd (M 7) 1 (nI q)) 2 (nI w)) 0 (nI lim)) : dI X' M' 0 0 := by
  have o : ∀ i, i < 71 → i ≠ 0 → i ≠ 1 → i ≠ 2 → M' 7 i = M 7 i := fun i _ i0 i1 i2 => by rw [m7, up_o _ _ i0, up_o _ _ i2, up_o _ _ i1]
  refine ⟨⟨q, w, lim, by rw [x16]; rfl, by rw [m7]; rfl, by rw [x16]; rfl, by rw [m7]; rfl, by rw [x16]; rfl, by rw [m7]; rfl, hq, hw, hqw, l1, l5⟩, ⟨?_, ?_, ?_, ?_, ?_, ?_, by omega, by omega⟩, fun j hj => by omega, fun j hj => by omega⟩
  · rw [o 3 (by decide) (by decide) (by decide) (by decide)]; exact h3
  · rw [o 4 (by decide) (by decide) (by decide) (by decide)]; exact hz 4 (by decide) (by decide)
  · rw [o 5 (by decide) (by decide) (by decide) (by decide)]; exact hz 5 (by decide) (by decide)
  · rw [o 6 (by decide) (by decide) (by decide) (by decide)]; exact hz 6 (by decide) (by decide)
  · rw [o 7 (by decide) (by decide) (by decide) (by decide)]; exact hz 7 (by decide) (by decide)
  · rw [o 8 (by decide) (by decide) (by decide) (by decide)]; exact hz 8 (by decide) (by decide)
theorem tells_v {N : Nat} (hN : 40000 ≤ N) {X M : KX} {k : Nat} {b : Nat → Nat} {s0 : Int32} (hw : wl (zU X 5 2 0) M k b 0) (hs : (s0 = 1 ∧ 0 < k ∧ b 0 = 107) ∨ (s0 = 0 ∧ ¬ (0 < k ∧ b 0 = 107))) (hz : ∀ i, i < 71 → i ≠ 3 → M 7 i = 0) (h3 : M 7 3 = -1) : tO N X M (f_X5_tells N X) (f_X7_castle_65 N M s0) := by
  obtain ⟨X1, d1, d2⟩ := law_v hN hw hs
  have d0 : dF (zU X 5 2 0) X := cd1 ⟨fun c hc => zU_o _ _ _ hc, by rw [zU_s, up_o _ _ (by decide)]⟩
  unfold f_X5_tells
  simp only [zLet]
  rcases d2 with ⟨M1, q, w, lim, e, n1, n2, n3, n4, n5, n6, n7, n8, n9, nA, nB⟩ | ⟨n1, f, kd, n2, n3⟩
  · rw [n1, n2]
    simp only [zB2_s, z10, if_false]
    obtain ⟨X2, g1, g2⟩ := rest_v hN n4 (dI_0 hz h3 n5 n6 n7 n8 n9 nA nB)
    refine ⟨X2, cd_t g1 (cd_t d1 d0), ?_⟩
    rcases g2 with ⟨M2, h', g, y1, y2, y3, y4, y5, y6, y7⟩ | ⟨y1, f, kd, y2, y3⟩
    · exact Or.inl ⟨M2, h', g, y1, y2, e_t y3 n3, y4, y5, y6, y7⟩
    · exact Or.inr ⟨y1, f, kd, y2, fO_t y3 n3⟩
  · rw [n1]
    simp only [zB2_s, if_true]
    exact ⟨X1, cd_t d1 d0, Or.inr ⟨rfl, f, kd, n2, n3⟩⟩
/-- the model's start: a draft of nothing -/
theorem cas_z {N : Nat} (hN : 40000 ≤ N) (M : KX) : ∀ (n i t : Nat) (M1 : KX), i + n = 71 → n < t → (∀ c, c ≠ 7 → M1 c = M c) → (∀ j, j < i → M1 7 j = 0) → ∃ M2 : KX, f_X7_castle_2 N t M1 (nI i) = f_X7_castle_2 N 1 M2 (nI 71) ∧ (∀ c, c ≠ 7 → M2 c = M c) ∧ ∀ j, j < 71 → M2 7 j = 0 := by
  intro n
  induction n with
  | zero =>
    intro i t M1 hi ht h1 h2
    obtain ⟨t, rfl⟩ : ∃ u, t = u + 1 := ⟨t - 1, by omega⟩
    obtain rfl : i = 71 := by omega
    refine ⟨M1, ?_, h1, h2⟩
    rw [f_X7_castle_2, f_X7_castle_2, if_pos (show (71 : Int32) ≤ nI 71 by decide), if_pos (show (71 : Int32) ≤ nI 71 by decide)]
  | succ n ih =>
    intro i t M1 hi ht h1 h2
    obtain ⟨t, rfl⟩ : ∃ u, t = u + 1 := ⟨t - 1, by omega⟩
    obtain ⟨M2, e, e1, e2⟩ := ih (i + 1) t (zU M1 7 i 0) (by omega) (by omega) (fun c hc => by rw [zU_o _ _ _ hc]; exact h1 c hc) (fun j hj => by
      by_cases z : j = i
      · rw [z, zU_s, up_s]
      · rw [zU_s, up_o _ _ z]; exact h2 j (by omega))
    refine ⟨M2, ?_, e1, e2⟩
    rw [← e, f_X7_castle_2, if_neg (by rw [show (71 : Int32) = nI 71 from rfl, le_n (by omega) (by omega)]; omega), zGd_n _ (show i < 71 by omega) (by decide), nI_cl i (by omega)]
    simp only [zLet, nIp]
