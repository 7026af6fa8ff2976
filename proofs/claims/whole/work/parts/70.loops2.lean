theorem e_rf (M : KX) : eF M M := ⟨fun _ _ _ => rfl, fun _ _ => rfl, fun z => ⟨z, rfl⟩⟩
def gO (N : Nat) (X M : KX) (k : Nat) (b : Nat → Nat) (h : Nat) (oc om : Option (Int32 × KX)) : Prop := ∃ X' : KX, dF X' X ∧ ((∃ (M' : KX) (p g : Nat), oc = some (1, X') ∧ om = f_X7_castle_233 N M' ∧ eF M' M ∧ wl X' M' k b p ∧ dI X' M' h g ∧ X' 16 5 = nI g ∧ X' 16 4 = X 16 4) ∨ (oc = some (0, X') ∧ ∃ f kd, f ≤ 120 ∧ fO X' M f kd om))
theorem g34_v {N : Nat} {X M : KX} {k p h g : Nat} {b : Nat → Nat} {r : Int32} (hw : wl X M k b p) (hd : dI X M h g) (hl : f_X5_letter X = some r) (hr : ¬ r = 110) : gO N X M k b h (f_X5_tellsGuests_34 N X (nI g)) (f_X7_castle_233 N M) := by
  unfold f_X5_tellsGuests_34 f_X5_tellsGuests_56
  have e : f_X5_letter (zU X 16 5 (nI g)) = some r := hl
  simp only [zLet]
  rw [e]
  simp only [zB1_s]
  rw [if_neg hr]
  refine ⟨zU X 16 5 (nI g), cd_16 (j := 5) (by omega) (fun d _ d16 => zU_o _ _ _ d16) (by rw [zU_o _ _ _ (by decide)]) (fun i hi => by rw [zU_s, up_o _ _ hi]), Or.inl ⟨M, p, g, rfl, rfl, e_rf M, wl_x hw (zU_o _ _ _ (by decide)) (zU_o _ _ _ (by decide)), ?_, by rw [zU_s, up_s], by rw [zU_s, up_o _ _ (by decide)]⟩⟩
  exact dI_x hd rfl rfl rfl rfl rfl rfl rfl rfl rfl
theorem guests_v {N : Nat} (hN : 40000 ≤ N) {k h : Nat} {b : Nat → Nat} : ∀ (n g t t' : Nat) (X M : KX) (p : Nat), g + n = 6 → n < t → n + 1 < t' → wl X M k b p → dI X M h g → gO N X M k b h (f_X5_tellsGuests_2 N t X (nI g)) (f_X7_castle_202 N t' M) := by
  intro n
  induction n with
  | zero =>
    intro g t t' X M p hg ht ht' hw hd
    obtain ⟨t, rfl⟩ : ∃ u, t = u + 1 := ⟨t - 1, by omega⟩
    obtain ⟨t', rfl⟩ : ∃ u, t' = u + 1 := ⟨t' - 1, by omega⟩
    obtain rfl : g = 6 := by omega
    have hp := wl_p hw
    rw [f_X5_tellsGuests_2, f_X7_castle_202, well_t hw.2.2.1, if_neg (show ¬ (1 : Int32) = 0 by decide), if_pos (show (6 : Int32) ≤ nI 6 by decide)]
    rcases let_c hw (c := 110) (by omega) with ⟨h1, h2, h3, h4, h5⟩ | ⟨h1, r, h3, h4, h5⟩
    · have h5' : M 0 12 = 110 := h5
      rw [if_pos h4, if_pos h5']
      obtain ⟨M1, a1, a2, a3, a4⟩ := takes_no (N := N) (kd := 3) hw
      have m8 : M 7 8 = nI 6 := hd.2.1.2.2.2.2.2.1
      have eR : f_X7_readsGuest N M = some M1 := by
        unfold f_X7_readsGuest f_X7_readsGuest_18
        simp only [z71_0, z71_1, z71_2, z71_3, z71_4, z71_5, z71_6, z71_7, z71_8, cl_0, cl_1, cl_2, cl_3, cl_4, cl_5, cl_6, cl_7, cl_8]
        rw [m8, if_pos (show (6 : Int32) ≤ nI 6 by decide), a1]
        simp only [zB2_s]
        rw [g49_i a3 (by omega), g49_i a3 (by omega)]
        split <;> rfl
      rw [eR]
      simp only [zB1_s]
      unfold f_X5_tellsGuests_34
      have e : f_X5_letter (zU X 16 5 (nI 6)) = some (nI 110) := h3
      simp only [zLet]
      rw [e]
      simp only [zB1_s]
      rw [if_pos (show (nI 110 : Int32) = 110 from rfl)]
      unfold f_X5_isFaulty
      simp only [zLet, zB2_s, if_true]
      refine ⟨zU (zU X 16 5 (nI 6)) 5 3 3, cd_t (cd1 ⟨fun c hc => zU_o _ _ _ hc, by rw [zU_s, up_o _ _ (by decide)]⟩) (cd_16 (j := 5) (by omega) (fun d _ d16 => zU_o _ _ _ d16) (by rw [zU_o _ _ _ (by decide)]) (fun i hi => by rw [zU_s, up_o _ _ hi])), Or.inr ⟨rfl, p, 3, by omega, fO_i (N := N) (Ma := M1) ⟨?_, by rw [zU_s, up_s], a3, a4⟩ (eb a2) (by rw [c202_i a3 (by omega) (by omega)]; exact iF_s (N := N))⟩⟩
      rw [zU_s, up_o _ _ (by decide), zU_o _ _ _ (by decide)]; exact hw.2.1
    · have c : (if M 0 11 = 1 then (if (M 0 12) = 110 then (zB1 (f_X7_readsGuest N M) (fun X_1 => f_X7_castle_202 N t' X_1)) else (f_X7_castle_233 N M)) else (f_X7_castle_233 N M)) = f_X7_castle_233 N M := by
        by_cases d : M 0 11 = 1
        · rw [if_pos d, if_neg (show ¬ M 0 12 = 110 from h5 d)]
        · rw [if_neg d]
      rw [c]
      exact g34_v hw hd h3 h4
  | succ n ih =>
    intro g t t' X M p hg ht ht' hw hd
    obtain ⟨t, rfl⟩ : ∃ u, t = u + 1 := ⟨t - 1, by omega⟩
    obtain ⟨t', rfl⟩ : ∃ u, t' = u + 1 := ⟨t' - 1, by omega⟩
    have hp := wl_p hw
    have h6 : ¬ (6 : Int32) ≤ nI g := by rw [show (6 : Int32) = nI 6 from rfl, le_n (by omega) (by omega)]; omega
    rw [f_X5_tellsGuests_2, f_X7_castle_202, well_t hw.2.2.1, if_neg (show ¬ (1 : Int32) = 0 by decide), if_neg h6]
    rcases let_c hw (c := 110) (by omega) with ⟨h1, h2, h3, h4, h5⟩ | ⟨h1, r, h3, h4, h5⟩
    · have h5' : M 0 12 = 110 := h5
      rw [if_pos h4, if_pos h5', h3]
      simp only [zB1_s]
      rw [if_pos (show (nI 110 : Int32) = 110 from rfl)]
      obtain ⟨X1, M1, d1, d2, d3, d4⟩ := guest_v hN hw h1 h2 (show g < 6 by omega) hd.2.1.2.2.2.2.2.1
      rw [d3]
      simp only [zB1_s]
      rcases d4 with ⟨n1, p', a, c, d, n2, n3, n4, n5, n6, n7, n8, n9, nA, nB, nC, nD⟩ | ⟨n1, f, kd, n2, n3⟩
      · rw [n1]
        simp only [zB2_s, z10, if_false, zLet]
        rw [nIp]
        obtain ⟨X2, g1, g2⟩ := ih (g + 1) t t' X1 M1 p' (by omega) (by omega) (by omega) n2 (dI_g hd (by omega) n3 n4 n5 n6 n7 n8 n9 nA nB nC nD)
        refine ⟨X2, cd_t g1 d1, ?_⟩
        rcases g2 with ⟨M2, p2, g', y1, y2, y3, y4, y5, y6, y7⟩ | ⟨y1, f, kd, y2, y3⟩
        · exact Or.inl ⟨M2, p2, g', y1, y2, e_t y3 d2, y4, y5, y6, by rw [y7, n9]⟩
        · exact Or.inr ⟨y1, f, kd, y2, fO_t y3 d2⟩
      · rw [n1]
        simp only [zB2_s, if_true]
        exact ⟨X1, d1, Or.inr ⟨rfl, f, kd, n2, fO_i (N := N) n3 d2 (by rw [c202_i n3.2.2.1 n2 (by omega)]; exact iF_s (N := N))⟩⟩
    · have c : (if M 0 11 = 1 then (if (M 0 12) = 110 then (zB1 (f_X7_readsGuest N M) (fun X_1 => f_X7_castle_202 N t' X_1)) else (f_X7_castle_233 N M)) else (f_X7_castle_233 N M)) = f_X7_castle_233 N M := by
        by_cases d : M 0 11 = 1
        · rw [if_pos d, if_neg (show ¬ M 0 12 = 110 from h5 d)]
        · rw [if_neg d]
      rw [c, h3]
      simp only [zB1_s]
      rw [if_neg (show ¬ r = 110 from h4)]
      exact g34_v hw hd h3 h4
def hO (N : Nat) (X M : KX) (k : Nat) (b : Nat → Nat) (oc om : Option (Int32 × KX)) : Prop := ∃ X' : KX, dF X' X ∧ ((∃ (M' : KX) (p h : Nat), oc = some (1, X') ∧ om = f_X7_castle_202 N N M' ∧ eF M' M ∧ wl X' M' k b p ∧ dI X' M' h 0 ∧ X' 16 4 = nI h) ∨ (oc = some (0, X') ∧ ∃ f kd, f ≤ 120 ∧ fO X' M f kd om))
theorem h35_v {N : Nat} {X M : KX} {k p h : Nat} {b : Nat → Nat} {r : Int32} (hw : wl X M k b p) (hd : dI X M h 0) (hl : f_X5_letter X = some r) (hr : f_X5_sortOf r = 0) : hO N X M k b (f_X5_tellsHints_35 N X (nI h)) (f_X7_castle_202 N N M) := by
  unfold f_X5_tellsHints_35 f_X5_tellsHints_58
  have e : f_X5_letter (zU X 16 4 (nI h)) = some r := hl
  simp only [zLet]
  rw [e]
  simp only [zB1_s]
  rw [if_pos hr]
  refine ⟨zU X 16 4 (nI h), cd_16 (j := 4) (by omega) (fun d _ d16 => zU_o _ _ _ d16) (by rw [zU_o _ _ _ (by decide)]) (fun i hi => by rw [zU_s, up_o _ _ hi]), Or.inl ⟨M, p, h, rfl, rfl, e_rf M, wl_x hw (zU_o _ _ _ (by decide)) (zU_o _ _ _ (by decide)), ?_, by rw [zU_s, up_s]⟩⟩
  exact dI_x hd rfl rfl rfl rfl rfl rfl rfl rfl rfl
theorem hints_v {N : Nat} (hN : 40000 ≤ N) {k : Nat} {b : Nat → Nat} : ∀ (n h t t' : Nat) (X M : KX) (p : Nat), h + n = 8 → n < t → n + 1 < t' → wl X M k b p → dI X M h 0 → hO N X M k b (f_X5_tellsHints_2 N t X (nI h)) (f_X7_castle_170 N t' M) := by
  intro n
  induction n with
  | zero =>
    intro h t t' X M p hg ht ht' hw hd
    obtain ⟨t, rfl⟩ : ∃ u, t = u + 1 := ⟨t - 1, by omega⟩
    obtain ⟨t', rfl⟩ : ∃ u, t' = u + 1 := ⟨t' - 1, by omega⟩
    obtain rfl : h = 8 := by omega
    have hp := wl_p hw
    rw [f_X5_tellsHints_2, f_X7_castle_170, well_t hw.2.2.1, if_neg (show ¬ (1 : Int32) = 0 by decide), if_pos (show (8 : Int32) ≤ nI 8 by decide)]
    rcases let_k hw with ⟨h1, h2, h3, h4, h5, h6, h7⟩ | ⟨r, h3, h4, h5⟩
    · rw [if_pos h5, h6, if_neg h7]
      obtain ⟨M1, a1, a2, a3, a4⟩ := takes_no (N := N) (kd := 3) hw
      have m8 : M 7 7 = nI 8 := hd.2.1.2.2.2.2.1
      have eR : f_X7_readsHint N M = some M1 := by
        unfold f_X7_readsHint f_X7_readsHint_26
        simp only [z71_0, z71_1, z71_2, z71_3, z71_4, z71_5, z71_6, z71_7, z71_8, cl_0, cl_1, cl_2, cl_3, cl_4, cl_5, cl_6, cl_7, cl_8, zLet]
        rw [m8, if_pos (show (8 : Int32) ≤ nI 8 by decide), a1]
        simp only [zB2_s]
        rw [h57_i a3 (by omega), h57_i a3 (by omega)]
        split <;> rfl
      rw [eR]
      simp only [zB1_s]
      unfold f_X5_tellsHints_35
      have e : f_X5_letter (zU X 16 4 (nI 8)) = some (nI (b p)) := h3
      simp only [zLet]
      rw [e]
      simp only [zB1_s]
      rw [if_neg h4]
      unfold f_X5_isFaulty
      simp only [zLet, zB2_s, if_true]
      refine ⟨zU (zU X 16 4 (nI 8)) 5 3 3, cd_t (cd1 ⟨fun c hc => zU_o _ _ _ hc, by rw [zU_s, up_o _ _ (by decide)]⟩) (cd_16 (j := 4) (by omega) (fun d _ d16 => zU_o _ _ _ d16) (by rw [zU_o _ _ _ (by decide)]) (fun i hi => by rw [zU_s, up_o _ _ hi])), Or.inr ⟨rfl, p, 3, by omega, fO_i (N := N) (Ma := M1) ⟨?_, by rw [zU_s, up_s], a3, a4⟩ (eb a2) (by rw [c170_i a3 (by omega) (by omega) (by omega)]; exact iF_s (N := N))⟩⟩
      rw [zU_s, up_o _ _ (by decide), zU_o _ _ _ (by decide)]; exact hw.2.1
    · have c : (if M 0 11 = 1 then (if (f_X7_kindOf (M 0 12)) ≤ 0 then (f_X7_castle_202 N N M) else (zB1 (f_X7_readsHint N M) (fun X_1 => f_X7_castle_170 N t' X_1))) else (f_X7_castle_202 N N M)) = f_X7_castle_202 N N M := by
        by_cases d : M 0 11 = 1
        · rw [if_pos d, if_pos (h5 d)]
        · rw [if_neg d]
      rw [c]
      exact h35_v hw hd h3 h4
  | succ n ih =>
    intro h t t' X M p hg ht ht' hw hd
    obtain ⟨t, rfl⟩ : ∃ u, t = u + 1 := ⟨t - 1, by omega⟩
    obtain ⟨t', rfl⟩ : ∃ u, t' = u + 1 := ⟨t' - 1, by omega⟩
    have hp := wl_p hw
    have h8 : ¬ (8 : Int32) ≤ nI h := by rw [show (8 : Int32) = nI 8 from rfl, le_n (by omega) (by omega)]; omega
    rw [f_X5_tellsHints_2, f_X7_castle_170, well_t hw.2.2.1, if_neg (show ¬ (1 : Int32) = 0 by decide), if_neg h8]
    rcases let_k hw with ⟨h1, h2, h3, h4, h5, h6, h7⟩ | ⟨r, h3, h4, h5⟩
    · rw [if_pos h5, h6, if_neg h7, h3]
      simp only [zB1_s]
      rw [if_neg h4]
      obtain ⟨X1, M1, d1, d2, d3, d4⟩ := hint_v hN hw h1 h2 (show h < 8 by omega) hd.2.1.2.2.2.2.1
      rw [d3]
      simp only [zB1_s]
      rcases d4 with ⟨n1, p', f, u, n2, n3, n4, n5, n6, n7, n8, n9, nA, nB, nC, nD⟩ | ⟨n1, f, kd, n2, n3⟩
      · rw [n1]
        simp only [zB2_s, z10, if_false, zLet]
        rw [nIp]
        have kd5 := kdN_le (b p)
        obtain ⟨X2, g1, g2⟩ := ih (h + 1) t t' X1 M1 p' (by omega) (by omega) (by omega) n2 (dI_h hd (by omega) (by omega) kd5 n3 n4 n5 n6 n7 n8 n9 nD)
        refine ⟨X2, cd_t g1 d1, ?_⟩
        rcases g2 with ⟨M2, p2, g', y1, y2, y3, y4, y5, y6⟩ | ⟨y1, f, kd, y2, y3⟩
        · exact Or.inl ⟨M2, p2, g', y1, y2, e_t y3 d2, y4, y5, y6⟩
        · exact Or.inr ⟨y1, f, kd, y2, fO_t y3 d2⟩
      · rw [n1]
        simp only [zB2_s, if_true]
        exact ⟨X1, d1, Or.inr ⟨rfl, f, kd, n2, fO_i (N := N) n3 d2 (by rw [c170_i n3.2.2.1 n2 (by omega) (by omega)]; exact iF_s (N := N))⟩⟩
    · have c : (if M 0 11 = 1 then (if (f_X7_kindOf (M 0 12)) ≤ 0 then (f_X7_castle_202 N N M) else (zB1 (f_X7_readsHint N M) (fun X_1 => f_X7_castle_170 N t' X_1))) else (f_X7_castle_202 N N M)) = f_X7_castle_202 N N M := by
        by_cases d : M 0 11 = 1
        · rw [if_pos d, if_pos (h5 d)]
        · rw [if_neg d]
      rw [c, h3]
      simp only [zB1_s]
      rw [if_pos h4]
      exact h35_v hw hd h3 h4
