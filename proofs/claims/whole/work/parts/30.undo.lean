theorem clr_v : ∀ ev, ev < 256 → ∀ h, h < 8 → ev.testBit h = true ∨ (nI (ev ||| 2 ^ h)) &&& ((zShl 1 (nI h)) ^^^ (-1)) = nI ev := by decide +kernel
def clr (b g : Nat) : Nat := if b.testBit g then b - 2 ^ g else b
theorem clr_b : ∀ b, b < 64 → ∀ g, g < 6 → (nI b) &&& ((zShl 1 (nI g)) ^^^ (-1)) = nI (clr b g) ∧ clr b g < 64 := by decide +kernel
theorem clr_tb : ∀ b, b < 64 → ∀ g, g < 6 → ∀ k, k < 6 → (clr b g).testBit k = (b.testBit k && !(k == g)) := by decide +kernel
def tC (T S : Nat → Int32) : Nat → Int32 := fun j => if j < 71 then T j else S j
theorem tC_e (T S : Nat → Int32) : eS (tC T S) T := fun j hj => if_pos hj
theorem tC_o {T S : Nat → Int32} {j : Nat} (h : j < 71 → T j = S j) : tC T S j = S j := by
  unfold tC
  split
  · rename_i c; exact h c
  · rfl
theorem up_eS {S T : Nat → Int32} {j : Nat} (h : eS S T) (hj : j < 71) : S j = T j := h j hj
theorem und_0 {X0 M M2 : KX} {H G H' G' : Nat} (hc0 : CK X0 7 (M 6) H G) (t7 : M 6 7 = nI H) (tH : H ≤ 8) (t8 : M 6 8 = nI G) (tG : G ≤ 6) (s7 : M2 6 7 = nI H') (hH : H' ≤ 8) (s8 : M2 6 8 = nI G') (hG : G' ≤ 6) {g G2 : Nat} {bf : Int32} (u8 : M2 6 8 = nI G2) (hg : g < G2) (hG2 : G2 ≤ 6) (u3 : M2 6 3 = -1) (u4 : M2 6 4 = 0) (u44 : M2 6 (44 + 5 * g) = 0) (ut : eS (M 6) (upd (upd (upd (M2 6) 3 (nI g)) 4 0) (44 + 5 * g) 1)) : ∃ Y : KX, f_X6_takeBack X0 0 (nI g) bf = some Y ∧ (∀ k, (k < 7 ∨ 16 ≤ k) → Y k = X0 k) ∧ CK Y 7 (M2 6) H' G' := by
  unfold f_X6_takeBack
  have eG : G2 = G' := nI_inj (by omega) (by omega) (u8.symm.trans s8)
  subst eG
  have to : ∀ j, j < 71 → j ≠ 3 → j ≠ 4 → j ≠ 44 + 5 * g → M 6 j = M2 6 j := fun j j0 j1 j2 j3 => by rw [ut j j0, up_o _ _ j3, up_o _ _ j2, up_o _ _ j1]
  have eH : H = H' := nI_inj (by omega) (by omega) (t7.symm.trans ((to 7 (by omega) (by omega) (by omega) (by omega)).trans s7))
  have eG2 : G = G2 := nI_inj (by omega) (by omega) (t8.symm.trans ((to 8 (by omega) (by omega) (by omega) (by omega)).trans s8))
  subst eH; subst eG2
  have tt44 : M 6 (44 + 5 * g) = 1 := by rw [ut _ (by omega), up_s]
  have tt4 : M 6 4 = 0 := by rw [ut _ (by omega), up_o _ _ (by omega), up_s]
  refine ⟨zU X0 7 14 (-1), rfl, fun k hk => zU_o _ _ _ (by omega), ?_⟩
  obtain ⟨⟨a3, a1, a2, a14, a16, a18, a17, a4, a5⟩, b, d, ⟨bb, e1, e2, e3⟩, f, gg⟩ := hc0
  refine ⟨⟨?_, ?_, ?_, ?_, ?_, ?_, ?_, ?_, ?_⟩, fun k hk => ?_, fun k hk => ?_, ⟨bb, e1, e2, fun k hk => ?_⟩, ?_, gg⟩
  · rw [← to 0 (by omega) (by omega) (by omega) (by omega)]; exact a3
  · rw [← to 1 (by omega) (by omega) (by omega) (by omega)]; exact a1
  · rw [← to 2 (by omega) (by omega) (by omega) (by omega)]; exact a2
  · rw [u3]; rfl
  · rw [u4, ← tt4]; exact a16
  · rw [← to 5 (by omega) (by omega) (by omega) (by omega)]; exact a18
  · rw [← to 6 (by omega) (by omega) (by omega) (by omega)]; exact a17
  · rw [← to 7 (by omega) (by omega) (by omega) (by omega)]; exact a4
  · rw [← to 8 (by omega) (by omega) (by omega) (by omega)]; exact a5
  · rw [← to (9 + 4 * k) (by omega) (by omega) (by omega) (by omega), ← to (10 + 4 * k) (by omega) (by omega) (by omega) (by omega), ← to (11 + 4 * k) (by omega) (by omega) (by omega) (by omega), ← to (12 + 4 * k) (by omega) (by omega) (by omega) (by omega)]
    exact b k hk
  · rw [← to (41 + 5 * k) (by omega) (by omega) (by omega) (by omega), ← to (42 + 5 * k) (by omega) (by omega) (by omega) (by omega), ← to (43 + 5 * k) (by omega) (by omega) (by omega) (by omega), ← to (45 + 5 * k) (by omega) (by omega) (by omega) (by omega)]
    exact d k hk
  · rw [e3 k hk]
    by_cases c : k = g
    · subst c
      rw [tt44, u44]
      exact ⟨fun z => absurd z.2 (by decide), fun z => absurd z.2 (by decide)⟩
    · by_cases c6 : k < G
      · rw [to _ (by omega) (by omega) (by omega) (by omega)]
      · exact ⟨fun z => absurd z.1 c6, fun z => absurd z.1 c6⟩
  · rw [← to 0 (by omega) (by omega) (by omega) (by omega)]; exact f
theorem und_1 {X0 M M2 : KX} {H G H' G' : Nat} (hc0 : CK X0 7 (M 6) H G) (t7 : M 6 7 = nI H) (tH : H ≤ 8) (t8 : M 6 8 = nI G) (tG : G ≤ 6) (s7 : M2 6 7 = nI H') (hH : H' ≤ 8) (s8 : M2 6 8 = nI G') (hG : G' ≤ 6) {h g H2 G2 ev2 : Nat} {m : Int32} (u7 : M2 6 7 = nI H2) (hh : h < H2) (hH2 : H2 ≤ 8) (u8 : M2 6 8 = nI G2) (hg : g < G2) (hG2 : G2 ≤ 6) (u4 : M2 6 4 = nI ev2) (hev2 : ev2 < 2 ^ H2) (htb : ev2.testBit h = false) (u3 : M2 6 3 = nI g) (ut : eS (M 6) (upd (upd (upd (M2 6) (41 + 5 * g) m) (12 + 4 * h) (M2 6 (12 + 4 * h) + 1)) 4 (nI (ev2 ||| 2 ^ h)))) : ∃ Y : KX, f_X6_takeBack X0 1 (nI h) (M2 6 (41 + 5 * g)) = some Y ∧ (∀ k, (k < 7 ∨ 16 ≤ k) → Y k = X0 k) ∧ CK Y 7 (M2 6) H' G' := by
  unfold f_X6_takeBack
  have eG : G2 = G' := nI_inj (by omega) (by omega) (u8.symm.trans s8)
  subst eG
  have eH : H2 = H' := nI_inj (by omega) (by omega) (u7.symm.trans s7)
  subst eH
  have to : ∀ j, j < 71 → j ≠ 41 + 5 * g → j ≠ 12 + 4 * h → j ≠ 4 → M 6 j = M2 6 j := fun j j0 j1 j2 j3 => by rw [ut j j0, up_o _ _ j3, up_o _ _ j2, up_o _ _ j1]
  have eH : H = H2 := nI_inj (by omega) (by omega) (t7.symm.trans ((to 7 (by omega) (by omega) (by omega) (by omega)).trans s7))
  have eG2 : G = G2 := nI_inj (by omega) (by omega) (t8.symm.trans ((to 8 (by omega) (by omega) (by omega) (by omega)).trans s8))
  subst eH; subst eG2
  have ev8 := lt8_v H hH ev2 hev2
  have tt4 : M 6 4 = nI (ev2 ||| 2 ^ h) := by rw [ut _ (by omega), up_s]
  have tt12 : M 6 (12 + 4 * h) = M2 6 (12 + 4 * h) + 1 := by rw [ut _ (by omega), up_o _ _ (by omega), up_s]
  have x14 : X0 7 14 = nI g := hc0.1.2.2.2.1.trans ((to 3 (by omega) (by omega) (by omega) (by omega)).trans u3)
  have x16 : X0 7 16 = nI (ev2 ||| 2 ^ h) := hc0.1.2.2.2.2.1.trans tt4
  have x5 : X0 7 5 = nI G := hc0.1.2.2.2.2.2.2.2.2.trans t8
  have x11 : X0 11 h = M2 6 (12 + 4 * h) + 1 := (hc0.2.1 h hh).2.2.2.trans tt12
  have G6 : ∀ (α : Type) (e : Option α), zGd (nI g) 6 e = e := fun _ e => zGd_n e (by omega) (by decide)
  have cg : (nI g).toNatClampNeg = g := nI_cl g (by omega)
  have G8 : ∀ (α : Type) (e : Option α), zGd (nI h) 8 e = e := fun _ e => zGd_n e (by omega) (by decide)
  have ch : (nI h).toNatClampNeg = h := nI_cl h (by omega)
  have clr2 : (nI (ev2 ||| 2 ^ h)) &&& ((zShl 1 (nI h)) ^^^ (-1)) = nI ev2 := (clr_v ev2 ev8 h (by omega)).resolve_left (by rw [htb]; decide)
  have z11 : (zU X0 12 g (M2 6 (41 + 5 * g))) 11 = X0 11 := rfl
  have z7 : (zU (zU X0 12 g (M2 6 (41 + 5 * g))) 11 h (M2 6 (12 + 4 * h))) 7 = X0 7 := rfl
  have sub1 : M2 6 (12 + 4 * h) + 1 - 1 = M2 6 (12 + 4 * h) := by
    rw [Int32.add_sub_cancel]
  refine ⟨zU (zU (zU X0 12 g (M2 6 (41 + 5 * g))) 11 h (M2 6 (12 + 4 * h))) 7 16 (nI ev2), ?_, fun k hk => by rw [zU_o _ _ _ (by omega), zU_o _ _ _ (by omega), zU_o _ _ _ (by omega)], ?_⟩
  · simp only [show ¬ (1 : Int32) = 0 by decide, if_true, if_false]
    unfold f_X2_conceal f_X2_conceal_21 f_X2_isGuest
    rw [x14, x5, isBelow_t hg (by omega)]
    simp only [z10, if_false, G6, cg, G8, ch, zLet, z11, x11, sub1, z7, x16, clr2, zB1_s]
  · refine CK_e (tC_e (M2 6) (M 6)) hH hG ?_
    refine CK_shw (v4 := 0) hc0 hH hG hg hh (fun j j1 j2 j3 => tC_o (fun j0 => (to j j0 j1 j2 j3).symm)) (fun j hj => by rw [zU_s, up_o _ _ hj]; rfl) ?_ ?_ (fun j hj => ?_) ?_ (fun j hj => ?_) (fun k h1 h2 h3 h4 => ?_)
    · rw [tC_e (M2 6) (M 6) 4 (by omega), u4]; rfl
    · rw [tC_e (M2 6) (M 6) _ (by omega), zU_o _ _ _ (by decide), zU_o _ _ _ (by decide), zU_s, up_s]
    · rw [zU_o _ _ _ (by decide), zU_o _ _ _ (by decide), zU_s, up_o _ _ hj]
    · rw [tC_e (M2 6) (M 6) _ (by omega), zU_o _ _ _ (by decide), zU_s, up_s]
    · rw [zU_o _ _ _ (by decide), zU_s, up_o _ _ hj]; rfl
    · rw [zU_o _ _ _ (by omega), zU_o _ _ _ h3, zU_o _ _ _ h4]
theorem und_2 {X0 M M2 : KX} {H G H' G' : Nat} (hc0 : CK X0 7 (M 6) H G) (t7 : M 6 7 = nI H) (tH : H ≤ 8) (t8 : M 6 8 = nI G) (tG : G ≤ 6) (s7 : M2 6 7 = nI H') (hH : H' ≤ 8) (s8 : M2 6 8 = nI G') (hG : G' ≤ 6) {g G2 : Nat} {a he wv : Int32} (u8 : M2 6 8 = nI G2) (hg : g < G2) (hG2 : G2 ≤ 6) (u3 : M2 6 3 = nI g) (u5 : M2 6 5 = 0) (u44 : M2 6 (44 + 5 * g) = 1) (u45 : M2 6 (45 + 5 * g) = -1000000) (hwv : wv = M2 6 6 + (if a = M2 6 2 then 1 else 0)) (ut : eS (M 6) (upd (upd (upd (upd (upd (upd (M2 6) 5 he) 6 wv) (44 + 5 * g) 2) (45 + 5 * g) a) 3 (-1)) 4 0)) : ∃ Y : KX, f_X6_takeBack X0 2 (nI g) (M2 6 4) = some Y ∧ (∀ k, (k < 7 ∨ 16 ≤ k) → Y k = X0 k) ∧ CK Y 7 (M2 6) H' G' := by
  unfold f_X6_takeBack
  have eG : G2 = G' := nI_inj (by omega) (by omega) (u8.symm.trans s8)
  subst eG
  have to : ∀ j, j < 71 → j ≠ 5 → j ≠ 6 → j ≠ 44 + 5 * g → j ≠ 45 + 5 * g → j ≠ 3 → j ≠ 4 → M 6 j = M2 6 j := fun j j0 j1 j2 j3 j4 j5 j6 => by rw [ut j j0, up_o _ _ j6, up_o _ _ j5, up_o _ _ j4, up_o _ _ j3, up_o _ _ j2, up_o _ _ j1]
  have eH : H = H' := nI_inj (by omega) (by omega) (t7.symm.trans ((to 7 (by omega) (by omega) (by omega) (by omega) (by omega) (by omega) (by omega)).trans s7))
  have eG2 : G = G2 := nI_inj (by omega) (by omega) (t8.symm.trans ((to 8 (by omega) (by omega) (by omega) (by omega) (by omega) (by omega) (by omega)).trans s8))
  subst eH; subst eG2
  have tt44 : M 6 (44 + 5 * g) = 2 := by rw [ut _ (by omega), up_o _ _ (by omega), up_o _ _ (by omega), up_o _ _ (by omega), up_s]
  have tt45 : M 6 (45 + 5 * g) = a := by rw [ut _ (by omega), up_o _ _ (by omega), up_o _ _ (by omega), up_s]
  have tt6 : M 6 6 = wv := by rw [ut _ (by omega), up_o _ _ (by omega), up_o _ _ (by omega), up_o _ _ (by omega), up_o _ _ (by omega), up_s]
  obtain ⟨⟨a3, a1, a2, a14, a16, a18, a17, a4, a5'⟩, b, d, ⟨bb, e1, e2, e3⟩, f, gg⟩ := hc0
  have x17 : X0 7 17 = wv := a17.trans tt6
  have x2 : X0 7 2 = M2 6 2 := a2.trans (to 2 (by omega) (by omega) (by omega) (by omega) (by omega) (by omega) (by omega))
  have x15 : X0 15 g = a := (d g hg).2.2.2.trans tt45
  have G6 : ∀ (α : Type) (e : Option α), zGd (nI g) 6 e = e := fun _ e => zGd_n e (by omega) (by decide)
  have cg : (nI g).toNatClampNeg = g := nI_cl g (by omega)
  obtain ⟨cb1, cb2⟩ := clr_b bb e1 g (by omega)
  refine ⟨zU (zU (zU (zU (zU (zU X0 7 18 0) 7 17 (M2 6 6)) 15 g (-1000000)) 7 15 (nI (clr bb g))) 7 14 (nI g)) 7 16 (M2 6 4), ?_, fun k hk => by rw [zU_o _ _ _ (by omega), zU_o _ _ _ (by omega), zU_o _ _ _ (by omega), zU_o _ _ _ (by omega), zU_o _ _ _ (by omega), zU_o _ _ _ (by omega)], ?_⟩
  · simp only [show ¬ (2 : Int32) = 0 by decide, show ¬ (2 : Int32) = 1 by decide, if_true, if_false]
    unfold f_X2_unhear f_X2_unhear_28
    rw [zGb_ok _ (Or.inl rfl)]
    have q15 : (zU X0 7 18 0) 15 g = a := x15
    have q2 : (zU X0 7 18 0) 7 2 = M2 6 2 := x2
    have q17 : (zU X0 7 18 0) 7 17 = wv := x17
    have q715 : ∀ v : Int32, (zU (zU (zU X0 7 18 0) 7 17 v) 15 g (-1000000)) 7 15 = nI bb := fun v => e2
    simp only [zLet, G6, cg, q15, q2, q17, q715, cb1]
    by_cases c : a = M2 6 2
    · simp only [c, if_true] at hwv ⊢
      rw [hwv, Int32.add_sub_cancel]
      rfl
    · simp only [c, if_false] at hwv ⊢
      rw [hwv, Int32.add_zero, Int32.sub_zero]
      rfl
  · refine ⟨⟨?_, ?_, ?_, ?_, ?_, ?_, ?_, ?_, ?_⟩, fun k hk => ?_, fun k hk => ?_, ⟨clr bb g, cb2, rfl, fun k hk => ?_⟩, ?_, fun k hk hk2 => ?_⟩
    · exact a3.trans (to 0 (by omega) (by omega) (by omega) (by omega) (by omega) (by omega) (by omega))
    · exact a1.trans (to 1 (by omega) (by omega) (by omega) (by omega) (by omega) (by omega) (by omega))
    · exact x2
    · rw [u3]; rfl
    · rfl
    · rw [u5]; rfl
    · rfl
    · exact a4.trans (to 7 (by omega) (by omega) (by omega) (by omega) (by omega) (by omega) (by omega))
    · exact a5'.trans (to 8 (by omega) (by omega) (by omega) (by omega) (by omega) (by omega) (by omega))
    · rw [← to (9 + 4 * k) (by omega) (by omega) (by omega) (by omega) (by omega) (by omega) (by omega), ← to (10 + 4 * k) (by omega) (by omega) (by omega) (by omega) (by omega) (by omega) (by omega), ← to (11 + 4 * k) (by omega) (by omega) (by omega) (by omega) (by omega) (by omega) (by omega), ← to (12 + 4 * k) (by omega) (by omega) (by omega) (by omega) (by omega) (by omega) (by omega)]
      exact b k hk
    · obtain ⟨q1, q2, q3, q4⟩ := d k hk
      rw [← to (41 + 5 * k) (by omega) (by omega) (by omega) (by omega) (by omega) (by omega) (by omega), ← to (42 + 5 * k) (by omega) (by omega) (by omega) (by omega) (by omega) (by omega) (by omega), ← to (43 + 5 * k) (by omega) (by omega) (by omega) (by omega) (by omega) (by omega) (by omega)]
      refine ⟨q1, q2, q3, ?_⟩
      show (zU (zU (zU (zU (zU (zU X0 7 18 0) 7 17 (M2 6 6)) 15 g (-1000000)) 7 15 (nI (clr bb g))) 7 14 (nI g)) 7 16 (M2 6 4)) 15 k = _
      rw [zU_o _ _ _ (by decide), zU_o _ _ _ (by decide), zU_o _ _ _ (by decide), zU_s]
      by_cases c : k = g
      · rw [c, up_s, u45]
      · rw [up_o _ _ c, ← to (45 + 5 * k) (by omega) (by omega) (by omega) (by omega) (by omega) (by omega) (by omega)]
        exact q4
    · rw [clr_tb bb e1 g (by omega) k hk]
      by_cases c : k = g
      · subst c
        rw [u44]
        simp
      · have hkg : (k == g) = false := by simp [c]
        rw [hkg, Bool.not_false, Bool.and_true, e3 k hk]
        by_cases c6 : k < G
        · rw [to _ (by omega) (by omega) (by omega) (by omega) (by omega) (by omega) (by omega)]
        · exact ⟨fun z => absurd z.1 c6, fun z => absurd z.1 c6⟩
    · rw [← to 0 (by omega) (by omega) (by omega) (by omega) (by omega) (by omega) (by omega)]; exact f
    · show (zU (zU (zU (zU (zU (zU X0 7 18 0) 7 17 (M2 6 6)) 15 g (-1000000)) 7 15 (nI (clr bb g))) 7 14 (nI g)) 7 16 (M2 6 4)) 15 k = _
      rw [zU_o _ _ _ (by decide), zU_o _ _ _ (by decide), zU_o _ _ _ (by decide), zU_s, up_o _ _ (by omega)]
      exact gg k hk hk2
theorem und_3 {X0 M M2 : KX} {H G H' G' : Nat} (hc0 : CK X0 7 (M 6) H G) (t7 : M 6 7 = nI H) (tH : H ≤ 8) (t8 : M 6 8 = nI G) (tG : G ≤ 6) (s7 : M2 6 7 = nI H') (hH : H' ≤ 8) (s8 : M2 6 8 = nI G') (hG : G' ≤ 6) {g G2 : Nat} {v : Int32} (u8 : M2 6 8 = nI G2) (hg : g < G2) (hG2 : G2 ≤ 6) (ut : eS (M 6) (upd (M2 6) (43 + 5 * g) v)) : ∃ Y : KX, f_X6_takeBack X0 3 (nI g) (M2 6 (43 + 5 * g)) = some Y ∧ (∀ k, (k < 7 ∨ 16 ≤ k) → Y k = X0 k) ∧ CK Y 7 (M2 6) H' G' := by
  unfold f_X6_takeBack
  have eG : G2 = G' := nI_inj (by omega) (by omega) (u8.symm.trans s8)
  subst eG
  have to : ∀ j, j < 71 → j ≠ 43 + 5 * g → M 6 j = M2 6 j := fun j j0 j1 => by rw [ut j j0, up_o _ _ j1]
  have eH : H = H' := nI_inj (by omega) (by omega) (t7.symm.trans ((to 7 (by omega) (by omega)).trans s7))
  have eG2 : G = G2 := nI_inj (by omega) (by omega) (t8.symm.trans ((to 8 (by omega) (by omega)).trans s8))
  subst eH; subst eG2
  have G6 : ∀ (α : Type) (e : Option α), zGd (nI g) 6 e = e := fun _ e => zGd_n e (by omega) (by decide)
  have cg : (nI g).toNatClampNeg = g := nI_cl g (by omega)
  refine ⟨zU X0 14 g (M2 6 (43 + 5 * g)), ?_, fun k hk => zU_o _ _ _ (by omega), ?_⟩
  · simp only [show ¬ (3 : Int32) = 0 by decide, show ¬ (3 : Int32) = 1 by decide, show ¬ (3 : Int32) = 2 by decide, if_false, G6, cg, zLet]
  · refine CK_e (tC_e (M2 6) (M 6)) hH hG ?_
    refine CK_tal hc0 hH hG hg (fun j j1 => tC_o (fun j0 => (to j j0 j1).symm)) ?_ (fun j hj => ?_) (fun k h1 h2 h3 => zU_o _ _ _ h3)
    · rw [tC_e (M2 6) (M 6) _ (by omega), zU_s, up_s]
    · rw [zU_s, up_o _ _ hj]
theorem op_undo {N : Nat} (hN : 40000 ≤ N) : zOp_undo N Sim := by
  intro X M hS
  obtain ⟨hR, hT, hTr, hSt, hNw, hDr, hI, hA⟩ := id hS
  obtain ⟨lim, q, w, H, G, ev, hv, hc⟩ := hNw
  obtain ⟨A, f, hA24, hf, h3, h16, h4, hj⟩ := hA
  unfold f_X6_undo f_X7_undo f_X0_takeLatest
  have e0 : (nI A = (0 : Int32)) = (A = 0) := nIe (b := 0) (by omega) (by omega)
  simp only [h3, h16, e0]
  by_cases c0 : A = 0
  · simp only [c0, if_true]
    exact ⟨_, X, M, rfl, rfl, hS⟩
  obtain ⟨B, rfl⟩ : ∃ B, A = B + 1 := ⟨A - 1, by omega⟩
  have z433 : (zU X 43 3 (nI B)) 43 3 = nI B := rfl
  have z434 : (zU X 43 3 (nI B)) 43 4 = nI f := h4
  have m016 : (zU M 0 16 (nI B)) 0 16 = nI B := rfl
  simp only [show ¬ B + 1 = 0 by omega, if_false, nI_pred, z433, z434, m016, nI_add, rem24 (show f + B < 2 ^ 31 by omega), zLet, zB2_s, show (71 : Int32) * nI B = nI (71 * B) from by rw [show (71 : Int32) = nI 71 from rfl, pk_mul]]
  have hp : (f + B) % 24 < 24 := Nat.mod_lt _ (by decide)
  obtain ⟨g1, g0, hlk⟩ := hj B (by omega)
  obtain ⟨M2, eM, m1, m2, m3⟩ := copies_8_6_v hN (zU M 0 16 (nI B)) (s := 71 * B) (d := 0) (by omega) (by omega)
  have eM : f_X7_copies_8_6 N (zU M 0 16 (nI B)) (nI (71 * B)) 0 = some M2 := eM
  have es : eS (sT M (B + 1) B) (M2 6) := by
    intro j hj
    unfold sT
    rw [if_pos (by omega)]
    show M 8 (71 * B + j) = M2 6 j
    have := m2 j hj
    rw [Nat.zero_add] at this
    rw [this]
    rfl
  have et : sT M (B + 1) (B + 1) = M 6 := by unfold sT; rw [if_neg (by omega)]
  rw [et] at hlk
  have hlk := lk_e es (eS_rf _) hlk
  have hcv := cVx_e es g1
  rw [eM]
  generalize hq : (f + B) % 24 = p at hp hlk
  have G24 : ∀ (α : Type) (e : Option α), zGd (nI p) 24 e = e := fun _ e => zGd_n e hp (by decide)
  have cp : (nI p).toNatClampNeg = p := nI_cl p (by omega)
  simp only [G24, cp]
  have x44 : (zU X 43 3 (nI B)) 44 p = X 44 p := rfl
  have x45 : (zU X 43 3 (nI B)) 45 p = X 45 p := rfl
  have x46 : (zU X 43 3 (nI B)) 46 p = X 46 p := rfl
  rw [x44, x45, x46]
  -- the class's castle afterwards
  obtain ⟨lim', q', w', H', G', ev', hv'⟩ := hcv
  have hVV := hv'
  obtain ⟨_, _, _, ⟨s7, hH⟩, ⟨s8, hG⟩, ⟨s4, hev, _⟩, a5, b1, b2, b3, b4, b5⟩ := hv'
  obtain ⟨_, _, _, ⟨t7, tH⟩, ⟨t8, tG⟩, _, _, _, _, _, _, _⟩ := hv
  have main : ∃ Y : KX, f_X6_takeBack (zU X 43 3 (nI B)) (X 44 p) (X 45 p) (X 46 p) = some Y ∧ (∀ k, (k < 7 ∨ 16 ≤ k) → Y k = (zU X 43 3 (nI B)) k) ∧ CK Y 7 (M2 6) H' G' := by
    have hc0 : CK (zU X 43 3 (nI B)) 7 (M 6) H G := CK_c rfl rfl rfl rfl rfl rfl rfl rfl rfl hc
    generalize zU X 43 3 (nI B) = X0 at hc0 ⊢
    generalize X 44 p = wt at hlk ⊢
    generalize X 45 p = wo at hlk ⊢
    generalize X 46 p = bf at hlk ⊢
    rcases hlk with ⟨rfl, g, G2, u8, hg, _, rfl, u3, u4, u44, ut⟩ | ⟨rfl, h, g, H2, G2, ev2, u7, hh, _, u8, hg, _, u4, hev2, htb, rfl, u3, rfl, m, ut⟩ | ⟨rfl, g, G2, u8, hg, _, rfl, u3, u5, u44, u45, rfl, a, he, wv, hwv, ut⟩ | ⟨rfl, g, G2, u8, hg, _, rfl, rfl, v, ut⟩
    · exact und_0 hc0 t7 tH t8 tG s7 hH s8 hG u8 hg (by omega) u3 u4 u44 ut
    · exact und_1 hc0 t7 tH t8 tG s7 hH s8 hG u7 hh (by omega) u8 hg (by omega) u4 hev2 htb u3 ut
    · exact und_2 hc0 t7 tH t8 tG s7 hH s8 hG u8 hg (by omega) u3 u5 u44 u45 hwv ut
    · exact und_3 hc0 t7 tH t8 tG s7 hH s8 hG u8 hg (by omega) ut
  obtain ⟨Y, eY, yo, hcY⟩ := main
  rw [eY]
  have y433 : Y 43 3 = nI B := by rw [yo 43 (by omega)]; rfl
  have n016 : M2 0 16 = nI B := by rw [m1 0 (by decide)]; rfl
  simp only [zB1_s, y433, n016]
  have y44 : Y 44 = X 44 := by rw [yo 44 (by omega)]; rfl
  have y45 : Y 45 = X 45 := by rw [yo 45 (by omega)]; rfl
  have y46 : Y 46 = X 46 := by rw [yo 46 (by omega)]; rfl
  have n8 : M2 8 = M 8 := by rw [m1 8 (by decide)]; rfl
  refine ⟨nI B, Y, M2, rfl, rfl, sim_act hS (fun k hk => ?_) (fun k h1 h2 _ => ?_) (fun i hi => ?_) ⟨lim', q', w', H', G', ev', hVV, hcY⟩ ⟨B, f, by omega, hf, y433, n016, ?_, fun j hj2 => ?_⟩⟩
  · rw [yo k (by omega)]; exact zU_o _ _ _ (by omega)
  · rw [m1 k h2]; exact zU_o _ _ _ h1
  · rw [m1 0 (by decide), zU_s, up_o _ _ hi]
  · rw [yo 43 (by omega)]; exact h4
  · obtain ⟨q1, q2, q3⟩ := hj j (by omega)
    have e1 : eS (sT M (B + 1) j) (sT M2 B j) := by
      intro i hi
      unfold sT
      rw [if_pos (by omega), if_pos hj2, n8]
    have e2 : eS (sT M (B + 1) (j + 1)) (sT M2 B (j + 1)) := by
      by_cases c : j + 1 = B
      · rw [c]
        have : sT M2 B B = M2 6 := by unfold sT; rw [if_neg (by omega)]
        rw [this]
        exact es
      · intro i hi
        unfold sT
        rw [if_pos (by omega), if_pos (by omega), n8]
    rw [y44, y45, y46]
    exact ⟨cVx_e e1 q1, by rw [← e1 0 (by decide)]; exact q2, lk_e e1 e2 q3⟩
