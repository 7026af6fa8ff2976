/-! the hints and the guests of the tape, and its end -/
def dL (X M : KX) : Prop := ∃ q w lim : Nat, X 16 1 = nI q ∧ M 7 1 = nI q ∧ X 16 2 = nI w ∧ M 7 2 = nI w ∧ X 16 3 = nI lim ∧ M 7 0 = nI lim ∧ q < 8 ∧ w < 8 ∧ q ≠ w ∧ 1 ≤ lim ∧ lim ≤ 5
def dN (M : KX) (h g : Nat) : Prop := M 7 3 = -1 ∧ M 7 4 = 0 ∧ M 7 5 = 0 ∧ M 7 6 = 0 ∧ M 7 7 = nI h ∧ M 7 8 = nI g ∧ h ≤ 8 ∧ g ≤ 6
def dH (X M : KX) (h : Nat) : Prop := ∀ j, j < h → ∃ kd f t : Nat, 1 ≤ kd ∧ kd ≤ 5 ∧ f < 8 ∧ t < 8 ∧ f ≠ t ∧ X 17 j = nI kd ∧ X 18 j = nI f ∧ X 19 j = nI t ∧ M 7 (9 + 4 * j) = nI kd ∧ M 7 (10 + 4 * j) = nI f ∧ M 7 (11 + 4 * j) = nI t ∧ M 7 (12 + 4 * j) = 0
def dG (X M : KX) (g : Nat) : Prop := ∀ j, j < g → ∃ a c d : Nat, a < 8 ∧ c ≤ 20 ∧ d ≤ 20 ∧ X 21 j = nI a ∧ X 22 j = nI c ∧ X 23 j = nI d ∧ M 7 (41 + 5 * j) = nI a ∧ M 7 (42 + 5 * j) = nI c ∧ M 7 (43 + 5 * j) = nI d ∧ M 7 (44 + 5 * j) = 0 ∧ M 7 (45 + 5 * j) = -1000000
def dI (X M : KX) (h g : Nat) : Prop := dL X M ∧ dN M h g ∧ dH X M h ∧ dG X M g
theorem dI_x {X X' M : KX} {h g : Nat} (hd : dI X M h g) (h1 : X' 16 1 = X 16 1) (h2 : X' 16 2 = X 16 2) (h3 : X' 16 3 = X 16 3) (h17 : X' 17 = X 17) (h18 : X' 18 = X 18) (h19 : X' 19 = X 19) (h21 : X' 21 = X 21) (h22 : X' 22 = X 22) (h23 : X' 23 = X 23) : dI X' M h g := by
  unfold dI dL dH dG at *
  rw [h1, h2, h3, h17, h18, h19, h21, h22, h23]
  exact hd
theorem dI_h {X X' M M' : KX} {h kd f t : Nat} (hd : dI X M h 0) (hh : h < 8) (k1 : 1 ≤ kd) (k5 : kd ≤ 5) (hf : f < 8) (ht : t < 8) (hft : f ≠ t) (x17 : X' 17 = upd (X 17) h (nI kd)) (x18 : X' 18 = upd (X 18) h (nI f)) (x19 : X' 19 = upd (X 19) h (nI t)) (x16 : X' 16 = X 16) (m7 : M' 7 = upd (upd (upd (upd (upd (M 7) (9 + 4 * h) (nI kd)) (10 + 4 * h) (nI f)) (11 + 4 * h) (nI t)) (12 + 4 * h) 0) 7 (nI (h + 1))) : dI X' M' (h + 1) 0 := by
  obtain ⟨⟨q, w, lim, a1, a2, a3, a4, a5, a6, a7, a8, a9, aA, aB⟩, ⟨b1, b2, b3, b4, b5, b6, b7, b8⟩, c, _⟩ := hd
  have o : ∀ i, i < 9 → i ≠ 7 → M' 7 i = M 7 i := fun i i1 i2 => by rw [m7, up_o _ _ i2, up_o _ _ (by omega), up_o _ _ (by omega), up_o _ _ (by omega), up_o _ _ (by omega)]
  refine ⟨⟨q, w, lim, by rw [x16]; exact a1, by rw [o 1 (by decide) (by decide)]; exact a2, by rw [x16]; exact a3, by rw [o 2 (by decide) (by decide)]; exact a4, by rw [x16]; exact a5, by rw [o 0 (by decide) (by decide)]; exact a6, a7, a8, a9, aA, aB⟩, ⟨by rw [o 3 (by decide) (by decide)]; exact b1, by rw [o 4 (by decide) (by decide)]; exact b2, by rw [o 5 (by decide) (by decide)]; exact b3, by rw [o 6 (by decide) (by decide)]; exact b4, by rw [m7, up_s], by rw [o 8 (by decide) (by decide)]; exact b6, by omega, by omega⟩, ?_, fun j hj => by omega⟩
  intro j hj
  by_cases e : j = h
  · subst e
    refine ⟨kd, f, t, k1, k5, hf, ht, hft, by rw [x17, up_s], by rw [x18, up_s], by rw [x19, up_s], ?_, ?_, ?_, ?_⟩
    · rw [m7, up_o _ _ (by omega), up_o _ _ (by omega), up_o _ _ (by omega), up_o _ _ (by omega), up_s]
    · rw [m7, up_o _ _ (by omega), up_o _ _ (by omega), up_o _ _ (by omega), up_s]
    · rw [m7, up_o _ _ (by omega), up_o _ _ (by omega), up_s]
    · rw [m7, up_o _ _ (by omega), up_s]
  · obtain ⟨kd', f', t', z1, z2, z3, z4, z5, z6, z7, z8, z9, zA, zB, zC⟩ := c j (by omega)
    have p : ∀ i, i < 4 → M' 7 (9 + 4 * j + i) = M 7 (9 + 4 * j + i) := fun i hi => by rw [m7, up_o _ _ (by omega), up_o _ _ (by omega), up_o _ _ (by omega), up_o _ _ (by omega), up_o _ _ (by omega)]
    refine ⟨kd', f', t', z1, z2, z3, z4, z5, by rw [x17, up_o _ _ e]; exact z6, by rw [x18, up_o _ _ e]; exact z7, by rw [x19, up_o _ _ e]; exact z8, ?_, ?_, ?_, ?_⟩
    · have := p 0 (by omega); rw [show 9 + 4 * j + 0 = 9 + 4 * j by omega] at this; rw [this]; exact z9
    · have := p 1 (by omega); rw [show 9 + 4 * j + 1 = 10 + 4 * j by omega] at this; rw [this]; exact zA
    · have := p 2 (by omega); rw [show 9 + 4 * j + 2 = 11 + 4 * j by omega] at this; rw [this]; exact zB
    · have := p 3 (by omega); rw [show 9 + 4 * j + 3 = 12 + 4 * j by omega] at this; rw [this]; exact zC
theorem dI_g {X X' M M' : KX} {h g a c d : Nat} (hd : dI X M h g) (hg : g < 6) (ha : a < 8) (hc : c ≤ 20) (hdd : d ≤ 20) (x21 : X' 21 = upd (X 21) g (nI a)) (x22 : X' 22 = upd (X 22) g (nI c)) (x23 : X' 23 = upd (X 23) g (nI d)) (x16 : X' 16 = X 16) (x17 : X' 17 = X 17) (x18 : X' 18 = X 18) (x19 : X' 19 = X 19) (m7 : M' 7 = upd (upd (upd (upd (upd (upd (M 7) (41 + 5 * g) (nI a)) (41 + 5 * g + 1) (nI c)) (41 + 5 * g + 2) (nI d)) (41 + 5 * g + 3) 0) (41 + 5 * g + 4) (-1000000)) 8 (nI (g + 1))) : dI X' M' h (g + 1) := by
  obtain ⟨⟨q, w, lim, a1, a2, a3, a4, a5, a6, a7, a8, a9, aA, aB⟩, ⟨b1, b2, b3, b4, b5, b6, b7, b8⟩, cc, dd⟩ := hd
  have o : ∀ i, i < 41 → i ≠ 8 → M' 7 i = M 7 i := fun i i1 i2 => by rw [m7, up_o _ _ i2, up_o _ _ (by omega), up_o _ _ (by omega), up_o _ _ (by omega), up_o _ _ (by omega), up_o _ _ (by omega)]
  refine ⟨⟨q, w, lim, by rw [x16]; exact a1, by rw [o 1 (by decide) (by decide)]; exact a2, by rw [x16]; exact a3, by rw [o 2 (by decide) (by decide)]; exact a4, by rw [x16]; exact a5, by rw [o 0 (by decide) (by decide)]; exact a6, a7, a8, a9, aA, aB⟩, ⟨by rw [o 3 (by decide) (by decide)]; exact b1, by rw [o 4 (by decide) (by decide)]; exact b2, by rw [o 5 (by decide) (by decide)]; exact b3, by rw [o 6 (by decide) (by decide)]; exact b4, by rw [o 7 (by decide) (by decide)]; exact b5, by rw [m7, up_s], b7, by omega⟩, ?_, ?_⟩
  · intro j hj
    obtain ⟨kd', f', t', z1, z2, z3, z4, z5, z6, z7, z8, z9, zA, zB, zC⟩ := cc j hj
    refine ⟨kd', f', t', z1, z2, z3, z4, z5, by rw [x17]; exact z6, by rw [x18]; exact z7, by rw [x19]; exact z8, by rw [o _ (by omega) (by omega)]; exact z9, by rw [o _ (by omega) (by omega)]; exact zA, by rw [o _ (by omega) (by omega)]; exact zB, by rw [o _ (by omega) (by omega)]; exact zC⟩
  intro j hj
  by_cases e : j = g
  · subst e
    refine ⟨a, c, d, ha, hc, hdd, by rw [x21, up_s], by rw [x22, up_s], by rw [x23, up_s], ?_, ?_, ?_, ?_, ?_⟩
    · rw [m7, up_o _ _ (by omega), up_o _ _ (by omega), up_o _ _ (by omega), up_o _ _ (by omega), up_o _ _ (by omega), up_s]
    · rw [show 42 + 5 * j = 41 + 5 * j + 1 by omega, m7, up_o _ _ (by omega), up_o _ _ (by omega), up_o _ _ (by omega), up_o _ _ (by omega), up_s]
    · rw [show 43 + 5 * j = 41 + 5 * j + 2 by omega, m7, up_o _ _ (by omega), up_o _ _ (by omega), up_o _ _ (by omega), up_s]
    · rw [show 44 + 5 * j = 41 + 5 * j + 3 by omega, m7, up_o _ _ (by omega), up_o _ _ (by omega), up_s]
    · rw [show 45 + 5 * j = 41 + 5 * j + 4 by omega, m7, up_o _ _ (by omega), up_s]
  · obtain ⟨a', c', d', z1, z2, z3, z4, z5, z6, z7, z8, z9, zA, zB⟩ := dd j (by omega)
    have p : ∀ i, i < 5 → M' 7 (41 + 5 * j + i) = M 7 (41 + 5 * j + i) := fun i hi => by rw [m7, up_o _ _ (by omega), up_o _ _ (by omega), up_o _ _ (by omega), up_o _ _ (by omega), up_o _ _ (by omega), up_o _ _ (by omega)]
    refine ⟨a', c', d', z1, z2, z3, by rw [x21, up_o _ _ e]; exact z4, by rw [x22, up_o _ _ e]; exact z5, by rw [x23, up_o _ _ e]; exact z6, ?_, ?_, ?_, ?_, ?_⟩
    · have := p 0 (by omega); rw [show 41 + 5 * j + 0 = 41 + 5 * j by omega] at this; rw [this]; exact z7
    · have := p 1 (by omega); rw [show 41 + 5 * j + 1 = 42 + 5 * j by omega] at this; rw [this]; exact z8
    · have := p 2 (by omega); rw [show 41 + 5 * j + 2 = 43 + 5 * j by omega] at this; rw [this]; exact z9
    · have := p 3 (by omega); rw [show 41 + 5 * j + 3 = 44 + 5 * j by omega] at this; rw [this]; exact zA
    · have := p 4 (by omega); rw [show 41 + 5 * j + 4 = 45 + 5 * j by omega] at this; rw [this]; exact zB
/-- a letter, as both sides look at it -/
theorem let_c {X M : KX} {k p c : Nat} {b : Nat → Nat} (hw : wl X M k b p) (hc : 97 ≤ c ∧ c ≤ 122) : (p < k ∧ b p = c ∧ f_X5_letter X = some (nI c) ∧ M 0 11 = 1 ∧ M 0 12 = nI c) ∨ (¬ (p < k ∧ b p = c) ∧ ∃ r, f_X5_letter X = some r ∧ r ≠ nI c ∧ (M 0 11 = 1 → M 0 12 ≠ nI c)) := by
  have hp := wl_p hw
  have hl := lett_v hw.1 hw.2.1 (by omega)
  have tl := tok_l hw.2.2.2
  by_cases d : p < k
  · rw [if_pos d] at hl
    have hb := (hw.1.2.2.2 p d).1
    by_cases e : b p = c
    · left
      rw [e] at hl
      have tc := tk_char hw.2.2.2 d (fun z => by unfold dg at z; omega)
      exact ⟨d, e, hl, tl.mpr ⟨d, by omega, by omega⟩, by rw [tc.1, e]⟩
    · right
      refine ⟨fun z => e z.2, _, hl, fun z => e (nI_inj (by omega) (by omega) z), fun z => ?_⟩
      obtain ⟨_, y1, y2⟩ := tl.mp z
      have tc := tk_char hw.2.2.2 d (fun z => by unfold dg at z; omega)
      rw [tc.1]
      exact fun z => e (nI_inj (by omega) (by omega) z)
  · right
    rw [if_neg d] at hl
    exact ⟨fun z => d z.1, _, hl, fun z => m1_ne c (by omega) z.symm, fun z => absurd (tl.mp z).1 d⟩
theorem let_k {X M : KX} {k p : Nat} {b : Nat → Nat} (hw : wl X M k b p) : (p < k ∧ kdN (b p) ≠ 0 ∧ f_X5_letter X = some (nI (b p)) ∧ f_X5_sortOf (nI (b p)) ≠ 0 ∧ M 0 11 = 1 ∧ M 0 12 = nI (b p) ∧ ¬ f_X7_kindOf (nI (b p)) ≤ 0) ∨ (∃ r, f_X5_letter X = some r ∧ f_X5_sortOf r = 0 ∧ (M 0 11 = 1 → f_X7_kindOf (M 0 12) ≤ 0)) := by
  have hp := wl_p hw
  have hl := lett_v hw.1 hw.2.1 (by omega)
  have tl := tok_l hw.2.2.2
  by_cases d : p < k
  · rw [if_pos d] at hl
    have hb := (hw.1.2.2.2 p d).1
    have e17 : f_X5_sortOf (nI (b p)) = nI (kdN (b p)) := (sort_kind _ hb).trans (kind_v _ hb)
    have l5 := kdN_le (b p)
    by_cases e : kdN (b p) = 0
    · right
      refine ⟨_, hl, by rw [e17, e]; rfl, fun z => ?_⟩
      obtain ⟨_, y1, y2⟩ := tl.mp z
      have tc := tk_char hw.2.2.2 d (fun z => by unfold dg at z; omega)
      rw [tc.1, kind_v _ hb, e]
      decide
    · left
      have hlt := kdN_l e
      have tc := tk_char hw.2.2.2 d (fun z => by unfold dg at z; omega)
      refine ⟨d, e, hl, ?_, tl.mpr ⟨d, hlt.1, hlt.2⟩, tc.1, ?_⟩
      · rw [e17]; exact fun z => e (nI_inj (b := 0) (by omega) (by omega) z)
      · rw [kind_v _ hb, show (0 : Int32) = nI 0 from rfl, le_n (by omega) (by omega)]; omega
  · right
    rw [if_neg d] at hl
    exact ⟨_, hl, by decide, fun z => absurd (tl.mp z).1 d⟩
theorem tok_0 {M : KX} {k p : Nat} {b : Nat → Nat} (h : tkS M k b p) : M 0 11 = 0 ↔ k ≤ p := by
  obtain ⟨_, _, h⟩ := h
  rcases h with ⟨h1, h2, _, _⟩ | ⟨h1, h2, _, _, h3⟩ | ⟨h1, e, h2, _, h3, _⟩
  · exact ⟨fun _ => h1, fun _ => h2⟩
  · refine ⟨fun z => ?_, fun z => by omega⟩
    rw [h3] at z
    exfalso
    revert z
    split
    · decide
    · split
      · decide
      · split <;> decide
  · refine ⟨fun z => ?_, fun z => by omega⟩
    rw [h3] at z
    exfalso
    revert z
    split <;> decide
