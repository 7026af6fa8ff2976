def wl (X M : KX) (k : Nat) (b : Nat → Nat) (p : Nat) : Prop := tpB X M k b ∧ X 5 2 = nI p ∧ M 0 8 = -1 ∧ tkS M k b p
def flt (X M : KX) (p : Nat) (kd : Int32) : Prop := X 5 2 = nI p ∧ X 5 3 = kd ∧ M 0 8 = nI p ∧ M 0 7 = kd
def cF (X' X : KX) : Prop := (∀ c, c ≠ 5 → X' c = X c) ∧ X' 5 1 = X 5 1
def bF (M' M : KX) : Prop := (∀ c, c ≠ 0 → M' c = M c) ∧ (∀ i, (i < 7 ∨ 12 < i) → M' 0 i = M 0 i) ∧ (M' 0 8 = -1 → M 0 8 = -1 ∧ M' 0 7 = M 0 7)
theorem bF_a {M' M : KX} (h : aF M' M) : bF M' M := ⟨h.1, fun i hi => h.2 i (by omega) (by omega) (by omega) (by omega), fun z => ⟨(h.2 8 (by decide) (by decide) (by decide) (by decide)).symm.trans z, h.2 7 (by decide) (by decide) (by decide) (by decide)⟩⟩
theorem bF_t {A B C : KX} (h1 : bF A B) (h2 : bF B C) : bF A C := ⟨fun c hc => (h1.1 c hc).trans (h2.1 c hc), fun i hi => (h1.2.1 i hi).trans (h2.2.1 i hi), fun z => ⟨(h2.2.2 (h1.2.2 z).1).1, (h1.2.2 z).2.trans (h2.2.2 (h1.2.2 z).1).2⟩⟩
theorem cF_t {A B C : KX} (h1 : cF A B) (h2 : cF B C) : cF A C := ⟨fun c hc => (h1.1 c hc).trans (h2.1 c hc), h1.2.trans h2.2⟩
theorem tpB_f {X X' M M' : KX} {k : Nat} {b : Nat → Nat} (h : tpB X M k b) (hx : cF X' X) (hm : bF M' M) : tpB X' M' k b := by
  obtain ⟨h1, h2, h3, h4⟩ := h
  refine ⟨by rw [hx.2]; exact h1, by rw [hm.2.1 6 (by omega)]; exact h2, h3, fun i hi => by rw [hx.1 6 (by decide), hm.1 5 (by decide)]; exact h4 i hi⟩
theorem tok_c {M : KX} {k p c : Nat} {b : Nat → Nat} {v : Int32} (h : tkS M k b p) (hc : (c = 44 ∧ v = 3) ∨ (c = 59 ∧ v = 4)) : M 0 11 = v ↔ p < k ∧ b p = c := by
  obtain ⟨_, _, h⟩ := h
  rcases h with ⟨h1, h2, _, _⟩ | ⟨h1, h2, _, _, h3⟩ | ⟨h1, e, h2, _, h3, _⟩
  · rw [h2]
    rcases hc with ⟨rfl, rfl⟩ | ⟨rfl, rfl⟩
    · exact ⟨fun z => absurd z (by decide), fun z => by omega⟩
    · exact ⟨fun z => absurd z (by decide), fun z => by omega⟩
  · rw [h3]
    by_cases d1 : 97 ≤ b p ∧ b p ≤ 122
    · rw [if_pos d1]
      rcases hc with ⟨rfl, rfl⟩ | ⟨rfl, rfl⟩
      · exact ⟨fun z => absurd z (by decide), fun z => by omega⟩
      · exact ⟨fun z => absurd z (by decide), fun z => by omega⟩
    · rw [if_neg d1]
      by_cases d2 : b p = 44
      · rw [if_pos d2]
        rcases hc with ⟨rfl, rfl⟩ | ⟨rfl, rfl⟩
        · exact ⟨fun _ => ⟨h1, d2⟩, fun _ => rfl⟩
        · exact ⟨fun z => absurd z (by decide), fun z => by omega⟩
      · rw [if_neg d2]
        by_cases d3 : b p = 59
        · rw [if_pos d3]
          rcases hc with ⟨rfl, rfl⟩ | ⟨rfl, rfl⟩
          · exact ⟨fun z => absurd z (by decide), fun z => by omega⟩
          · exact ⟨fun _ => ⟨h1, d3⟩, fun _ => rfl⟩
        · rw [if_neg d3]
          rcases hc with ⟨rfl, rfl⟩ | ⟨rfl, rfl⟩
          · exact ⟨fun z => absurd z (by decide), fun z => by omega⟩
          · exact ⟨fun z => absurd z (by decide), fun z => by omega⟩
  · rw [h3]
    have hd : dg (b p) := h2.2.2.1 p (Nat.le_refl _) h2.1
    unfold dg at hd
    by_cases d : e < p + 3
    · rw [if_pos d]
      rcases hc with ⟨rfl, rfl⟩ | ⟨rfl, rfl⟩
      · exact ⟨fun z => absurd z (by decide), fun z => by omega⟩
      · exact ⟨fun z => absurd z (by decide), fun z => by omega⟩
    · rw [if_neg d]
      rcases hc with ⟨rfl, rfl⟩ | ⟨rfl, rfl⟩
      · exact ⟨fun z => absurd z (by decide), fun z => by omega⟩
      · exact ⟨fun z => absurd z (by decide), fun z => by omega⟩
theorem tok_l {M : KX} {k p : Nat} {b : Nat → Nat} (h : tkS M k b p) : M 0 11 = 1 ↔ p < k ∧ 97 ≤ b p ∧ b p ≤ 122 := by
  obtain ⟨_, _, h⟩ := h
  rcases h with ⟨h1, h2, _, _⟩ | ⟨h1, h2, _, _, h3⟩ | ⟨h1, e, h2, _, h3, _⟩
  · rw [h2]
    exact ⟨fun z => absurd z (by decide), fun z => by omega⟩
  · rw [h3]
    by_cases d1 : 97 ≤ b p ∧ b p ≤ 122
    · rw [if_pos d1]; exact ⟨fun _ => ⟨h1, d1⟩, fun _ => rfl⟩
    · rw [if_neg d1]
      by_cases d2 : b p = 44
      · rw [if_pos d2]; exact ⟨fun z => absurd z (by decide), fun z => by omega⟩
      · rw [if_neg d2]
        by_cases d3 : b p = 59
        · rw [if_pos d3]; exact ⟨fun z => absurd z (by decide), fun z => by omega⟩
        · rw [if_neg d3]; exact ⟨fun z => absurd z (by decide), fun z => by omega⟩
  · rw [h3]
    have hd : dg (b p) := h2.2.2.1 p (Nat.le_refl _) h2.1
    unfold dg at hd
    by_cases d : e < p + 3
    · rw [if_pos d]; exact ⟨fun z => absurd z (by decide), fun z => by omega⟩
    · rw [if_neg d]; exact ⟨fun z => absurd z (by decide), fun z => by omega⟩
theorem tk_char {M : KX} {k p : Nat} {b : Nat → Nat} (h : tkS M k b p) (hp : p < k) (hd : ¬ dg (b p)) : M 0 12 = nI (b p) ∧ M 0 9 = nI (p + 1) := by
  obtain ⟨_, _, h⟩ := h
  rcases h with ⟨h1, _⟩ | ⟨_, _, h3, h4, _⟩ | ⟨_, e, h2, _⟩
  · omega
  · exact ⟨h3, h4⟩
  · exact absurd (h2.2.2.1 p (Nat.le_refl _) h2.1) hd
theorem well_t {M : KX} (h : M 0 8 = -1) : f_X7_isWell M = 1 := by unfold f_X7_isWell; rw [h]; decide
theorem takes_no {N : Nat} {X M : KX} {k p : Nat} {b : Nat → Nat} {kd : Int32} (h : wl X M k b p) : ∃ M' : KX, f_X7_takes N M 0 kd = some (0, M') ∧ bF M' M ∧ M' 0 8 = nI p ∧ M' 0 7 = kd := by
  unfold f_X7_takes
  rw [well_t h.2.2.1, if_neg (by decide), if_pos rfl]
  simp only [zLet]
  have e8 : (zU (zU M 0 8 (M 0 10)) 0 7 kd) 0 8 = nI p := by
    rw [zU_s, up_o _ _ (by decide), zU_s, up_s]
    exact h.2.2.2.1
  have hp := h.2.2.2.2.1
  have hk := h.1.2.2.1
  exact ⟨_, rfl, ⟨fun c hc => by rw [zU_o _ _ _ hc, zU_o _ _ _ hc], fun i hi => by rw [zU_s, up_o _ _ (by omega), zU_s, up_o _ _ (by omega)], fun z => absurd (e8.symm.trans z) (m1_ne p (by omega))⟩, e8, by rw [zU_s, up_s]⟩
theorem takes_yes {N : Nat} (hN : 40000 ≤ N) {X M : KX} {k p e : Nat} {b : Nat → Nat} {kd : Int32} (h : wl X M k b p) (h9 : M 0 9 = nI e) (he : e ≤ k) : ∃ M' : KX, f_X7_takes N M 1 kd = some (M 0 12, M') ∧ bF M' M ∧ M' 0 8 = -1 ∧ tkS M' k b e := by
  obtain ⟨M', a1, a2, a3⟩ := adv_v hN h.1 he h9
  unfold f_X7_takes
  rw [well_t h.2.2.1, if_neg (by decide), if_neg (by decide), a1]
  exact ⟨M', rfl, bF_a a2, by rw [a2.2 8 (by decide) (by decide) (by decide) (by decide)]; exact h.2.2.1, a3⟩
/-- a sign, on both sides -/
theorem sign_v {N : Nat} (hN : 40000 ≤ N) {X M : KX} {k p c : Nat} {b : Nat → Nat} {s0 : Int32} (h : wl X M k b p) (hc : c < 256) (hcd : ¬ dg c) (hs : (s0 = 1 ∧ p < k ∧ b p = c) ∨ (s0 = 0 ∧ ¬ (p < k ∧ b p = c))) : ∃ (X' M' : KX) (r : Int32), f_X7_takes N M s0 1 = some (r, M') ∧ cF X' X ∧ bF M' M ∧ ((f_X5_tellsSign X (nI c) = some (1, X') ∧ wl X' M' k b (p + 1)) ∨ (f_X5_tellsSign X (nI c) = some (0, X') ∧ flt X' M' p 1)) := by
  have hp := h.2.2.2.2.1
  have hk := h.1.2.2.1
  unfold f_X5_tellsSign
  rw [lett_v h.1 h.2.1 (by omega)]
  simp only [zB1_s]
  rcases hs with ⟨rfl, h1, h2⟩ | ⟨rfl, h1⟩
  · have tc := tk_char h.2.2.2 h1 (by rw [h2]; exact hcd)
    obtain ⟨M', a1, a2, a3, a4⟩ := takes_yes hN (kd := 1) h tc.2 (by omega)
    have cf : cF (zU X 5 2 (X 5 2 + 1)) X := ⟨fun c hc => zU_o _ _ _ hc, by rw [zU_s, up_o _ _ (by decide)]⟩
    refine ⟨_, M', _, a1, cf, a2, Or.inl ⟨?_, tpB_f h.1 cf a2, by rw [zU_s, up_s, h.2.1, nIp], a3, a4⟩⟩
    rw [if_pos h1, h2, if_pos rfl]
    rfl
  · obtain ⟨M', a1, a2, a3, a4⟩ := takes_no (N := N) (kd := 1) h
    have cf : cF (zU X 5 3 1) X := ⟨fun c hc => zU_o _ _ _ hc, by rw [zU_s, up_o _ _ (by decide)]⟩
    refine ⟨zU X 5 3 1, M', _, a1, cf, a2, Or.inr ⟨?_, by rw [zU_s, up_o _ _ (by decide)]; exact h.2.1, by rw [zU_s, up_s], a3, a4⟩⟩
    rw [if_neg (fun z => by
      by_cases d : p < k
      · rw [if_pos d] at z
        have hb := (h.1.2.2.2 p d).1
        exact h1 ⟨d, nI_inj (by omega) (by omega) z⟩
      · rw [if_neg d] at z
        exact m1_ne c (by omega) z.symm)]
    rfl
