/-! the fewest, both ways -/
theorem not_v : ∀ a, a < 256 → nI a ^^^ (-1) = nI (2 ^ 32 - (a + 1)) := by decide +kernel
theorem sub_v {s a : Nat} (hs : s < 256) (ha : a < 256) : (nI s &&& (nI a ^^^ (-1)) = 0) = (∀ i, s.testBit i = true → a.testBit i = true) := by
  rw [not_v a ha, nI_and]
  have h1 : s &&& (2 ^ 32 - (a + 1)) < 256 := Nat.lt_of_le_of_lt Nat.and_le_left hs
  have h2 : ∀ i, (s &&& (2 ^ 32 - (a + 1))).testBit i = (s.testBit i && (decide (i < 32) && !a.testBit i)) := fun i => by
    rw [Nat.testBit_and, Nat.testBit_two_pow_sub_succ (by omega)]
  apply propext
  constructor
  · intro z i hi
    have e : s &&& (2 ^ 32 - (a + 1)) = 0 := nI_inj (b := 0) (by omega) (by omega) z
    have k := h2 i
    rw [e, Nat.zero_testBit, hi] at k
    by_cases c : i < 32
    · cases ca : a.testBit i with
      | true => rfl
      | false => rw [ca, decide_eq_true c] at k; exact absurd k (by decide)
    · have := Nat.testBit_lt_two_pow (x := s) (i := i) (Nat.lt_of_lt_of_le hs (Nat.pow_le_pow_right (by decide) (show 8 ≤ i by omega) : 2 ^ 8 ≤ 2 ^ i))
      rw [this] at hi; exact absurd hi (by decide)
  · intro z
    have : s &&& (2 ^ 32 - (a + 1)) = 0 := bits_0 fun i => by
      rw [h2 i]
      cases c : s.testBit i with
      | false => rfl
      | true => rw [z i c]; simp
    rw [this]; rfl
theorem sub_le {p a : Nat} (h : ∀ i, p.testBit i = true → a.testBit i = true) : p ≤ a := by
  have : p ||| a = a := bits_eq fun i => by
    rw [or_tb]
    exact ⟨fun z => z.elim (h i) id, Or.inr⟩
  rw [← this]; exact Nat.left_le_or
theorem pcn_s (a i : Nat) : pcn a (i + 1) = pcn a i + (if a.testBit i then 1 else 0) := rfl
theorem pc_mono {p a : Nat} (hp : p < 256) (ha : a < 256) (h : ∀ i, p.testBit i = true → a.testBit i = true) : pc p ≤ pc a := by
  rw [← pcn8 p hp, ← pcn8 a ha]
  have : ∀ k, pcn p k ≤ pcn a k := by
    intro k
    induction k with
    | zero => exact Nat.le_refl _
    | succ k ih =>
      rw [pcn_s, pcn_s]
      cases c : p.testBit k with
      | false => simp only [Bool.false_eq_true, if_false]; omega
      | true => rw [h k c]; simp only [if_true]; omega
  exact this 8
theorem fewM_v {N : Nat} (hN : 40000 ≤ N) {X : KX} {S : Nat → Int32} {H t0 a q m : Nat} (h1 : X 6 1 = nI q) (hq : q < 8) (ha : a < 256) (hm : m < 2 ^ 31) (hb : ∀ p, p < 256 → ∃ b, b < 256 ∧ X 12 p = nI b ∧ ∀ u, u < 8 → (b.testBit u = true ↔ Th (ld S) H t0 p u)) : ∃ r, f_X7_fewest N X (nI a) (nI m) = some r ∧ fwr (sF (ld S) H t0 a q) m r := by
  unfold f_X7_fewest
  have key : ∀ k s, s + k = a + 1 → ∀ t, k < t → ∀ v : Int32, ((v = -1000000 ∧ ∀ p, p < s → (∀ i, p.testBit i = true → a.testBit i = true) → pc p ≤ m → ¬ Th (ld S) H t0 p q) ∨ ∃ p, p < s ∧ (∀ i, p.testBit i = true → a.testBit i = true) ∧ pc p ≤ m ∧ Th (ld S) H t0 p q ∧ v = nI (pc p) ∧ ∀ p', p' < s → (∀ i, p'.testBit i = true → a.testBit i = true) → pc p' ≤ m → Th (ld S) H t0 p' q → pc p ≤ pc p') → ∃ r, f_X7_fewest_6 N X t (nI a) (nI m) v (nI s) = some r ∧ fwr (sF (ld S) H t0 a q) m r := by
    intro k
    induction k with
    | zero =>
      intro s hp t ht v hv
      obtain ⟨t, rfl⟩ : ∃ u, t = u + 1 := ⟨t - 1, by omega⟩
      unfold f_X7_fewest_6
      rw [if_pos (by rw [nI_ltI (by omega) (by omega)]; omega)]
      refine ⟨v, rfl, ?_⟩
      rcases hv with ⟨e, z⟩ | ⟨p, z1, z2, z3, z4, z5, z6⟩
      · refine Or.inl ⟨e, fun n hn ⟨p, y1, y2, y3⟩ => ?_⟩
        exact z p (by have := sub_le y1; omega) y1 (by omega) y3
      · refine Or.inr ⟨pc p, z3, z5, ⟨p, z2, rfl, z4⟩, fun n hn ⟨p', y1, y2, y3⟩ => ?_⟩
        have := z6 p' (by have := sub_le y1; omega) y1 (by omega) y3
        omega
    | succ k ih =>
      intro s hp t ht v hv
      obtain ⟨t, rfl⟩ : ∃ u, t = u + 1 := ⟨t - 1, by omega⟩
      have hs : s < 256 := by omega
      obtain ⟨b, b1, b2, b3⟩ := hb s hs
      unfold f_X7_fewest_6
      rw [if_neg (by rw [nI_ltI (by omega) (by omega)]; omega), ones_v hN hs]
      simp only [zB1_s, z71_0, z71_1, z71_2, z71_3, z71_4, z71_5, z71_6, z71_7, z71_8, cl_0, cl_1, cl_2, cl_3, cl_4, cl_5, cl_6, cl_7, cl_8, h1]
      rw [zGd_n _ hs (by decide), nI_cl s (by omega), b2, hasM_tb b b1 q hq]
      unfold f_X7_fewest_53 f_X7_fewest_54 f_X7_fewest_84 f_X7_fewest_76 f_X7_fewest_85
      rw [ones_v hN hs]
      simp only [if_true, zB1_s, zLet, nIp, z10, if_false]
      have hpc := pc_le s hs
      -- it does not count
      have skip : (¬ ((∀ i, s.testBit i = true → a.testBit i = true) ∧ pc s ≤ m ∧ Th (ld S) H t0 s q)) → ∃ r, f_X7_fewest_6 N X t (nI a) (nI m) v (nI (s + 1)) = some r ∧ fwr (sF (ld S) H t0 a q) m r := by
        intro hn
        refine ih (s + 1) (by omega) t (by omega) v ?_
        rcases hv with ⟨e, z⟩ | ⟨p, z1, z2, z3, z4, z5, z6⟩
        · refine Or.inl ⟨e, fun p hp y1 y2 y3 => ?_⟩
          rcases Nat.lt_or_eq_of_le (Nat.le_of_lt_succ hp) with y | y
          · exact z p y y1 y2 y3
          · rw [y] at y1 y2 y3; exact hn ⟨y1, y2, y3⟩
        · refine Or.inr ⟨p, by omega, z2, z3, z4, z5, fun p' hp' y1 y2 y3 => ?_⟩
          rcases Nat.lt_or_eq_of_le (Nat.le_of_lt_succ hp') with y | y
          · exact z6 p' y y1 y2 y3
          · rw [y] at y1 y2 y3; exact absurd ⟨y1, y2, y3⟩ hn
      by_cases c1 : ∀ i, s.testBit i = true → a.testBit i = true
      rotate_left
      · rw [if_neg (fun z => c1 ((sub_v hs ha).mp z))]
        exact skip (fun z => c1 z.1)
      rw [if_pos ((sub_v hs ha).mpr c1)]
      by_cases c2 : m < pc s
      · rw [if_pos (by rw [nI_ltI (by omega) (by omega)]; exact c2)]
        exact skip (fun z => by omega)
      rw [if_neg (by rw [nI_ltI (by omega) (by omega)]; exact c2)]
      cases c3 : b.testBit q with
      | false =>
        simp only [Bool.false_eq_true, if_false, if_true]
        exact skip (fun z => by rw [(b3 q hq).mpr z.2.2] at c3; exact absurd c3 (by decide))
      | true =>
        have c4 := (b3 q hq).mp c3
        simp only [if_true, z10, if_false]
        have take : (v = -1000000 ∨ ∃ p, v = nI (pc p) ∧ pc s < pc p ∧ ∀ p', p' < s → (∀ i, p'.testBit i = true → a.testBit i = true) → pc p' ≤ m → Th (ld S) H t0 p' q → pc p ≤ pc p') → ∃ r, f_X7_fewest_6 N X t (nI a) (nI m) (nI (pc s)) (nI (s + 1)) = some r ∧ fwr (sF (ld S) H t0 a q) m r := by
          intro hw
          refine ih (s + 1) (by omega) t (by omega) _ (Or.inr ⟨s, by omega, c1, by omega, c4, rfl, fun p' hp' y1 y2 y3 => ?_⟩)
          rcases Nat.lt_or_eq_of_le (Nat.le_of_lt_succ hp') with y | y
          · rcases hw with e | ⟨p, z1, z2, z3⟩
            · rcases hv with ⟨_, z⟩ | ⟨p, z1, z2, z3, z4, z5, z6⟩
              · exact absurd y3 (z p' y y1 y2)
              · rw [e] at z5
                have : p < 256 := by omega
                have := pc_le p this
                have := congrArg Int32.toInt z5
                rw [nI_toInt (by omega)] at this
                simp at this
            · have := z3 p' y y1 y2 y3; omega
          · rw [y]; exact Nat.le_refl _
        by_cases c5 : v = -1000000
        · rw [if_pos c5]
          exact take (Or.inl c5)
        · rw [if_neg c5]
          rcases hv with ⟨e, z⟩ | ⟨p, z1, z2, z3, z4, z5, z6⟩
          · exact absurd e c5
          · have hp8 := pc_le p (by omega)
            by_cases c6 : pc p ≤ pc s
            · rw [if_pos (by rw [z5, le_n (by omega) (by omega)]; exact c6)]
              refine ih (s + 1) (by omega) t (by omega) v (Or.inr ⟨p, by omega, z2, z3, z4, z5, fun p' hp' y1 y2 y3 => ?_⟩)
              rcases Nat.lt_or_eq_of_le (Nat.le_of_lt_succ hp') with y | y
              · exact z6 p' y y1 y2 y3
              · rw [y]; exact c6
            · rw [if_neg (by rw [z5, le_n (by omega) (by omega)]; exact c6)]
              exact take (Or.inr ⟨p, z5, by omega, z6⟩)
  exact key (a + 1) 0 (by omega) N (by omega) _ (Or.inl ⟨rfl, fun p hp => by omega⟩)
theorem few_eq {S : Nat → Int32} {H t0 a q m : Nat} {r s : Int32} (hH : H ≤ 8) (h1 : fwr (lE (ld S) H t0 a q) m r) (h2 : fwr (sF (ld S) H t0 a q) m s) : r = s :=
  fwr_eq h1 h2 (fun _ h => lE_sF hH (ld_P S H) h) (fun k h => ⟨k, Nat.le_refl _, sF_lE hH h⟩)
theorem sub_n {a b : Nat} (h : b ≤ a) : nI a - nI b = nI (a - b) := by
  have : nI a = nI (a - b) + nI b := by rw [nI_add]; congr 1; omega
  rw [this, Int32.add_sub_cancel]
theorem ahd : ∀ H, H < 9 → ∀ ev, ev < 256 → 2 ^ H ≤ ev ∨ nI (2 ^ H - 1) &&& (nI ev ^^^ (-1)) = nI (2 ^ H - (ev + 1)) := by decide +kernel
theorem ahead_v {N : Nat} (hN : 40000 ≤ N) {X M : KX} {S : Nat → Int32} {lim q w H G ev g : Nat} (h6 : M 6 = S) (hV : cV S lim q w H G ev) (hc : CK X 7 S H G) (hg : g < G) : ∃ a m, a < 2 ^ H ∧ m ≤ lim ∧ f_X2_hintsAhead X (nI g) = nI a ∧ f_X7_ahead M (nI g) = some (nI a) ∧ f_X2_leftAhead X (nI g) = nI m ∧ f_X7_atMost N M (nI g) = some (nI (if m ≤ pc a then m else pc a)) := by
  obtain ⟨⟨s0, hlim⟩, _, _, ⟨s7, hH⟩, ⟨s8, hG⟩, ⟨s4, hev, hpc⟩, _⟩ := hV
  obtain ⟨a3, a1, a2, a14, a16, a18, a17, a4, a5⟩ := hc.1
  have hev8 := lt8_v H hH ev hev
  have hp := p8 hH
  unfold f_X2_hintsAhead f_X2_leftAhead f_X7_ahead f_X7_atMost f_X7_atMost_29 f_X2_allHints f_X7_ahead
  simp only [z71_0, z71_1, z71_2, z71_3, z71_4, z71_5, z71_6, z71_7, z71_8, cl_0, cl_1, cl_2, cl_3, cl_4, cl_5, cl_6, cl_7, cl_8]
  rw [a14, a16, a4, a3, h6, s0, s4, s7, allH H (by omega), allM_v hH (by rw [h6, s7]), bitc_pc ev hev8, ones_v hN hev8]
  simp only [zB1_s]
  have fin : ∀ (a m : Nat), a < 256 → m ≤ 5 → (zB1 (f_X7_ones N (nI a)) fun r_3 => if nI m ≤ r_3 then some (nI m) else some r_3) = some (nI (if m ≤ pc a then m else pc a)) := by
    intro a m ha hm
    have := pc_le a ha
    rw [ones_v hN ha]
    simp only [zB1_s]
    by_cases c : m ≤ pc a
    · rw [if_pos (by rw [le_n (by omega) (by omega)]; exact c), if_pos c]
    · rw [if_neg (by rw [le_n (by omega) (by omega)]; exact c), if_neg c]
  by_cases c : S 3 = nI g
  · rw [(ahd H (by omega) ev hev8).resolve_left (by omega), sub_n hpc]
    refine ⟨2 ^ H - (ev + 1), lim - pc ev, by omega, by omega, ?_, ?_, ?_, ?_⟩
    · rw [if_pos c]
    · rw [if_pos c]
    · rw [if_pos c]
    · rw [if_pos c]
      simp only [if_pos c, zB1_s, zLet]
      exact fin _ _ (by omega) (by omega)
  · refine ⟨2 ^ H - 1, lim, by omega, by omega, ?_, ?_, ?_, ?_⟩
    · rw [if_neg c]
    · rw [if_neg c]
    · rw [if_neg c]
    · rw [if_neg c]
      simp only [if_neg c, zB1_s, zLet, Int32.sub_zero]
      exact fin _ _ (by omega) (by omega)
