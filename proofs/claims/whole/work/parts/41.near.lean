/-! the class's measure -/
theorem ldM_P (k f t2 a a' : Nat) (b : Bool) : ¬ ldM k f t2 a b = a → ¬ ldM k f t2 a' b = a' → ldM k f t2 a' b = a ∨ ldM k f t2 a' b = ldM k f t2 a b := by
  unfold ldM
  by_cases c : 4 ≤ k
  · simp only [c, if_true]
    (repeat' split) <;> omega
  · simp only [c, if_false]
    (repeat' split) <;> omega
theorem ld_P (S : Nat → Int32) (H : Nat) : pP (ld S) (fun h => h < H) := fun _ _ _ _ h1 h2 => ldM_P _ _ _ _ _ _ h1 h2
theorem fb_dis (k f t2 t : Nat) (b : Bool) : f = t2 ∨ (fmM k f b).testBit t = false ∨ (bmM k t2).testBit t = false := by
  by_cases h4 : k = 4
  · subst h4; right; left; exact Nat.zero_testBit t
  · by_cases h5 : k = 5
    · subst h5
      by_cases e : f = t2
      · exact Or.inl e
      · by_cases e1 : f = t
        · right; right
          show (2 ^ t2).testBit t = false
          rw [Nat.testBit_two_pow, decide_eq_false_iff_not]; omega
        · right; left
          show (2 ^ f).testBit t = false
          rw [Nat.testBit_two_pow, decide_eq_false_iff_not]; omega
    · right; right
      unfold bmM
      rw [if_neg (by omega), Nat.zero_testBit]
theorem into_s {k f t2 t d : Nat} {b : Bool} (h1 : 1 ≤ k) (hk : k < 6) (hf : f < 8) (h2 : t2 < 8) (ht : t < 8) (hne : f ≠ t2) : (d.testBit t = true ∨ ((d.testBit t2 = true ∧ (fmM k f b).testBit t = true) ∨ (d.testBit f = true ∧ (bmM k t2).testBit t = true))) ↔ (d.testBit t = true ∨ d.testBit (ldM k f t2 t b) = true) := by
  rw [← ldM_masks k hk f hf t2 h2 t ht b h1 hne]
  rcases fb_dis k f t2 t b with e | e | e
  · exact absurd e hne
  · rw [e]
    cases (bmM k t2).testBit t <;> simp
  · rw [e]
    cases (fmM k f b).testBit t <;> simp
theorem or_lt8 {a b : Nat} (h1 : a < 256) (h2 : b < 256) : a ||| b < 256 := Nat.or_lt_two_pow (n := 8) h1 h2
theorem or_tb (a b i : Nat) : (a ||| b).testBit i = true ↔ a.testBit i = true ∨ b.testBit i = true := by
  rw [Nat.testBit_or, Bool.or_eq_true]
theorem into_v {N : Nat} (hN : 40000 ≤ N) {X : KX} {S : Nat → Int32} {H G a d : Nat} (hc : CK X 7 S H G) (hH : H ≤ 8) (hv : ∀ h, h < H → hV S h) (x4 : X 7 4 = nI H) (xa : X 47 1 = nI a) (ha : a < 256) (hd : d < 256) : ∃ d', d' < 256 ∧ f_X3_leadingInto N X (nI d) = some (nI d') ∧ ∀ t, t < 8 → (d'.testBit t = true ↔ d.testBit t = true ∨ ∃ h, h < H ∧ a.testBit h = true ∧ d.testBit (ld S h t) = true) := by
  unfold f_X3_leadingInto
  have key : ∀ k p, p + k = H → ∀ t, k < t → ∀ acc, acc < 256 → (∀ t, t < 8 → (acc.testBit t = true ↔ d.testBit t = true ∨ ∃ h, h < p ∧ a.testBit h = true ∧ d.testBit (ld S h t) = true)) → ∃ d', d' < 256 ∧ f_X3_leadingInto_5 N X t (nI d) (nI acc) (nI p) = some (nI d') ∧ ∀ t, t < 8 → (d'.testBit t = true ↔ d.testBit t = true ∨ ∃ h, h < H ∧ a.testBit h = true ∧ d.testBit (ld S h t) = true) := by
    intro k
    induction k with
    | zero =>
      intro p hp t ht acc h1 h2
      obtain ⟨u, rfl⟩ : ∃ u, t = u + 1 := ⟨t - 1, by omega⟩
      have e : p = H := by omega
      subst e
      unfold f_X3_leadingInto_5
      rw [x4, if_pos (by rw [le_n (by omega) (by omega)]; omega)]
      exact ⟨acc, h1, rfl, h2⟩
    | succ k ih =>
      intro p hp t ht acc h1 h2
      obtain ⟨u, rfl⟩ : ∃ u, t = u + 1 := ⟨t - 1, by omega⟩
      have hpH : p < H := by omega
      have hp8 : p < 8 := by omega
      unfold f_X3_leadingInto_5 f_X3_leadingInto_87
      rw [x4, if_neg (by rw [le_n (by omega) (by omega)]; omega), xa, has_tb a ha p hp8]
      cases ca : a.testBit p with
      | false =>
        simp only [Bool.false_eq_true, if_false, if_true, zLet, nIp]
        refine ih (p + 1) (by omega) u (by omega) acc h1 (fun t ht => ?_)
        rw [h2 t ht]
        constructor
        · rintro (z | ⟨h, z1, z2⟩)
          · exact Or.inl z
          · exact Or.inr ⟨h, by omega, z2⟩
        · rintro (z | ⟨h, z1, z2, z3⟩)
          · exact Or.inl z
          · refine Or.inr ⟨h, ?_, z2, z3⟩
            rcases Nat.lt_or_eq_of_le (Nat.le_of_lt_succ z1) with z | z
            · exact z
            · rw [z, ca] at z2; exact absurd z2 (by decide)
      | true =>
        obtain ⟨k', f, t2, e1, k1, k2, e2, hf, e3, ht2, hne⟩ := hv p hpH
        obtain ⟨y1, y2, y3, y4⟩ := hc.2.1 p hpH
        have y9 : X 9 p = nI f := y2.trans e2
        have y10 : X 10 p = nI t2 := y3.trans e3
        have y11 : X 11 p = S (12 + 4 * p) := y4
        have G8 : ∀ (α : Type) (e : Option α), zGd (nI p) 8 e = e := fun _ e => zGd_n e hp8 (by decide)
        have cp : (nI p).toNatClampNeg = p := nI_cl p (by omega)
        have hb := hv p hpH
        simp only [z10, if_false, if_true, G8, cp, y9, y10, y11, has_tb d hd t2 ht2, has_tb d hd f hf, forth_v hc hpH hH hb, back_v hc hpH hH hb, zB1_s, zLet]
        unfold f_X3_leadingInto_58 f_X3_leadingInto_85 f_X3_leadingInto_87
        simp only [z10, if_false, if_true, G8, cp, y9, has_tb d hd f hf, back_v hc hpH hH hb, zB1_s, zLet]
        rw [Nn_v e1 (by omega), Nn_v e2 (by omega), Nn_v e3 (by omega)]
        have go : ∀ x y, x < 256 → y < 256 → (∀ t, t < 8 → (x.testBit t = true ↔ d.testBit t2 = true ∧ (fmM k' f (decide (S (12 + 4 * p) < 2))).testBit t = true)) → (∀ t, t < 8 → (y.testBit t = true ↔ d.testBit f = true ∧ (bmM k' t2).testBit t = true)) → ∃ d', d' < 256 ∧ f_X3_leadingInto_5 N X u (nI d) (nI acc ||| nI x ||| nI y) (nI p + 1) = some (nI d') ∧ ∀ t, t < 8 → (d'.testBit t = true ↔ d.testBit t = true ∨ ∃ h, h < H ∧ a.testBit h = true ∧ d.testBit (ld S h t) = true) := by
          intro x y hx hy bx byy
          rw [nI_or, nI_or, nIp]
          refine ih (p + 1) (by omega) u (by omega) _ (or_lt8 (or_lt8 h1 hx) hy) (fun t ht => ?_)
          rw [or_tb, or_tb, h2 t ht, bx t ht, byy t ht]
          have st := into_s (d := d) (b := decide (S (12 + 4 * p) < 2)) k1 (by omega) hf ht2 ht hne
          have el : ld S p t = ldM k' f t2 t (decide (S (12 + 4 * p) < 2)) := by unfold ld ldS; rw [Nn_v e1 (by omega), Nn_v e2 (by omega), Nn_v e3 (by omega)]
          rw [← el] at st
          constructor
          · rintro ((z | z) | z)
            · rcases z with z | ⟨h, z1, z2⟩
              · exact Or.inl z
              · exact Or.inr ⟨h, by omega, z2⟩
            · rcases st.mp (Or.inr (Or.inl z)) with z | z
              · exact Or.inl z
              · exact Or.inr ⟨p, by omega, ca, z⟩
            · rcases st.mp (Or.inr (Or.inr z)) with z | z
              · exact Or.inl z
              · exact Or.inr ⟨p, by omega, ca, z⟩
          · rintro (z | ⟨h, z1, z2, z3⟩)
            · exact Or.inl (Or.inl (Or.inl z))
            · rcases Nat.lt_or_eq_of_le (Nat.le_of_lt_succ z1) with z | z
              · exact Or.inl (Or.inl (Or.inr ⟨h, z, z2, z3⟩))
              · rw [z] at z3
                rcases st.mpr (Or.inr z3) with z | z | z
                · exact Or.inl (Or.inl (Or.inl z))
                · exact Or.inl (Or.inr z)
                · exact Or.inr z
        cases c1 : d.testBit t2 <;> cases c2 : d.testBit f <;> simp only [Bool.false_eq_true, if_false, if_true, z10] <;> rw [c1, c2] at go
        · exact go 0 0 (by decide) (by decide) (fun t _ => by simp) (fun t _ => by simp)
        · exact go 0 _ (by decide) (bmM_lt k' (by omega) t2 ht2) (fun t _ => by simp) (fun t _ => by simp)
        · exact go _ 0 (fmM_lt k' (by omega) f hf _) (by decide) (fun t _ => by simp) (fun t _ => by simp)
        · exact go _ _ (fmM_lt k' (by omega) f hf _) (bmM_lt k' (by omega) t2 ht2) (fun t _ => by simp) (fun t _ => by simp)
  exact key H 0 (by omega) N (by omega) d hd (fun t _ => ⟨Or.inl, fun z => z.elim id (fun ⟨h, z, _⟩ => absurd z (by omega))⟩)
def nrS (X : KX) (S : Nat → Int32) (H a : Nat) (sh : Nat → Prop) (q lim : Nat) : Prop := X 47 1 = nI a ∧ ∀ k, k ≤ lim → ∃ d, d < 256 ∧ X 48 k = nI d ∧ ∀ t, t < 8 → (d.testBit t = true ↔ ∃ l : List Nat, l.length ≤ k ∧ rc (ld S) (fun h => h < H ∧ a.testBit h = true) sh q t l)
theorem rc_succ {g : Nat → Nat → Nat} {A sh : Nat → Prop} {q t k : Nat} : (∃ l : List Nat, l.length ≤ k + 1 ∧ rc g A sh q t l) ↔ (¬ sh t ∧ ((∃ l : List Nat, l.length ≤ k ∧ rc g A sh q t l) ∨ ∃ h, A h ∧ ∃ l : List Nat, l.length ≤ k ∧ rc g A sh q (g h t) l)) := by
  constructor
  · intro ⟨l, h1, h2⟩
    cases l with
    | nil => exact ⟨h2.2, Or.inl ⟨[], Nat.zero_le _, h2⟩⟩
    | cons h l => exact ⟨h2.1, Or.inr ⟨h, h2.2.1, l, by simp at h1; omega, h2.2.2⟩⟩
  · rintro ⟨hs, ⟨l, h1, h2⟩ | ⟨h, hA, l, h1, h2⟩⟩
    · exact ⟨l, by omega, h2⟩
    · exact ⟨h :: l, by simp; omega, hs, hA, h2⟩
theorem rc_sh {g : Nat → Nat → Nat} {A sh : Nat → Prop} {q t : Nat} {l : List Nat} (h : rc g A sh q t l) : ¬ sh t := by
  cases l with
  | nil => exact h.2
  | cons a l => exact h.1
theorem ld_lt {S : Nat → Int32} {h t : Nat} (hv : hV S h) (ht : t < 8) : ld S h t < 8 := ldS_lt hv ht _
theorem meas_v {N : Nat} (hN : 40000 ≤ N) {X : KX} {S : Nat → Int32} {H G a q lim : Nat} {sh : Nat → Prop} (mask : Int32) (hc : CK X 7 S H G) (hH : H ≤ 8) (hv : ∀ h, h < H → hV S h) (x4 : X 7 4 = nI H) (x3 : X 7 3 = nI lim) (hlim : lim ≤ 5) (x1 : X 7 1 = nI q) (hq : q < 8) (ha : a < 256) (hm : ∀ d, d < 256 → ∃ d', d' < 256 ∧ nI d &&& (mask ^^^ (-1)) = nI d' ∧ ∀ t, t < 8 → (d'.testBit t = true ↔ d.testBit t = true ∧ ¬ sh t)) (hsq : ¬ sh q) : ∃ X' : KX, f_X3_measure_14 N X mask (nI a) = some X' ∧ (∀ c, c ≠ 47 → c ≠ 48 → X' c = X c) ∧ nrS X' S H a sh q lim := by
  unfold f_X3_measure_14
  have key : ∀ k p, p + k = lim → ∀ t, k < t → ∀ X1 : KX, (∀ c, c ≠ 47 → c ≠ 48 → X1 c = X c) → nrS X1 S H a sh q p → ∃ X' : KX, f_X3_measure_36 N t X1 mask (nI (p + 1)) = some X' ∧ (∀ c, c ≠ 47 → c ≠ 48 → X' c = X c) ∧ nrS X' S H a sh q lim := by
    intro k
    induction k with
    | zero =>
      intro p hp t ht X1 h1 h2
      obtain ⟨u, rfl⟩ : ∃ u, t = u + 1 := ⟨t - 1, by omega⟩
      have e : p = lim := by omega
      subst e
      unfold f_X3_measure_36
      rw [h1 7 (by decide) (by decide), x3, if_pos (by rw [nI_ltI (by omega) (by omega)]; omega)]
      exact ⟨X1, rfl, h1, h2⟩
    | succ k ih =>
      intro p hp t ht X1 h1 h2
      obtain ⟨u, rfl⟩ : ∃ u, t = u + 1 := ⟨t - 1, by omega⟩
      unfold f_X3_measure_36
      have h6 : ¬ (6 : Int32) ≤ nI (p + 1) := by rw [show (6 : Int32) = nI 6 from rfl, le_n (by omega) (by omega)]; omega
      have ep : nI (p + 1) - 1 = nI p := by rw [← nIp, Int32.add_sub_cancel]
      obtain ⟨b1, b2⟩ := h2
      obtain ⟨d, d1, d2, d3⟩ := b2 p (Nat.le_refl _)
      have hc1 : CK X1 7 S H G := CK_c (h1 7 (by decide) (by decide)) (h1 8 (by decide) (by decide)) (h1 9 (by decide) (by decide)) (h1 10 (by decide) (by decide)) (h1 11 (by decide) (by decide)) (h1 12 (by decide) (by decide)) (h1 13 (by decide) (by decide)) (h1 14 (by decide) (by decide)) (h1 15 (by decide) (by decide)) hc
      obtain ⟨d', e1, e2, e3⟩ := into_v hN hc1 hH hv (by rw [h1 7 (by decide) (by decide), x4]) b1 ha d1
      obtain ⟨d2', g1, g2, g3⟩ := hm d' e1
      rw [h1 7 (by decide) (by decide), x3, if_neg (by rw [nI_ltI (by omega) (by omega)]; omega), if_neg h6, ep, zGd_n _ (show p < 6 by omega) (by decide), nI_cl p (by omega), d2, e2]
      simp only [zB1_s]
      rw [zGd_n _ (show p + 1 < 6 by omega) (by decide), nI_cl (p + 1) (by omega), g2]
      simp only [zLet]
      rw [nIp]
      refine ih (p + 1) (by omega) u (by omega) _ (fun c c1 c2 => by rw [zU_o _ _ _ c2]; exact h1 c c1 c2) ⟨b1, fun j hj => ?_⟩
      by_cases cj : j = p + 1
      · subst cj
        refine ⟨d2', g1, by rw [zU_s, up_s], fun t ht => ?_⟩
        rw [g3 t ht, e3 t ht, rc_succ, d3 t ht]
        constructor
        · rintro ⟨z1, z2⟩
          refine ⟨z2, ?_⟩
          rcases z1 with z1 | ⟨h, z3, z4, z5⟩
          · exact Or.inl z1
          · exact Or.inr ⟨h, ⟨z3, z4⟩, (d3 _ (ld_lt (hv h z3) ht)).mp z5⟩
        · rintro ⟨z1, z2⟩
          refine ⟨?_, z1⟩
          rcases z2 with z2 | ⟨h, ⟨z3, z4⟩, z5⟩
          · exact Or.inl z2
          · exact Or.inr ⟨h, z3, z4, (d3 _ (ld_lt (hv h z3) ht)).mpr z5⟩
      · obtain ⟨d0, f1, f2, f3⟩ := b2 j (by omega)
        exact ⟨d0, f1, by rw [zU_s, up_o _ _ cj]; exact f2, f3⟩
  have x71 : (zU X 47 1 (nI a)) 7 1 = nI q := x1
  simp only [zLet, x71]
  rw [zGd_l _ (by decide), cl0, shl_tb q hq]
  refine key lim 0 (by omega) N (by omega) _ (fun c c1 c2 => by rw [zU_o _ _ _ c2, zU_o _ _ _ c1]) ⟨rfl, fun j hj => ?_⟩
  have : j = 0 := by omega
  subst this
  refine ⟨2 ^ q, Nat.pow_lt_pow_right (n := 8) (by decide) hq, by rw [zU_s, up_s], fun t ht => ?_⟩
  rw [Nat.testBit_two_pow, decide_eq_true_iff]
  constructor
  · intro z; subst z; exact ⟨[], Nat.le_refl _, rfl, hsq⟩
  · intro ⟨l, z1, z2⟩
    have : l = [] := List.length_eq_zero_iff.mp (by omega)
    subst this
    exact z2.1.symm
def fwr (E : Nat → Prop) (m : Nat) (r : Int32) : Prop := (r = -1000000 ∧ ∀ k, k ≤ m → ¬ E k) ∨ ∃ k, k ≤ m ∧ r = nI k ∧ E k ∧ ∀ j, j < k → ¬ E j
theorem fwr_eq {E F : Nat → Prop} {m : Nat} {r s : Int32} (h1 : fwr E m r) (h2 : fwr F m s) (ef : ∀ k, E k → ∃ j, j ≤ k ∧ F j) (fe : ∀ k, F k → ∃ j, j ≤ k ∧ E j) : r = s := by
  rcases h1 with ⟨a1, a2⟩ | ⟨k, a1, a2, a3, a4⟩ <;> rcases h2 with ⟨b1, b2⟩ | ⟨j, b1, b2, b3, b4⟩
  · rw [a1, b1]
  · obtain ⟨i, i1, i2⟩ := fe j b3
    exact absurd i2 (a2 i (by omega))
  · obtain ⟨i, i1, i2⟩ := ef k a3
    exact absurd i2 (b2 i (by omega))
  · obtain ⟨i, i1, i2⟩ := ef k a3
    obtain ⟨i', i3, i4⟩ := fe j b3
    have c1 : j ≤ i := Nat.le_of_not_lt fun z => b4 i z i2
    have c2 : k ≤ i' := Nat.le_of_not_lt fun z => a4 i' z i4
    have : k = j := by omega
    rw [a2, b2, this]
theorem fewF_v {N : Nat} (hN : 40000 ≤ N) {X : KX} {S : Nat → Int32} {H a q lim t m : Nat} {sh : Nat → Prop} (hn : nrS X S H a sh q lim) (hlim : lim ≤ 5) (hm : m ≤ lim) (ht : t < 8) : ∃ r, f_X3_fewestFrom N X (nI t) (nI m) = some r ∧ fwr (fun k => ∃ l : List Nat, l.length ≤ k ∧ rc (ld S) (fun h => h < H ∧ a.testBit h = true) sh q t l) m r := by
  unfold f_X3_fewestFrom
  have key : ∀ k p, p + k = m + 1 → ∀ u, k < u → (∀ j, j < p → ¬ ∃ l : List Nat, l.length ≤ j ∧ rc (ld S) (fun h => h < H ∧ a.testBit h = true) sh q t l) → ∃ r, f_X3_fewestFrom_2 N X u (nI t) (nI m) (nI p) = some r ∧ fwr (fun k => ∃ l : List Nat, l.length ≤ k ∧ rc (ld S) (fun h => h < H ∧ a.testBit h = true) sh q t l) m r := by
    intro k
    induction k with
    | zero =>
      intro p hp u hu hj
      obtain ⟨u, rfl⟩ : ∃ t, u = t + 1 := ⟨u - 1, by omega⟩
      unfold f_X3_fewestFrom_2
      rw [if_pos (by rw [nI_ltI (by omega) (by omega)]; omega)]
      exact ⟨_, rfl, Or.inl ⟨rfl, fun k hk => hj k (by omega)⟩⟩
    | succ k ih =>
      intro p hp u hu hj
      obtain ⟨u, rfl⟩ : ∃ t, u = t + 1 := ⟨u - 1, by omega⟩
      unfold f_X3_fewestFrom_2
      have h6 : ¬ (6 : Int32) ≤ nI p := by rw [show (6 : Int32) = nI 6 from rfl, le_n (by omega) (by omega)]; omega
      obtain ⟨d, d1, d2, d3⟩ := hn.2 p (by omega)
      rw [if_neg (by rw [nI_ltI (by omega) (by omega)]; omega), if_neg h6, zGd_n _ (show p < 6 by omega) (by decide), nI_cl p (by omega), d2, has_tb d d1 t ht]
      cases c : d.testBit t with
      | true =>
        simp only [z10, if_true, if_false]
        exact ⟨_, rfl, Or.inr ⟨p, by omega, rfl, (d3 t ht).mp c, hj⟩⟩
      | false =>
        simp only [Bool.false_eq_true, if_true, if_false, zLet, nIp]
        refine ih (p + 1) (by omega) u (by omega) (fun j h1 h2 => ?_)
        rcases Nat.lt_or_eq_of_le (Nat.le_of_lt_succ h1) with z | z
        · exact hj j z h2
        · rw [z] at h2
          have := (d3 t ht).mpr h2
          rw [c] at this
          exact absurd this (by decide)
  exact key (m + 1) 0 (by omega) N (by omega) (fun j hj => by omega)
