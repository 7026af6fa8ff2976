theorem z71_0 (α : Type) (e : Option α) : zGd 0 71 e = e := zGd_l e (by decide)
theorem cl_0 : (0 : Int32).toNatClampNeg = 0 := by decide
theorem z71_1 (α : Type) (e : Option α) : zGd 1 71 e = e := zGd_l e (by decide)
theorem cl_1 : (1 : Int32).toNatClampNeg = 1 := by decide
theorem z71_2 (α : Type) (e : Option α) : zGd 2 71 e = e := zGd_l e (by decide)
theorem cl_2 : (2 : Int32).toNatClampNeg = 2 := by decide
theorem z71_3 (α : Type) (e : Option α) : zGd 3 71 e = e := zGd_l e (by decide)
theorem cl_3 : (3 : Int32).toNatClampNeg = 3 := by decide
theorem z71_4 (α : Type) (e : Option α) : zGd 4 71 e = e := zGd_l e (by decide)
theorem cl_4 : (4 : Int32).toNatClampNeg = 4 := by decide
theorem z71_5 (α : Type) (e : Option α) : zGd 5 71 e = e := zGd_l e (by decide)
theorem cl_5 : (5 : Int32).toNatClampNeg = 5 := by decide
theorem z71_6 (α : Type) (e : Option α) : zGd 6 71 e = e := zGd_l e (by decide)
theorem cl_6 : (6 : Int32).toNatClampNeg = 6 := by decide
theorem z71_7 (α : Type) (e : Option α) : zGd 7 71 e = e := zGd_l e (by decide)
theorem cl_7 : (7 : Int32).toNatClampNeg = 7 := by decide
theorem z71_8 (α : Type) (e : Option α) : zGd 8 71 e = e := zGd_l e (by decide)
theorem cl_8 : (8 : Int32).toNatClampNeg = 8 := by decide
/-! reading a castle -/
theorem ixg (g w : Nat) : (41 : Int32) + 5 * nI g + nI w = nI (41 + 5 * g + w) := by
  rw [show (5 : Int32) = nI 5 from rfl, show (41 : Int32) = nI 41 from rfl, pk_mul, nI_add, nI_add]
theorem ixh (h : Nat) : (9 : Int32) + 4 * nI h = nI (9 + 4 * h) := by
  rw [show (4 : Int32) = nI 4 from rfl, show (9 : Int32) = nI 9 from rfl, pk_mul, nI_add]
theorem of_v (M : KX) {g w : Nat} (hg : g < 6) (hw : w < 5) : f_X7_of M (nI g) (nI w) = some (M 6 (41 + 5 * g + w)) := by
  unfold f_X7_of
  rw [ixg, zGd_n _ (by omega) (by omega), nI_cl _ (by omega)]
theorem of_0 (M : KX) {g : Nat} (hg : g < 6) : f_X7_of M (nI g) 0 = some (M 6 (41 + 5 * g)) := of_v (w := 0) M hg (by decide)
theorem of_1 (M : KX) {g : Nat} (hg : g < 6) : f_X7_of M (nI g) 1 = some (M 6 (42 + 5 * g)) := by rw [show (42 + 5 * g) = 41 + 5 * g + 1 by omega]; exact of_v (w := 1) M hg (by decide)
theorem of_2 (M : KX) {g : Nat} (hg : g < 6) : f_X7_of M (nI g) 2 = some (M 6 (43 + 5 * g)) := by rw [show (43 + 5 * g) = 41 + 5 * g + 2 by omega]; exact of_v (w := 2) M hg (by decide)
theorem of_3 (M : KX) {g : Nat} (hg : g < 6) : f_X7_of M (nI g) 3 = some (M 6 (44 + 5 * g)) := by rw [show (44 + 5 * g) = 41 + 5 * g + 3 by omega]; exact of_v (w := 3) M hg (by decide)
theorem of_4 (M : KX) {g : Nat} (hg : g < 6) : f_X7_of M (nI g) 4 = some (M 6 (45 + 5 * g)) := by rw [show (45 + 5 * g) = 41 + 5 * g + 4 by omega]; exact of_v (w := 4) M hg (by decide)
theorem isHint_v {X M : KX} {H : Nat} (hH : H ≤ 8) (h1 : X 7 4 = nI H) (h2 : M 6 7 = nI H) (a : Int32) : (∃ h, h < H ∧ a = nI h ∧ f_X2_isHint X a = 1 ∧ f_X7_isHint M a = some 1) ∨ (f_X2_isHint X a = 0 ∧ f_X7_isHint M a = some 0) := by
  unfold f_X2_isHint f_X7_isHint
  simp only [z71_0, z71_1, z71_2, z71_3, z71_4, z71_5, z71_6, z71_7, z71_8, cl_0, cl_1, cl_2, cl_3, cl_4, cl_5, cl_6, cl_7, cl_8, h1, h2]
  rcases rg a H (by omega) with ⟨h, hh, rfl⟩ | h
  · left; rw [isBelow_t hh (by omega), in1_t hh (by omega)]; exact ⟨h, hh, rfl, rfl, rfl⟩
  · right; rw [isBelow_f h, in1_f h (by omega)]; exact ⟨rfl, rfl⟩
theorem isGuest_v {X M : KX} {G : Nat} (hG : G ≤ 6) (h1 : X 7 5 = nI G) (h2 : M 6 8 = nI G) (a : Int32) : (∃ g, g < G ∧ a = nI g ∧ f_X2_isGuest X a = 1 ∧ f_X7_isGuest M a = some 1) ∨ (f_X2_isGuest X a = 0 ∧ f_X7_isGuest M a = some 0) := by
  unfold f_X2_isGuest f_X7_isGuest
  simp only [z71_0, z71_1, z71_2, z71_3, z71_4, z71_5, z71_6, z71_7, z71_8, cl_0, cl_1, cl_2, cl_3, cl_4, cl_5, cl_6, cl_7, cl_8, h1, h2]
  rcases rg a G (by omega) with ⟨h, hh, rfl⟩ | h
  · left; rw [isBelow_t hh (by omega), in1_t hh (by omega)]; exact ⟨h, hh, rfl, rfl, rfl⟩
  · right; rw [isBelow_f h, in1_f h (by omega)]; exact ⟨rfl, rfl⟩
/-! leads -/
def ldM (k f t2 t : Nat) (b : Bool) : Nat := if 4 ≤ k then (if t = t2 then f else if k = 5 ∧ t = f then t2 else t) else if (t = f ∨ (k = 2 ∧ t + 1 = f)) ∧ (k ≠ 3 ∨ b = true) then t2 else t
def fmM (k f : Nat) (b : Bool) : Nat := if k = 2 then 2 ^ f ||| 2 ^ f / 2 else if k = 3 then (if b = true then 2 ^ f else 0) else if k = 4 then 0 else 2 ^ f
def bmM (k t2 : Nat) : Nat := if k = 4 ∨ k = 5 then 2 ^ t2 else 0
theorem ldM_masksT : ∀ k, k < 6 → ∀ f, f < 8 → ∀ t2, t2 < 8 → ∀ t, t < 8 → k = 0 ∨ f = t2 ∨ (if (fmM k f true).testBit t then t2 else if (bmM k t2).testBit t then f else t) = ldM k f t2 t true := by decide +kernel
theorem ldM_masksF : ∀ k, k < 6 → ∀ f, f < 8 → ∀ t2, t2 < 8 → ∀ t, t < 8 → k = 0 ∨ f = t2 ∨ (if (fmM k f false).testBit t then t2 else if (bmM k t2).testBit t then f else t) = ldM k f t2 t false := by decide +kernel
theorem ldM_masks (k : Nat) (hk : k < 6) (f : Nat) (hf : f < 8) (t2 : Nat) (h2 : t2 < 8) (t : Nat) (ht : t < 8) (b : Bool) (h1 : 1 ≤ k) (hne : f ≠ t2) : (if (fmM k f b).testBit t then t2 else if (bmM k t2).testBit t then f else t) = ldM k f t2 t b := by
  cases b with
  | false =>
    rcases ldM_masksF k hk f hf t2 h2 t ht with h | h | h
    · omega
    · exact absurd h hne
    · exact h
  | true =>
    rcases ldM_masksT k hk f hf t2 h2 t ht with h | h | h
    · omega
    · exact absurd h hne
    · exact h
theorem shr1 : ∀ f, f < 8 → zShr (nI (2 ^ f)) 1 = nI (2 ^ f / 2) := by decide +kernel
theorem fmM_lt : ∀ k, k < 6 → ∀ f, f < 8 → ∀ b : Bool, fmM k f b < 256 := by decide +kernel
theorem bmM_lt : ∀ k, k < 6 → ∀ f, f < 8 → bmM k f < 256 := by decide +kernel
theorem ldM_lt {k f t2 t : Nat} {b : Bool} (hf : f < 8) (h2 : t2 < 8) (ht : t < 8) : ldM k f t2 t b < 8 := by
  unfold ldM
  repeat' split
  all_goals omega
def Nn (S : Nat → Int32) (j : Nat) : Nat := (S j).toNatClampNeg
def ldS (S : Nat → Int32) (h t : Nat) (s : Int32) : Nat := ldM (Nn S (9 + 4 * h)) (Nn S (10 + 4 * h)) (Nn S (11 + 4 * h)) t (decide (s < 2))
def ld (S : Nat → Int32) (h t : Nat) : Nat := ldS S h t (S (12 + 4 * h))
theorem Nn_v {S : Nat → Int32} {j k : Nat} (h : S j = nI k) (hk : k < 2 ^ 31) : Nn S j = k := by unfold Nn; rw [h, nI_cl k hk]
theorem nIe {a b : Nat} (ha : a < 2 ^ 31) (hb : b < 2 ^ 31) : (nI a = nI b) = (a = b) := propext (nI_eq ha hb)
theorem leadsTo_v {M : KX} {h t : Nat} (hh : h < 8) (ht : t < 8) (hv : hV (M 6) h) (s : Int32) : f_X7_leadsTo M (nI h) (nI t) s = some (nI (ldS (M 6) h t s)) := by
  obtain ⟨k, f, t2, e1, k1, k2, e2, hf, e3, ht2, hne⟩ := hv
  unfold f_X7_leadsTo f_X7_leadsTo_65 f_X7_leadsTo_69 f_X7_leadsTo_70 f_X7_leadsTo_88 ldS
  rw [Nn_v e1 (by omega), Nn_v e2 (by omega), Nn_v e3 (by omega)]
  have i1 : nI (9 + 4 * h) + 1 = nI (10 + 4 * h) := by rw [show (1 : Int32) = nI 1 from rfl, nI_add, show 9 + 4 * h + 1 = 10 + 4 * h by omega]
  have i2 : nI (9 + 4 * h) + 2 = nI (11 + 4 * h) := by rw [show (2 : Int32) = nI 2 from rfl, nI_add, show 9 + 4 * h + 2 = 11 + 4 * h by omega]
  have G0 : ∀ (j : Nat), j < 71 → ∀ (α : Type) (e : Option α), zGd (nI j) 71 e = e := fun j hj _ e => zGd_n e hj (by decide)
  simp only [zLet, ixh, i1, i2, G0 (9 + 4 * h) (by omega), G0 (10 + 4 * h) (by omega), G0 (11 + 4 * h) (by omega), nI_cl (9 + 4 * h) (by omega), nI_cl (10 + 4 * h) (by omega), nI_cl (11 + 4 * h) (by omega), e1, e2, e3]
  have c4 : ((4 : Int32) ≤ nI k) = (4 ≤ k) := propext (nI_leI (a := 4) (by omega) (by omega))
  have c5 : (nI k = (5 : Int32)) = (k = 5) := nIe (b := 5) (by omega) (by omega)
  have c2 : (nI k = (2 : Int32)) = (k = 2) := nIe (b := 2) (by omega) (by omega)
  have c3 : (nI k = (3 : Int32)) = (k = 3) := nIe (b := 3) (by omega) (by omega)
  have cf : (nI t = nI f - 1) = (t + 1 = f) := by
    apply propext
    constructor
    · intro q
      have := congrArg Int32.toInt q
      rw [nI_toInt (by omega), show (1 : Int32) = nI 1 from rfl, sub_ti (by omega) (by omega)] at this
      omega
    · intro q
      subst q
      rw [nI_pred]
  simp only [c4, c5, c2, c3, cf, nIe (show t < 2 ^ 31 by omega) (show t2 < 2 ^ 31 by omega), nIe (show t < 2 ^ 31 by omega) (show f < 2 ^ 31 by omega), zLet, zB1_s, zB2_s, z10, eq_self_iff_true, if_true, if_false]
  unfold ldM
  by_cases d4 : 4 ≤ k
  · simp only [d4, if_true]
    by_cases d1 : t = t2
    · simp only [d1, if_true]
    · by_cases d5 : k = 5
      · by_cases d6 : t = f
        · simp only [d5, d6, true_and, and_self, if_true]
          split
          · rename_i q; exact absurd q hne
          · rfl
        · simp only [d1, d5, d6, true_and, and_false, if_true, if_false]
      · simp only [d1, d5, false_and, if_false]
  · simp only [d4, if_false]
    by_cases d3 : k = 3
    · have d2 : ¬ k = 2 := by omega
      simp only [d3, if_true, true_and, ne_eq, not_true_eq_false, false_or, decide_eq_true_eq]
      by_cases d1 : t = f
      · by_cases d9 : (2 : Int32) ≤ s
        · have : ¬ s < 2 := Int32.not_lt.mpr d9
          simp [d1, d9, this, hne]
        · have : s < 2 := Int32.not_le.mp d9
          simp [d1, d9, this]
      · simp [d1]
    · by_cases d1 : t = f
      · simp [d1, d3]
      · by_cases d2 : k = 2
        · by_cases d8 : t + 1 = f
          · simp [d1, d2, d8]
          · simp [d1, d2, d8]
        · simp [d1, d2, d3]
theorem forth_v {X : KX} {S : Nat → Int32} {H G h : Nat} (hc : CK X 7 S H G) (hh : h < H) (hH : H ≤ 8) (hv : hV S h) (s : Int32) : f_X2_forth X (nI h) s = some (nI (fmM (Nn S (9 + 4 * h)) (Nn S (10 + 4 * h)) (decide (s < 2)))) := by
  obtain ⟨k, f, t2, e1, k1, k2, e2, hf, e3, ht2, hne⟩ := hv
  obtain ⟨x8, x9, x10, x11⟩ := hc.2.1 h hh
  unfold f_X2_forth
  rw [Nn_v e1 (by omega), Nn_v e2 (by omega)]
  have G8 : ∀ (α : Type) (e : Option α), zGd (nI h) 8 e = e := fun _ e => zGd_n e (by omega) (by decide)
  have cr : (nI h).toNatClampNeg = h := nI_cl h (by omega)
  have y8 : X 8 h = nI k := x8.trans e1
  have y9 : X 9 h = nI f := x9.trans e2
  have c2 : (nI k = (2 : Int32)) = (k = 2) := nIe (b := 2) (by omega) (by omega)
  have c3 : (nI k = (3 : Int32)) = (k = 3) := nIe (b := 3) (by omega) (by omega)
  have c4 : (nI k = (4 : Int32)) = (k = 4) := nIe (b := 4) (by omega) (by omega)
  have sh := shr1 f hf
  simp only [G8, cr, y8, y9, zLet, c2, c3, c4, shl_tb f hf, sh, nI_or]
  unfold fmM
  by_cases d2 : k = 2
  · simp only [d2, if_true]
  · by_cases d3 : k = 3
    · by_cases d9 : (2 : Int32) ≤ s
      · have : ¬ s < 2 := Int32.not_lt.mpr d9
        simp [d3, d9, this]
        rfl
      · have : s < 2 := Int32.not_le.mp d9
        simp [d3, d9, this]
    · by_cases d4 : k = 4
      · simp [d4]; rfl
      · simp [d2, d3, d4]
theorem back_v {X : KX} {S : Nat → Int32} {H G h : Nat} (hc : CK X 7 S H G) (hh : h < H) (hH : H ≤ 8) (hv : hV S h) : f_X2_back X (nI h) = some (nI (bmM (Nn S (9 + 4 * h)) (Nn S (11 + 4 * h)))) := by
  obtain ⟨k, f, t2, e1, k1, k2, e2, hf, e3, ht2, hne⟩ := hv
  obtain ⟨x8, x9, x10, x11⟩ := hc.2.1 h hh
  unfold f_X2_back f_X2_back_20
  rw [Nn_v e1 (by omega), Nn_v e3 (by omega)]
  have G8 : ∀ (α : Type) (e : Option α), zGd (nI h) 8 e = e := fun _ e => zGd_n e (by omega) (by decide)
  have cr : (nI h).toNatClampNeg = h := nI_cl h (by omega)
  have y8 : X 8 h = nI k := x8.trans e1
  have y10 : X 10 h = nI t2 := x10.trans e3
  have c4 : (nI k = (4 : Int32)) = (k = 4) := nIe (b := 4) (by omega) (by omega)
  have c5 : (nI k = (5 : Int32)) = (k = 5) := nIe (b := 5) (by omega) (by omega)
  simp only [G8, cr, y8, y10, c4, c5, shl_tb t2 ht2]
  unfold bmM
  by_cases d4 : k = 4
  · simp [d4]
  · by_cases d5 : k = 5
    · simp [d5]
    · simp [d4, d5]; rfl
theorem ledFrom_v {X : KX} {S : Nat → Int32} {H G h t : Nat} (hc : CK X 7 S H G) (hh : h < H) (hH : H ≤ 8) (hv : hV S h) (ht : t < 8) (s : Int32) : f_X2_ledFrom X (nI t) (nI h) s = some (nI (ldS S h t s)) := by
  unfold f_X2_ledFrom
  rw [forth_v hc hh hH hv s, back_v hc hh hH hv]
  obtain ⟨k, f, t2, e1, k1, k2, e2, hf, e3, ht2, hne⟩ := hv
  obtain ⟨x8, x9, x10, x11⟩ := hc.2.1 h hh
  have G8 : ∀ (α : Type) (e : Option α), zGd (nI h) 8 e = e := fun _ e => zGd_n e (by omega) (by decide)
  have cr : (nI h).toNatClampNeg = h := nI_cl h (by omega)
  have y9 : X 9 h = nI f := x9.trans e2
  have y10 : X 10 h = nI t2 := x10.trans e3
  unfold ldS
  rw [Nn_v e1 (by omega), Nn_v e2 (by omega), Nn_v e3 (by omega)]
  rw [← ldM_masks k (by omega) f hf t2 ht2 t ht _ k1 hne]
  simp only [G8, cr, y9, y10, zB1_s, has_tb _ (fmM_lt k (by omega) f hf (decide (s < 2))) t ht, has_tb _ (bmM_lt k (by omega) t2 ht2) t ht]
  cases (fmM k f (decide (s < 2))).testBit t <;> cases (bmM k t2).testBit t <;> rfl
theorem ldS_lt {S : Nat → Int32} {h t : Nat} (hv : hV S h) (ht : t < 8) (s : Int32) : ldS S h t s < 8 := by
  obtain ⟨k, f, t2, e1, k1, k2, e2, hf, e3, ht2, hne⟩ := hv
  unfold ldS
  rw [Nn_v e2 (by omega), Nn_v e3 (by omega)]
  exact ldM_lt hf ht2 ht
theorem leadsNow_v {M : KX} {h t : Nat} (hh : h < 8) (ht : t < 8) (hv : hV (M 6) h) : f_X7_leadsNow M (nI h) (nI t) = some (nI (ld (M 6) h t)) := by
  unfold f_X7_leadsNow
  have i3 : nI (9 + 4 * h) + 3 = nI (12 + 4 * h) := by rw [show (3 : Int32) = nI 3 from rfl, nI_add, show 9 + 4 * h + 3 = 12 + 4 * h by omega]
  rw [ixh, i3, zGd_n _ (by omega) (by omega), nI_cl _ (by omega), leadsTo_v hh ht hv]
  rfl
