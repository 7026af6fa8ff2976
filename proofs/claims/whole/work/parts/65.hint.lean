/-! one hint of the tape -/
theorem sort_kind : ∀ c, c < 256 → f_X5_sortOf (nI c) = f_X7_kindOf (nI c) := by decide +kernel
def kdN (c : Nat) : Nat := if c = 115 then 1 else if c = 103 then 2 else if c = 119 then 3 else if c = 109 then 4 else if c = 100 then 5 else 0
theorem kind_v : ∀ c, c < 256 → f_X7_kindOf (nI c) = nI (kdN c) := by decide +kernel
theorem kdN_le (c : Nat) : kdN c ≤ 5 := by
  unfold kdN
  (repeat' split) <;> omega
theorem kdN_l {c : Nat} (h : kdN c ≠ 0) : 97 ≤ c ∧ c ≤ 122 := by
  unfold kdN at h
  by_cases c1 : c = 115
  · omega
  by_cases c2 : c = 103
  · omega
  by_cases c3 : c = 119
  · omega
  by_cases c4 : c = 109
  · omega
  by_cases c5 : c = 100
  · omega
  · rw [if_neg c1, if_neg c2, if_neg c3, if_neg c4, if_neg c5] at h; exact absurd rfl h
def dF (X' X : KX) : Prop := (∀ c, c ≠ 5 → c ≠ 16 → c ≠ 17 → c ≠ 18 → c ≠ 19 → c ≠ 21 → c ≠ 22 → c ≠ 23 → X' c = X c) ∧ X' 5 1 = X 5 1 ∧ (∀ i, (i = 0 ∨ 5 < i) → X' 16 i = X 16 i)
def eF (M' M : KX) : Prop := (∀ c, c ≠ 0 → c ≠ 7 → M' c = M c) ∧ ∀ i, (i < 7 ∨ 12 < i) → M' 0 i = M 0 i
theorem tok_s {M : KX} {k p c : Nat} {b : Nat → Nat} {v : Int32} (h : tkS M k b p) (hc : (c = 44 ∧ v = 3) ∨ (c = 59 ∧ v = 4)) : ∃ s0 : Int32, ((M 0 11 = v ∧ s0 = 1) ∨ (¬ M 0 11 = v ∧ s0 = 0)) ∧ ((s0 = 1 ∧ p < k ∧ b p = c) ∨ (s0 = 0 ∧ ¬ (p < k ∧ b p = c))) := by
  have t := tok_c h hc
  by_cases d : M 0 11 = v
  · exact ⟨1, Or.inl ⟨d, rfl⟩, Or.inl ⟨rfl, t.mp d⟩⟩
  · exact ⟨0, Or.inr ⟨d, rfl⟩, Or.inr ⟨rfl, fun z => d (t.mpr z)⟩⟩
