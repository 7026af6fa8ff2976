theorem zU_ap (X : KX) (k i : Nat) (v : Int32) (a b : Nat) : zU X k i v a b = if a = k ∧ b = i then v else X a b := by
  unfold zU upd
  by_cases h : a = k
  · subst h
    simp only [if_true, true_and]
  · simp only [h, false_and, if_false]
theorem zCp_ap (X : KX) (s d sp dp n : Nat) (a b : Nat) : zCp X s d sp dp n a b = if a = d then (if dp ≤ b ∧ b < dp + n then X s (sp + (b - dp)) else X d b) else X a b := by
  unfold zCp va_cpy
  by_cases h : a = d
  · rw [if_pos h, if_pos h]
  · rw [if_neg h, if_neg h]
theorem zLetE {α β : Type} {G : β → Prop} (v : α) (f : α → β) (h : ∀ y, y = v → G (f y)) : G (zLet v f) := h v rfl
theorem zLetU {β : Type} {G : β → Prop} (X : KX) (k i : Nat) (v : Int32) (f : KX → β) (h : ∀ Y : KX, (∀ a b, Y a b = if a = k ∧ b = i then v else X a b) → G (f Y)) : G (zLet (zU X k i v) f) := h _ (zU_ap X k i v)
theorem zLetC {β : Type} {G : β → Prop} (X : KX) (s d sp dp n : Nat) (f : KX → β) (h : ∀ Y : KX, (∀ a b, Y a b = if a = d then (if dp ≤ b ∧ b < dp + n then X s (sp + (b - dp)) else X d b) else X a b) → G (f Y)) : G (zLet (zCp X s d sp dp n) f) := h _ (zCp_ap X s d sp dp n)
theorem zGb_ok {α : Type} {v : Int32} (e : Option α) (h : v = 0 ∨ v = 1) : zGb v e = e := if_pos h
theorem zGc8 {α : Type} (e : Option α) : zGc 0 0 8 8 8 e = e := by
  unfold zGc
  exact if_pos (by decide)
theorem zGc6 {α : Type} (e : Option α) : zGc 0 0 6 6 6 e = e := by
  unfold zGc
  exact if_pos (by decide)
theorem cl0 : (0 : Int32).toNatClampNeg = 0 := by decide
theorem cl8 : (8 : Int32).toNatClampNeg = 8 := by decide
theorem cl6 : (6 : Int32).toNatClampNeg = 6 := by decide
/-- a castle that becomes another: the cells c .. c + 8 as d .. d + 8 -/
def bcM (X X' : KX) (c d : Nat) : Prop := (∀ k, (k < c ∨ c + 8 < k) → X' k = X k) ∧ (∀ j, (j < 6 ∨ (14 ≤ j ∧ j < 19)) → X' c j = X d j) ∧ (∀ i, 1 ≤ i → i < 5 → ∀ p, p < 8 → X' (c + i) p = X (d + i) p) ∧ ∀ i, 5 ≤ i → i < 9 → ∀ p, p < 6 → X' (c + i) p = X (d + i) p
set_option maxHeartbeats 4000000 in
theorem become_7_16_v (X : KX) (h0 : X 16 0 = 0 ∨ X 16 0 = 1) (h18 : X 16 18 = 0 ∨ X 16 18 = 1) : ∃ X' : KX, f_X2_become_7_16 X = some X' ∧ bcM X X' 7 16 := by
  unfold f_X2_become_7_16
  simp only [cl0, cl8, cl6]
  rw [zGb_ok _ h0]
  refine zLetU (G := fun o => ∃ X' : KX, o = some X' ∧ bcM X X' 7 16) _ _ _ _ _ (fun Y1 y1 => ?_)
  refine zLetU (G := fun o => ∃ X' : KX, o = some X' ∧ bcM X X' 7 16) _ _ _ _ _ (fun Y2 y2 => ?_)
  refine zLetU (G := fun o => ∃ X' : KX, o = some X' ∧ bcM X X' 7 16) _ _ _ _ _ (fun Y3 y3 => ?_)
  refine zLetU (G := fun o => ∃ X' : KX, o = some X' ∧ bcM X X' 7 16) _ _ _ _ _ (fun Y4 y4 => ?_)
  refine zLetU (G := fun o => ∃ X' : KX, o = some X' ∧ bcM X X' 7 16) _ _ _ _ _ (fun Y5 y5 => ?_)
  refine zLetU (G := fun o => ∃ X' : KX, o = some X' ∧ bcM X X' 7 16) _ _ _ _ _ (fun Y6 y6 => ?_)
  refine zLetU (G := fun o => ∃ X' : KX, o = some X' ∧ bcM X X' 7 16) _ _ _ _ _ (fun Y7 y7 => ?_)
  refine zLetU (G := fun o => ∃ X' : KX, o = some X' ∧ bcM X X' 7 16) _ _ _ _ _ (fun Y8 y8 => ?_)
  refine zLetU (G := fun o => ∃ X' : KX, o = some X' ∧ bcM X X' 7 16) _ _ _ _ _ (fun Y9 y9 => ?_)
  refine zLetU (G := fun o => ∃ X' : KX, o = some X' ∧ bcM X X' 7 16) _ _ _ _ _ (fun Y10 y10 => ?_)
  have e18 : Y10 16 18 = X 16 18 := by simp [y1, y2, y3, y4, y5, y6, y7, y8, y9, y10]
  rw [zGb_ok _ (by rw [e18]; exact h18)]
  refine zLetU (G := fun o => ∃ X' : KX, o = some X' ∧ bcM X X' 7 16) _ _ _ _ _ (fun Y11 y11 => ?_)
  rw [zGc8]
  refine zLetC (G := fun o => ∃ X' : KX, o = some X' ∧ bcM X X' 7 16) _ _ _ _ _ _ _ (fun Y12 y12 => ?_)
  rw [zGc8]
  refine zLetC (G := fun o => ∃ X' : KX, o = some X' ∧ bcM X X' 7 16) _ _ _ _ _ _ _ (fun Y13 y13 => ?_)
  rw [zGc8]
  refine zLetC (G := fun o => ∃ X' : KX, o = some X' ∧ bcM X X' 7 16) _ _ _ _ _ _ _ (fun Y14 y14 => ?_)
  rw [zGc8]
  refine zLetC (G := fun o => ∃ X' : KX, o = some X' ∧ bcM X X' 7 16) _ _ _ _ _ _ _ (fun Y15 y15 => ?_)
  rw [zGc6]
  refine zLetC (G := fun o => ∃ X' : KX, o = some X' ∧ bcM X X' 7 16) _ _ _ _ _ _ _ (fun Y16 y16 => ?_)
  rw [zGc6]
  refine zLetC (G := fun o => ∃ X' : KX, o = some X' ∧ bcM X X' 7 16) _ _ _ _ _ _ _ (fun Y17 y17 => ?_)
  rw [zGc6]
  refine zLetC (G := fun o => ∃ X' : KX, o = some X' ∧ bcM X X' 7 16) _ _ _ _ _ _ _ (fun Y18 y18 => ?_)
  rw [zGc6]
  refine zLetC (G := fun o => ∃ X' : KX, o = some X' ∧ bcM X X' 7 16) _ _ _ _ _ _ _ (fun Y19 y19 => ?_)
  refine ⟨Y19, rfl, fun q hq => ?_, fun j hj => ?_, fun i i1 i2 p hp => ?_, fun i i1 i2 p hp => ?_⟩
  · have n0 : q ≠ 7 := by omega
    have n1 : q ≠ 8 := by omega
    have n2 : q ≠ 9 := by omega
    have n3 : q ≠ 10 := by omega
    have n4 : q ≠ 11 := by omega
    have n5 : q ≠ 12 := by omega
    have n6 : q ≠ 13 := by omega
    have n7 : q ≠ 14 := by omega
    have n8 : q ≠ 15 := by omega
    funext b
    simp only [y1, y2, y3, y4, y5, y6, y7, y8, y9, y10, y11, y12, y13, y14, y15, y16, y17, y18, y19, n0, n1, n2, n3, n4, n5, n6, n7, n8, false_and, if_false]
  · have hj2 : j = 0 ∨ j = 1 ∨ j = 2 ∨ j = 3 ∨ j = 4 ∨ j = 5 ∨ j = 14 ∨ j = 15 ∨ j = 16 ∨ j = 17 ∨ j = 18 := by omega
    rcases hj2 with rfl | rfl | rfl | rfl | rfl | rfl | rfl | rfl | rfl | rfl | rfl <;> simp [y1, y2, y3, y4, y5, y6, y7, y8, y9, y10, y11, y12, y13, y14, y15, y16, y17, y18, y19]
  · have hi : i = 1 ∨ i = 2 ∨ i = 3 ∨ i = 4 := by omega
    rcases hi with rfl | rfl | rfl | rfl <;> simp [y1, y2, y3, y4, y5, y6, y7, y8, y9, y10, y11, y12, y13, y14, y15, y16, y17, y18, y19, hp]
  · have hi : i = 5 ∨ i = 6 ∨ i = 7 ∨ i = 8 := by omega
    rcases hi with rfl | rfl | rfl | rfl <;> simp [y1, y2, y3, y4, y5, y6, y7, y8, y9, y10, y11, y12, y13, y14, y15, y16, y17, y18, y19, hp]

set_option maxHeartbeats 4000000 in
theorem become_25_7_v (X : KX) (h0 : X 7 0 = 0 ∨ X 7 0 = 1) (h18 : X 7 18 = 0 ∨ X 7 18 = 1) : ∃ X' : KX, f_X2_become_25_7 X = some X' ∧ bcM X X' 25 7 := by
  unfold f_X2_become_25_7
  simp only [cl0, cl8, cl6]
  rw [zGb_ok _ h0]
  refine zLetU (G := fun o => ∃ X' : KX, o = some X' ∧ bcM X X' 25 7) _ _ _ _ _ (fun Y1 y1 => ?_)
  refine zLetU (G := fun o => ∃ X' : KX, o = some X' ∧ bcM X X' 25 7) _ _ _ _ _ (fun Y2 y2 => ?_)
  refine zLetU (G := fun o => ∃ X' : KX, o = some X' ∧ bcM X X' 25 7) _ _ _ _ _ (fun Y3 y3 => ?_)
  refine zLetU (G := fun o => ∃ X' : KX, o = some X' ∧ bcM X X' 25 7) _ _ _ _ _ (fun Y4 y4 => ?_)
  refine zLetU (G := fun o => ∃ X' : KX, o = some X' ∧ bcM X X' 25 7) _ _ _ _ _ (fun Y5 y5 => ?_)
  refine zLetU (G := fun o => ∃ X' : KX, o = some X' ∧ bcM X X' 25 7) _ _ _ _ _ (fun Y6 y6 => ?_)
  refine zLetU (G := fun o => ∃ X' : KX, o = some X' ∧ bcM X X' 25 7) _ _ _ _ _ (fun Y7 y7 => ?_)
  refine zLetU (G := fun o => ∃ X' : KX, o = some X' ∧ bcM X X' 25 7) _ _ _ _ _ (fun Y8 y8 => ?_)
  refine zLetU (G := fun o => ∃ X' : KX, o = some X' ∧ bcM X X' 25 7) _ _ _ _ _ (fun Y9 y9 => ?_)
  refine zLetU (G := fun o => ∃ X' : KX, o = some X' ∧ bcM X X' 25 7) _ _ _ _ _ (fun Y10 y10 => ?_)
  have e18 : Y10 7 18 = X 7 18 := by simp [y1, y2, y3, y4, y5, y6, y7, y8, y9, y10]
  rw [zGb_ok _ (by rw [e18]; exact h18)]
  refine zLetU (G := fun o => ∃ X' : KX, o = some X' ∧ bcM X X' 25 7) _ _ _ _ _ (fun Y11 y11 => ?_)
  rw [zGc8]
  refine zLetC (G := fun o => ∃ X' : KX, o = some X' ∧ bcM X X' 25 7) _ _ _ _ _ _ _ (fun Y12 y12 => ?_)
  rw [zGc8]
  refine zLetC (G := fun o => ∃ X' : KX, o = some X' ∧ bcM X X' 25 7) _ _ _ _ _ _ _ (fun Y13 y13 => ?_)
  rw [zGc8]
  refine zLetC (G := fun o => ∃ X' : KX, o = some X' ∧ bcM X X' 25 7) _ _ _ _ _ _ _ (fun Y14 y14 => ?_)
  rw [zGc8]
  refine zLetC (G := fun o => ∃ X' : KX, o = some X' ∧ bcM X X' 25 7) _ _ _ _ _ _ _ (fun Y15 y15 => ?_)
  rw [zGc6]
  refine zLetC (G := fun o => ∃ X' : KX, o = some X' ∧ bcM X X' 25 7) _ _ _ _ _ _ _ (fun Y16 y16 => ?_)
  rw [zGc6]
  refine zLetC (G := fun o => ∃ X' : KX, o = some X' ∧ bcM X X' 25 7) _ _ _ _ _ _ _ (fun Y17 y17 => ?_)
  rw [zGc6]
  refine zLetC (G := fun o => ∃ X' : KX, o = some X' ∧ bcM X X' 25 7) _ _ _ _ _ _ _ (fun Y18 y18 => ?_)
  rw [zGc6]
  refine zLetC (G := fun o => ∃ X' : KX, o = some X' ∧ bcM X X' 25 7) _ _ _ _ _ _ _ (fun Y19 y19 => ?_)
  refine ⟨Y19, rfl, fun q hq => ?_, fun j hj => ?_, fun i i1 i2 p hp => ?_, fun i i1 i2 p hp => ?_⟩
  · have n0 : q ≠ 25 := by omega
    have n1 : q ≠ 26 := by omega
    have n2 : q ≠ 27 := by omega
    have n3 : q ≠ 28 := by omega
    have n4 : q ≠ 29 := by omega
    have n5 : q ≠ 30 := by omega
    have n6 : q ≠ 31 := by omega
    have n7 : q ≠ 32 := by omega
    have n8 : q ≠ 33 := by omega
    funext b
    simp only [y1, y2, y3, y4, y5, y6, y7, y8, y9, y10, y11, y12, y13, y14, y15, y16, y17, y18, y19, n0, n1, n2, n3, n4, n5, n6, n7, n8, false_and, if_false]
  · have hj2 : j = 0 ∨ j = 1 ∨ j = 2 ∨ j = 3 ∨ j = 4 ∨ j = 5 ∨ j = 14 ∨ j = 15 ∨ j = 16 ∨ j = 17 ∨ j = 18 := by omega
    rcases hj2 with rfl | rfl | rfl | rfl | rfl | rfl | rfl | rfl | rfl | rfl | rfl <;> simp [y1, y2, y3, y4, y5, y6, y7, y8, y9, y10, y11, y12, y13, y14, y15, y16, y17, y18, y19]
  · have hi : i = 1 ∨ i = 2 ∨ i = 3 ∨ i = 4 := by omega
    rcases hi with rfl | rfl | rfl | rfl <;> simp [y1, y2, y3, y4, y5, y6, y7, y8, y9, y10, y11, y12, y13, y14, y15, y16, y17, y18, y19, hp]
  · have hi : i = 5 ∨ i = 6 ∨ i = 7 ∨ i = 8 := by omega
    rcases hi with rfl | rfl | rfl | rfl <;> simp [y1, y2, y3, y4, y5, y6, y7, y8, y9, y10, y11, y12, y13, y14, y15, y16, y17, y18, y19, hp]

set_option maxHeartbeats 4000000 in
theorem become_34_7_v (X : KX) (h0 : X 7 0 = 0 ∨ X 7 0 = 1) (h18 : X 7 18 = 0 ∨ X 7 18 = 1) : ∃ X' : KX, f_X2_become_34_7 X = some X' ∧ bcM X X' 34 7 := by
  unfold f_X2_become_34_7
  simp only [cl0, cl8, cl6]
  rw [zGb_ok _ h0]
  refine zLetU (G := fun o => ∃ X' : KX, o = some X' ∧ bcM X X' 34 7) _ _ _ _ _ (fun Y1 y1 => ?_)
  refine zLetU (G := fun o => ∃ X' : KX, o = some X' ∧ bcM X X' 34 7) _ _ _ _ _ (fun Y2 y2 => ?_)
  refine zLetU (G := fun o => ∃ X' : KX, o = some X' ∧ bcM X X' 34 7) _ _ _ _ _ (fun Y3 y3 => ?_)
  refine zLetU (G := fun o => ∃ X' : KX, o = some X' ∧ bcM X X' 34 7) _ _ _ _ _ (fun Y4 y4 => ?_)
  refine zLetU (G := fun o => ∃ X' : KX, o = some X' ∧ bcM X X' 34 7) _ _ _ _ _ (fun Y5 y5 => ?_)
  refine zLetU (G := fun o => ∃ X' : KX, o = some X' ∧ bcM X X' 34 7) _ _ _ _ _ (fun Y6 y6 => ?_)
  refine zLetU (G := fun o => ∃ X' : KX, o = some X' ∧ bcM X X' 34 7) _ _ _ _ _ (fun Y7 y7 => ?_)
  refine zLetU (G := fun o => ∃ X' : KX, o = some X' ∧ bcM X X' 34 7) _ _ _ _ _ (fun Y8 y8 => ?_)
  refine zLetU (G := fun o => ∃ X' : KX, o = some X' ∧ bcM X X' 34 7) _ _ _ _ _ (fun Y9 y9 => ?_)
  refine zLetU (G := fun o => ∃ X' : KX, o = some X' ∧ bcM X X' 34 7) _ _ _ _ _ (fun Y10 y10 => ?_)
  have e18 : Y10 7 18 = X 7 18 := by simp [y1, y2, y3, y4, y5, y6, y7, y8, y9, y10]
  rw [zGb_ok _ (by rw [e18]; exact h18)]
  refine zLetU (G := fun o => ∃ X' : KX, o = some X' ∧ bcM X X' 34 7) _ _ _ _ _ (fun Y11 y11 => ?_)
  rw [zGc8]
  refine zLetC (G := fun o => ∃ X' : KX, o = some X' ∧ bcM X X' 34 7) _ _ _ _ _ _ _ (fun Y12 y12 => ?_)
  rw [zGc8]
  refine zLetC (G := fun o => ∃ X' : KX, o = some X' ∧ bcM X X' 34 7) _ _ _ _ _ _ _ (fun Y13 y13 => ?_)
  rw [zGc8]
  refine zLetC (G := fun o => ∃ X' : KX, o = some X' ∧ bcM X X' 34 7) _ _ _ _ _ _ _ (fun Y14 y14 => ?_)
  rw [zGc8]
  refine zLetC (G := fun o => ∃ X' : KX, o = some X' ∧ bcM X X' 34 7) _ _ _ _ _ _ _ (fun Y15 y15 => ?_)
  rw [zGc6]
  refine zLetC (G := fun o => ∃ X' : KX, o = some X' ∧ bcM X X' 34 7) _ _ _ _ _ _ _ (fun Y16 y16 => ?_)
  rw [zGc6]
  refine zLetC (G := fun o => ∃ X' : KX, o = some X' ∧ bcM X X' 34 7) _ _ _ _ _ _ _ (fun Y17 y17 => ?_)
  rw [zGc6]
  refine zLetC (G := fun o => ∃ X' : KX, o = some X' ∧ bcM X X' 34 7) _ _ _ _ _ _ _ (fun Y18 y18 => ?_)
  rw [zGc6]
  refine zLetC (G := fun o => ∃ X' : KX, o = some X' ∧ bcM X X' 34 7) _ _ _ _ _ _ _ (fun Y19 y19 => ?_)
  refine ⟨Y19, rfl, fun q hq => ?_, fun j hj => ?_, fun i i1 i2 p hp => ?_, fun i i1 i2 p hp => ?_⟩
  · have n0 : q ≠ 34 := by omega
    have n1 : q ≠ 35 := by omega
    have n2 : q ≠ 36 := by omega
    have n3 : q ≠ 37 := by omega
    have n4 : q ≠ 38 := by omega
    have n5 : q ≠ 39 := by omega
    have n6 : q ≠ 40 := by omega
    have n7 : q ≠ 41 := by omega
    have n8 : q ≠ 42 := by omega
    funext b
    simp only [y1, y2, y3, y4, y5, y6, y7, y8, y9, y10, y11, y12, y13, y14, y15, y16, y17, y18, y19, n0, n1, n2, n3, n4, n5, n6, n7, n8, false_and, if_false]
  · have hj2 : j = 0 ∨ j = 1 ∨ j = 2 ∨ j = 3 ∨ j = 4 ∨ j = 5 ∨ j = 14 ∨ j = 15 ∨ j = 16 ∨ j = 17 ∨ j = 18 := by omega
    rcases hj2 with rfl | rfl | rfl | rfl | rfl | rfl | rfl | rfl | rfl | rfl | rfl <;> simp [y1, y2, y3, y4, y5, y6, y7, y8, y9, y10, y11, y12, y13, y14, y15, y16, y17, y18, y19]
  · have hi : i = 1 ∨ i = 2 ∨ i = 3 ∨ i = 4 := by omega
    rcases hi with rfl | rfl | rfl | rfl <;> simp [y1, y2, y3, y4, y5, y6, y7, y8, y9, y10, y11, y12, y13, y14, y15, y16, y17, y18, y19, hp]
  · have hi : i = 5 ∨ i = 6 ∨ i = 7 ∨ i = 8 := by omega
    rcases hi with rfl | rfl | rfl | rfl <;> simp [y1, y2, y3, y4, y5, y6, y7, y8, y9, y10, y11, y12, y13, y14, y15, y16, y17, y18, y19, hp]

set_option maxHeartbeats 4000000 in
theorem become_7_25_v (X : KX) (h0 : X 25 0 = 0 ∨ X 25 0 = 1) (h18 : X 25 18 = 0 ∨ X 25 18 = 1) : ∃ X' : KX, f_X2_become_7_25 X = some X' ∧ bcM X X' 7 25 := by
  unfold f_X2_become_7_25
  simp only [cl0, cl8, cl6]
  rw [zGb_ok _ h0]
  refine zLetU (G := fun o => ∃ X' : KX, o = some X' ∧ bcM X X' 7 25) _ _ _ _ _ (fun Y1 y1 => ?_)
  refine zLetU (G := fun o => ∃ X' : KX, o = some X' ∧ bcM X X' 7 25) _ _ _ _ _ (fun Y2 y2 => ?_)
  refine zLetU (G := fun o => ∃ X' : KX, o = some X' ∧ bcM X X' 7 25) _ _ _ _ _ (fun Y3 y3 => ?_)
  refine zLetU (G := fun o => ∃ X' : KX, o = some X' ∧ bcM X X' 7 25) _ _ _ _ _ (fun Y4 y4 => ?_)
  refine zLetU (G := fun o => ∃ X' : KX, o = some X' ∧ bcM X X' 7 25) _ _ _ _ _ (fun Y5 y5 => ?_)
  refine zLetU (G := fun o => ∃ X' : KX, o = some X' ∧ bcM X X' 7 25) _ _ _ _ _ (fun Y6 y6 => ?_)
  refine zLetU (G := fun o => ∃ X' : KX, o = some X' ∧ bcM X X' 7 25) _ _ _ _ _ (fun Y7 y7 => ?_)
  refine zLetU (G := fun o => ∃ X' : KX, o = some X' ∧ bcM X X' 7 25) _ _ _ _ _ (fun Y8 y8 => ?_)
  refine zLetU (G := fun o => ∃ X' : KX, o = some X' ∧ bcM X X' 7 25) _ _ _ _ _ (fun Y9 y9 => ?_)
  refine zLetU (G := fun o => ∃ X' : KX, o = some X' ∧ bcM X X' 7 25) _ _ _ _ _ (fun Y10 y10 => ?_)
  have e18 : Y10 25 18 = X 25 18 := by simp [y1, y2, y3, y4, y5, y6, y7, y8, y9, y10]
  rw [zGb_ok _ (by rw [e18]; exact h18)]
  refine zLetU (G := fun o => ∃ X' : KX, o = some X' ∧ bcM X X' 7 25) _ _ _ _ _ (fun Y11 y11 => ?_)
  rw [zGc8]
  refine zLetC (G := fun o => ∃ X' : KX, o = some X' ∧ bcM X X' 7 25) _ _ _ _ _ _ _ (fun Y12 y12 => ?_)
  rw [zGc8]
  refine zLetC (G := fun o => ∃ X' : KX, o = some X' ∧ bcM X X' 7 25) _ _ _ _ _ _ _ (fun Y13 y13 => ?_)
  rw [zGc8]
  refine zLetC (G := fun o => ∃ X' : KX, o = some X' ∧ bcM X X' 7 25) _ _ _ _ _ _ _ (fun Y14 y14 => ?_)
  rw [zGc8]
  refine zLetC (G := fun o => ∃ X' : KX, o = some X' ∧ bcM X X' 7 25) _ _ _ _ _ _ _ (fun Y15 y15 => ?_)
  rw [zGc6]
  refine zLetC (G := fun o => ∃ X' : KX, o = some X' ∧ bcM X X' 7 25) _ _ _ _ _ _ _ (fun Y16 y16 => ?_)
  rw [zGc6]
  refine zLetC (G := fun o => ∃ X' : KX, o = some X' ∧ bcM X X' 7 25) _ _ _ _ _ _ _ (fun Y17 y17 => ?_)
  rw [zGc6]
  refine zLetC (G := fun o => ∃ X' : KX, o = some X' ∧ bcM X X' 7 25) _ _ _ _ _ _ _ (fun Y18 y18 => ?_)
  rw [zGc6]
  refine zLetC (G := fun o => ∃ X' : KX, o = some X' ∧ bcM X X' 7 25) _ _ _ _ _ _ _ (fun Y19 y19 => ?_)
  refine ⟨Y19, rfl, fun q hq => ?_, fun j hj => ?_, fun i i1 i2 p hp => ?_, fun i i1 i2 p hp => ?_⟩
  · have n0 : q ≠ 7 := by omega
    have n1 : q ≠ 8 := by omega
    have n2 : q ≠ 9 := by omega
    have n3 : q ≠ 10 := by omega
    have n4 : q ≠ 11 := by omega
    have n5 : q ≠ 12 := by omega
    have n6 : q ≠ 13 := by omega
    have n7 : q ≠ 14 := by omega
    have n8 : q ≠ 15 := by omega
    funext b
    simp only [y1, y2, y3, y4, y5, y6, y7, y8, y9, y10, y11, y12, y13, y14, y15, y16, y17, y18, y19, n0, n1, n2, n3, n4, n5, n6, n7, n8, false_and, if_false]
  · have hj2 : j = 0 ∨ j = 1 ∨ j = 2 ∨ j = 3 ∨ j = 4 ∨ j = 5 ∨ j = 14 ∨ j = 15 ∨ j = 16 ∨ j = 17 ∨ j = 18 := by omega
    rcases hj2 with rfl | rfl | rfl | rfl | rfl | rfl | rfl | rfl | rfl | rfl | rfl <;> simp [y1, y2, y3, y4, y5, y6, y7, y8, y9, y10, y11, y12, y13, y14, y15, y16, y17, y18, y19]
  · have hi : i = 1 ∨ i = 2 ∨ i = 3 ∨ i = 4 := by omega
    rcases hi with rfl | rfl | rfl | rfl <;> simp [y1, y2, y3, y4, y5, y6, y7, y8, y9, y10, y11, y12, y13, y14, y15, y16, y17, y18, y19, hp]
  · have hi : i = 5 ∨ i = 6 ∨ i = 7 ∨ i = 8 := by omega
    rcases hi with rfl | rfl | rfl | rfl <;> simp [y1, y2, y3, y4, y5, y6, y7, y8, y9, y10, y11, y12, y13, y14, y15, y16, y17, y18, y19, hp]

set_option maxHeartbeats 4000000 in
theorem become_7_34_v (X : KX) (h0 : X 34 0 = 0 ∨ X 34 0 = 1) (h18 : X 34 18 = 0 ∨ X 34 18 = 1) : ∃ X' : KX, f_X2_become_7_34 X = some X' ∧ bcM X X' 7 34 := by
  unfold f_X2_become_7_34
  simp only [cl0, cl8, cl6]
  rw [zGb_ok _ h0]
  refine zLetU (G := fun o => ∃ X' : KX, o = some X' ∧ bcM X X' 7 34) _ _ _ _ _ (fun Y1 y1 => ?_)
  refine zLetU (G := fun o => ∃ X' : KX, o = some X' ∧ bcM X X' 7 34) _ _ _ _ _ (fun Y2 y2 => ?_)
  refine zLetU (G := fun o => ∃ X' : KX, o = some X' ∧ bcM X X' 7 34) _ _ _ _ _ (fun Y3 y3 => ?_)
  refine zLetU (G := fun o => ∃ X' : KX, o = some X' ∧ bcM X X' 7 34) _ _ _ _ _ (fun Y4 y4 => ?_)
  refine zLetU (G := fun o => ∃ X' : KX, o = some X' ∧ bcM X X' 7 34) _ _ _ _ _ (fun Y5 y5 => ?_)
  refine zLetU (G := fun o => ∃ X' : KX, o = some X' ∧ bcM X X' 7 34) _ _ _ _ _ (fun Y6 y6 => ?_)
  refine zLetU (G := fun o => ∃ X' : KX, o = some X' ∧ bcM X X' 7 34) _ _ _ _ _ (fun Y7 y7 => ?_)
  refine zLetU (G := fun o => ∃ X' : KX, o = some X' ∧ bcM X X' 7 34) _ _ _ _ _ (fun Y8 y8 => ?_)
  refine zLetU (G := fun o => ∃ X' : KX, o = some X' ∧ bcM X X' 7 34) _ _ _ _ _ (fun Y9 y9 => ?_)
  refine zLetU (G := fun o => ∃ X' : KX, o = some X' ∧ bcM X X' 7 34) _ _ _ _ _ (fun Y10 y10 => ?_)
  have e18 : Y10 34 18 = X 34 18 := by simp [y1, y2, y3, y4, y5, y6, y7, y8, y9, y10]
  rw [zGb_ok _ (by rw [e18]; exact h18)]
  refine zLetU (G := fun o => ∃ X' : KX, o = some X' ∧ bcM X X' 7 34) _ _ _ _ _ (fun Y11 y11 => ?_)
  rw [zGc8]
  refine zLetC (G := fun o => ∃ X' : KX, o = some X' ∧ bcM X X' 7 34) _ _ _ _ _ _ _ (fun Y12 y12 => ?_)
  rw [zGc8]
  refine zLetC (G := fun o => ∃ X' : KX, o = some X' ∧ bcM X X' 7 34) _ _ _ _ _ _ _ (fun Y13 y13 => ?_)
  rw [zGc8]
  refine zLetC (G := fun o => ∃ X' : KX, o = some X' ∧ bcM X X' 7 34) _ _ _ _ _ _ _ (fun Y14 y14 => ?_)
  rw [zGc8]
  refine zLetC (G := fun o => ∃ X' : KX, o = some X' ∧ bcM X X' 7 34) _ _ _ _ _ _ _ (fun Y15 y15 => ?_)
  rw [zGc6]
  refine zLetC (G := fun o => ∃ X' : KX, o = some X' ∧ bcM X X' 7 34) _ _ _ _ _ _ _ (fun Y16 y16 => ?_)
  rw [zGc6]
  refine zLetC (G := fun o => ∃ X' : KX, o = some X' ∧ bcM X X' 7 34) _ _ _ _ _ _ _ (fun Y17 y17 => ?_)
  rw [zGc6]
  refine zLetC (G := fun o => ∃ X' : KX, o = some X' ∧ bcM X X' 7 34) _ _ _ _ _ _ _ (fun Y18 y18 => ?_)
  rw [zGc6]
  refine zLetC (G := fun o => ∃ X' : KX, o = some X' ∧ bcM X X' 7 34) _ _ _ _ _ _ _ (fun Y19 y19 => ?_)
  refine ⟨Y19, rfl, fun q hq => ?_, fun j hj => ?_, fun i i1 i2 p hp => ?_, fun i i1 i2 p hp => ?_⟩
  · have n0 : q ≠ 7 := by omega
    have n1 : q ≠ 8 := by omega
    have n2 : q ≠ 9 := by omega
    have n3 : q ≠ 10 := by omega
    have n4 : q ≠ 11 := by omega
    have n5 : q ≠ 12 := by omega
    have n6 : q ≠ 13 := by omega
    have n7 : q ≠ 14 := by omega
    have n8 : q ≠ 15 := by omega
    funext b
    simp only [y1, y2, y3, y4, y5, y6, y7, y8, y9, y10, y11, y12, y13, y14, y15, y16, y17, y18, y19, n0, n1, n2, n3, n4, n5, n6, n7, n8, false_and, if_false]
  · have hj2 : j = 0 ∨ j = 1 ∨ j = 2 ∨ j = 3 ∨ j = 4 ∨ j = 5 ∨ j = 14 ∨ j = 15 ∨ j = 16 ∨ j = 17 ∨ j = 18 := by omega
    rcases hj2 with rfl | rfl | rfl | rfl | rfl | rfl | rfl | rfl | rfl | rfl | rfl <;> simp [y1, y2, y3, y4, y5, y6, y7, y8, y9, y10, y11, y12, y13, y14, y15, y16, y17, y18, y19]
  · have hi : i = 1 ∨ i = 2 ∨ i = 3 ∨ i = 4 := by omega
    rcases hi with rfl | rfl | rfl | rfl <;> simp [y1, y2, y3, y4, y5, y6, y7, y8, y9, y10, y11, y12, y13, y14, y15, y16, y17, y18, y19, hp]
  · have hi : i = 5 ∨ i = 6 ∨ i = 7 ∨ i = 8 := by omega
    rcases hi with rfl | rfl | rfl | rfl <;> simp [y1, y2, y3, y4, y5, y6, y7, y8, y9, y10, y11, y12, y13, y14, y15, y16, y17, y18, y19, hp]

theorem copies_6_8_v {n : Nat} (hn : 40000 ≤ n) (X : KX) {s d : Nat} (hs : s + 71 ≤ 71) (hd : d + 71 ≤ 1704) : ∃ X' : KX, f_X7_copies_6_8 n X (nI s) (nI d) = some X' ∧ (∀ c, c ≠ 8 → X' c = X c) ∧ (∀ j, j < 71 → X' 8 (d + j) = X 6 (s + j)) ∧ ∀ p, (p < d ∨ d + 71 ≤ p) → X' 8 p = X 8 p := by
  unfold f_X7_copies_6_8
  have h := loop_re (fun t i (Y : KX) => f_X7_copies_6_8_3 n t Y (nI s) (nI d) (nI i)) 71 (fun i Y => (∀ c, c ≠ 8 → Y c = X c) ∧ (∀ j, j < i → Y 8 (d + j) = X 6 (s + j)) ∧ ∀ p, (p < d ∨ d + 71 ≤ p) → Y 8 p = X 8 p) (fun o => ∃ X' : KX, o = some X' ∧ (∀ c, c ≠ 8 → X' c = X c) ∧ (∀ j, j < 71 → X' 8 (d + j) = X 6 (s + j)) ∧ ∀ p, (p < d ∨ d + 71 ≤ p) → X' 8 p = X 8 p) ?_ ?_ 71 0 X (by omega) ⟨fun _ _ => rfl, fun j hj => by omega, fun _ _ => rfl⟩ n (by omega)
  · exact h
  · intro i Y hi ⟨h1, h2, h3⟩
    refine ⟨zU Y 8 (d + i) (X 6 (s + i)), ⟨fun c hc => by rw [zU_o _ _ _ hc]; exact h1 c hc, fun j hj => ?_, fun p hp => ?_⟩, fun t => ?_⟩
    · rw [zU_s]
      by_cases e : d + j = d + i
      · have : j = i := by omega
        rw [this, up_s]
      · rw [up_o _ _ e]; exact h2 j (by omega)
    · rw [zU_s, up_o _ _ (by omega)]; exact h3 p hp
    · show f_X7_copies_6_8_3 n (t + 1) Y (nI s) (nI d) (nI i) = f_X7_copies_6_8_3 n t (zU Y 8 (d + i) (X 6 (s + i))) (nI s) (nI d) (nI (i + 1))
      rw [f_X7_copies_6_8_3, if_neg (fun q => by have := (nI_leI (a := 71) (by omega) (by omega)).mp q; omega), nI_add, nI_add, zGd_n _ (by omega) (by omega), zGd_n _ (by omega) (by omega), nI_cl _ (by omega), nI_cl _ (by omega), h1 6 (by decide)]
      simp only [zLet, nIp]
  · intro t Y h
    refine ⟨Y, ?_, h⟩
    show f_X7_copies_6_8_3 n (t + 1) Y (nI s) (nI d) (nI 71) = _
    rw [f_X7_copies_6_8_3, if_pos (show (71 : Int32) ≤ nI 71 from Int32.le_refl _)]

theorem copies_8_6_v {n : Nat} (hn : 40000 ≤ n) (X : KX) {s d : Nat} (hs : s + 71 ≤ 1704) (hd : d + 71 ≤ 71) : ∃ X' : KX, f_X7_copies_8_6 n X (nI s) (nI d) = some X' ∧ (∀ c, c ≠ 6 → X' c = X c) ∧ (∀ j, j < 71 → X' 6 (d + j) = X 8 (s + j)) ∧ ∀ p, (p < d ∨ d + 71 ≤ p) → X' 6 p = X 6 p := by
  unfold f_X7_copies_8_6
  have h := loop_re (fun t i (Y : KX) => f_X7_copies_8_6_3 n t Y (nI s) (nI d) (nI i)) 71 (fun i Y => (∀ c, c ≠ 6 → Y c = X c) ∧ (∀ j, j < i → Y 6 (d + j) = X 8 (s + j)) ∧ ∀ p, (p < d ∨ d + 71 ≤ p) → Y 6 p = X 6 p) (fun o => ∃ X' : KX, o = some X' ∧ (∀ c, c ≠ 6 → X' c = X c) ∧ (∀ j, j < 71 → X' 6 (d + j) = X 8 (s + j)) ∧ ∀ p, (p < d ∨ d + 71 ≤ p) → X' 6 p = X 6 p) ?_ ?_ 71 0 X (by omega) ⟨fun _ _ => rfl, fun j hj => by omega, fun _ _ => rfl⟩ n (by omega)
  · exact h
  · intro i Y hi ⟨h1, h2, h3⟩
    refine ⟨zU Y 6 (d + i) (X 8 (s + i)), ⟨fun c hc => by rw [zU_o _ _ _ hc]; exact h1 c hc, fun j hj => ?_, fun p hp => ?_⟩, fun t => ?_⟩
    · rw [zU_s]
      by_cases e : d + j = d + i
      · have : j = i := by omega
        rw [this, up_s]
      · rw [up_o _ _ e]; exact h2 j (by omega)
    · rw [zU_s, up_o _ _ (by omega)]; exact h3 p hp
    · show f_X7_copies_8_6_3 n (t + 1) Y (nI s) (nI d) (nI i) = f_X7_copies_8_6_3 n t (zU Y 6 (d + i) (X 8 (s + i))) (nI s) (nI d) (nI (i + 1))
      rw [f_X7_copies_8_6_3, if_neg (fun q => by have := (nI_leI (a := 71) (by omega) (by omega)).mp q; omega), nI_add, nI_add, zGd_n _ (by omega) (by omega), zGd_n _ (by omega) (by omega), nI_cl _ (by omega), nI_cl _ (by omega), h1 8 (by decide)]
      simp only [zLet, nIp]
  · intro t Y h
    refine ⟨Y, ?_, h⟩
    show f_X7_copies_8_6_3 n (t + 1) Y (nI s) (nI d) (nI 71) = _
    rw [f_X7_copies_8_6_3, if_pos (show (71 : Int32) ≤ nI 71 from Int32.le_refl _)]

theorem copies_6_9_v {n : Nat} (hn : 40000 ≤ n) (X : KX) {s d : Nat} (hs : s + 71 ≤ 71) (hd : d + 71 ≤ 142) : ∃ X' : KX, f_X7_copies_6_9 n X (nI s) (nI d) = some X' ∧ (∀ c, c ≠ 9 → X' c = X c) ∧ (∀ j, j < 71 → X' 9 (d + j) = X 6 (s + j)) ∧ ∀ p, (p < d ∨ d + 71 ≤ p) → X' 9 p = X 9 p := by
  unfold f_X7_copies_6_9
  have h := loop_re (fun t i (Y : KX) => f_X7_copies_6_9_3 n t Y (nI s) (nI d) (nI i)) 71 (fun i Y => (∀ c, c ≠ 9 → Y c = X c) ∧ (∀ j, j < i → Y 9 (d + j) = X 6 (s + j)) ∧ ∀ p, (p < d ∨ d + 71 ≤ p) → Y 9 p = X 9 p) (fun o => ∃ X' : KX, o = some X' ∧ (∀ c, c ≠ 9 → X' c = X c) ∧ (∀ j, j < 71 → X' 9 (d + j) = X 6 (s + j)) ∧ ∀ p, (p < d ∨ d + 71 ≤ p) → X' 9 p = X 9 p) ?_ ?_ 71 0 X (by omega) ⟨fun _ _ => rfl, fun j hj => by omega, fun _ _ => rfl⟩ n (by omega)
  · exact h
  · intro i Y hi ⟨h1, h2, h3⟩
    refine ⟨zU Y 9 (d + i) (X 6 (s + i)), ⟨fun c hc => by rw [zU_o _ _ _ hc]; exact h1 c hc, fun j hj => ?_, fun p hp => ?_⟩, fun t => ?_⟩
    · rw [zU_s]
      by_cases e : d + j = d + i
      · have : j = i := by omega
        rw [this, up_s]
      · rw [up_o _ _ e]; exact h2 j (by omega)
    · rw [zU_s, up_o _ _ (by omega)]; exact h3 p hp
    · show f_X7_copies_6_9_3 n (t + 1) Y (nI s) (nI d) (nI i) = f_X7_copies_6_9_3 n t (zU Y 9 (d + i) (X 6 (s + i))) (nI s) (nI d) (nI (i + 1))
      rw [f_X7_copies_6_9_3, if_neg (fun q => by have := (nI_leI (a := 71) (by omega) (by omega)).mp q; omega), nI_add, nI_add, zGd_n _ (by omega) (by omega), zGd_n _ (by omega) (by omega), nI_cl _ (by omega), nI_cl _ (by omega), h1 6 (by decide)]
      simp only [zLet, nIp]
  · intro t Y h
    refine ⟨Y, ?_, h⟩
    show f_X7_copies_6_9_3 n (t + 1) Y (nI s) (nI d) (nI 71) = _
    rw [f_X7_copies_6_9_3, if_pos (show (71 : Int32) ≤ nI 71 from Int32.le_refl _)]

theorem copies_9_6_v {n : Nat} (hn : 40000 ≤ n) (X : KX) {s d : Nat} (hs : s + 71 ≤ 142) (hd : d + 71 ≤ 71) : ∃ X' : KX, f_X7_copies_9_6 n X (nI s) (nI d) = some X' ∧ (∀ c, c ≠ 6 → X' c = X c) ∧ (∀ j, j < 71 → X' 6 (d + j) = X 9 (s + j)) ∧ ∀ p, (p < d ∨ d + 71 ≤ p) → X' 6 p = X 6 p := by
  unfold f_X7_copies_9_6
  have h := loop_re (fun t i (Y : KX) => f_X7_copies_9_6_3 n t Y (nI s) (nI d) (nI i)) 71 (fun i Y => (∀ c, c ≠ 6 → Y c = X c) ∧ (∀ j, j < i → Y 6 (d + j) = X 9 (s + j)) ∧ ∀ p, (p < d ∨ d + 71 ≤ p) → Y 6 p = X 6 p) (fun o => ∃ X' : KX, o = some X' ∧ (∀ c, c ≠ 6 → X' c = X c) ∧ (∀ j, j < 71 → X' 6 (d + j) = X 9 (s + j)) ∧ ∀ p, (p < d ∨ d + 71 ≤ p) → X' 6 p = X 6 p) ?_ ?_ 71 0 X (by omega) ⟨fun _ _ => rfl, fun j hj => by omega, fun _ _ => rfl⟩ n (by omega)
  · exact h
  · intro i Y hi ⟨h1, h2, h3⟩
    refine ⟨zU Y 6 (d + i) (X 9 (s + i)), ⟨fun c hc => by rw [zU_o _ _ _ hc]; exact h1 c hc, fun j hj => ?_, fun p hp => ?_⟩, fun t => ?_⟩
    · rw [zU_s]
      by_cases e : d + j = d + i
      · have : j = i := by omega
        rw [this, up_s]
      · rw [up_o _ _ e]; exact h2 j (by omega)
    · rw [zU_s, up_o _ _ (by omega)]; exact h3 p hp
    · show f_X7_copies_9_6_3 n (t + 1) Y (nI s) (nI d) (nI i) = f_X7_copies_9_6_3 n t (zU Y 6 (d + i) (X 9 (s + i))) (nI s) (nI d) (nI (i + 1))
      rw [f_X7_copies_9_6_3, if_neg (fun q => by have := (nI_leI (a := 71) (by omega) (by omega)).mp q; omega), nI_add, nI_add, zGd_n _ (by omega) (by omega), zGd_n _ (by omega) (by omega), nI_cl _ (by omega), nI_cl _ (by omega), h1 9 (by decide)]
      simp only [zLet, nIp]
  · intro t Y h
    refine ⟨Y, ?_, h⟩
    show f_X7_copies_9_6_3 n (t + 1) Y (nI s) (nI d) (nI 71) = _
    rw [f_X7_copies_9_6_3, if_pos (show (71 : Int32) ≤ nI 71 from Int32.le_refl _)]

theorem copies_7_6_v {n : Nat} (hn : 40000 ≤ n) (X : KX) {s d : Nat} (hs : s + 71 ≤ 71) (hd : d + 71 ≤ 71) : ∃ X' : KX, f_X7_copies_7_6 n X (nI s) (nI d) = some X' ∧ (∀ c, c ≠ 6 → X' c = X c) ∧ (∀ j, j < 71 → X' 6 (d + j) = X 7 (s + j)) ∧ ∀ p, (p < d ∨ d + 71 ≤ p) → X' 6 p = X 6 p := by
  unfold f_X7_copies_7_6
  have h := loop_re (fun t i (Y : KX) => f_X7_copies_7_6_3 n t Y (nI s) (nI d) (nI i)) 71 (fun i Y => (∀ c, c ≠ 6 → Y c = X c) ∧ (∀ j, j < i → Y 6 (d + j) = X 7 (s + j)) ∧ ∀ p, (p < d ∨ d + 71 ≤ p) → Y 6 p = X 6 p) (fun o => ∃ X' : KX, o = some X' ∧ (∀ c, c ≠ 6 → X' c = X c) ∧ (∀ j, j < 71 → X' 6 (d + j) = X 7 (s + j)) ∧ ∀ p, (p < d ∨ d + 71 ≤ p) → X' 6 p = X 6 p) ?_ ?_ 71 0 X (by omega) ⟨fun _ _ => rfl, fun j hj => by omega, fun _ _ => rfl⟩ n (by omega)
  · exact h
  · intro i Y hi ⟨h1, h2, h3⟩
    refine ⟨zU Y 6 (d + i) (X 7 (s + i)), ⟨fun c hc => by rw [zU_o _ _ _ hc]; exact h1 c hc, fun j hj => ?_, fun p hp => ?_⟩, fun t => ?_⟩
    · rw [zU_s]
      by_cases e : d + j = d + i
      · have : j = i := by omega
        rw [this, up_s]
      · rw [up_o _ _ e]; exact h2 j (by omega)
    · rw [zU_s, up_o _ _ (by omega)]; exact h3 p hp
    · show f_X7_copies_7_6_3 n (t + 1) Y (nI s) (nI d) (nI i) = f_X7_copies_7_6_3 n t (zU Y 6 (d + i) (X 7 (s + i))) (nI s) (nI d) (nI (i + 1))
      rw [f_X7_copies_7_6_3, if_neg (fun q => by have := (nI_leI (a := 71) (by omega) (by omega)).mp q; omega), nI_add, nI_add, zGd_n _ (by omega) (by omega), zGd_n _ (by omega) (by omega), nI_cl _ (by omega), nI_cl _ (by omega), h1 7 (by decide)]
      simp only [zLet, nIp]
  · intro t Y h
    refine ⟨Y, ?_, h⟩
    show f_X7_copies_7_6_3 n (t + 1) Y (nI s) (nI d) (nI 71) = _
    rw [f_X7_copies_7_6_3, if_pos (show (71 : Int32) ≤ nI 71 from Int32.le_refl _)]

/-! the same in 71 places -/
theorem eS_rf (S : Nat → Int32) : eS S S := fun _ _ => rfl
theorem eS_sym {S T : Nat → Int32} (h : eS S T) : eS T S := fun j hj => (h j hj).symm
theorem eS_tr {S T U : Nat → Int32} (h : eS S T) (k : eS T U) : eS S U := fun j hj => (h j hj).trans (k j hj)
theorem eS_up {S T : Nat → Int32} (h : eS S T) (k : Nat) (v : Int32) : eS (upd S k v) (upd T k v) := by
  intro j hj
  by_cases e : j = k
  · rw [e, up_s, up_s]
  · rw [up_o _ _ e, up_o _ _ e]; exact h j hj
theorem hV_e {S T : Nat → Int32} (h : eS S T) {k : Nat} (hk : k < 8) (hv : hV S k) : hV T k := by
  unfold hV at *
  rw [← h (9 + 4 * k) (by omega), ← h (10 + 4 * k) (by omega), ← h (11 + 4 * k) (by omega)]
  exact hv
theorem gV_e {S T : Nat → Int32} (h : eS S T) {k : Nat} (hk : k < 6) (hv : gV S k) : gV T k := by
  unfold gV at *
  rw [← h (41 + 5 * k) (by omega), ← h (42 + 5 * k) (by omega), ← h (43 + 5 * k) (by omega), ← h (44 + 5 * k) (by omega), ← h (45 + 5 * k) (by omega)]
  exact hv
theorem eV_e {S T : Nat → Int32} (h : eS S T) {G : Nat} (hG : G ≤ 6) (hv : eV S G) : eV T G := by
  unfold eV at *
  rw [← h 3 (by omega), ← h 4 (by omega), ← h 5 (by omega)]
  rcases hv with ⟨a, b, c⟩ | ⟨g0, a, b, c, d⟩
  · exact Or.inl ⟨a, b, fun g hg => by rw [← h (44 + 5 * g) (by omega)]; exact c g hg⟩
  · exact Or.inr ⟨g0, a, b, c, fun g hg => by rw [← h (44 + 5 * g) (by omega)]; exact d g hg⟩
theorem cV_e {S T : Nat → Int32} (h : eS S T) {lim q w H G ev : Nat} (hv : cV S lim q w H G ev) : cV T lim q w H G ev := by
  obtain ⟨a0, a1, a2, a7, a8, a4, a5, b1, b2, b3, b4, b5⟩ := hv
  refine ⟨by rw [← h 0 (by omega)]; exact a0, by rw [← h 1 (by omega)]; exact a1, by rw [← h 2 (by omega)]; exact a2, by rw [← h 7 (by omega)]; exact a7, by rw [← h 8 (by omega)]; exact a8, by rw [← h 4 (by omega)]; exact a4, by rw [← h 5 (by omega)]; exact a5, b1, b2, fun k hk => hV_e h (by omega) (b3 k hk), fun k hk => gV_e h (by omega) (b4 k hk), eV_e h a8.2 b5⟩
theorem CK_e {X : KX} {c : Nat} {S T : Nat → Int32} {H G : Nat} (h : eS S T) (hH : H ≤ 8) (hG : G ≤ 6) (hc : CK X c S H G) : CK X c T H G := by
  obtain ⟨⟨a3, a1, a2, a14, a16, a18, a17, a4, a5⟩, b, d, ⟨bb, e1, e2, e3⟩, f, g⟩ := hc
  refine ⟨⟨?_, ?_, ?_, ?_, ?_, ?_, ?_, ?_, ?_⟩, fun k hk => ?_, fun k hk => ?_, ⟨bb, e1, e2, fun k hk => ?_⟩, ?_, g⟩
  · rw [a3]; exact h 0 (by omega)
  · rw [a1]; exact h 1 (by omega)
  · rw [a2]; exact h 2 (by omega)
  · rw [a14]; exact h 3 (by omega)
  · rw [a16]; exact h 4 (by omega)
  · rw [a18]; exact h 5 (by omega)
  · rw [a17]; exact h 6 (by omega)
  · rw [a4]; exact h 7 (by omega)
  · rw [a5]; exact h 8 (by omega)
  · rw [← h (9 + 4 * k) (by omega), ← h (10 + 4 * k) (by omega), ← h (11 + 4 * k) (by omega), ← h (12 + 4 * k) (by omega)]
    exact b k hk
  · rw [← h (41 + 5 * k) (by omega), ← h (42 + 5 * k) (by omega), ← h (43 + 5 * k) (by omega), ← h (45 + 5 * k) (by omega)]
    exact d k hk
  · rw [e3 k hk, ← h (44 + 5 * k) (by omega)]
  · rw [f, ← h 0 (by omega)]
theorem lk_e {a b c : Int32} {S S' T T' : Nat → Int32} (hs : eS S S') (ht : eS T T') (h : lk a b c S T) : lk a b c S' T' := by
  have e : ∀ j, j < 71 → S' j = S j := fun j hj => (hs j hj).symm
  rcases h with ⟨w, g, G, s8, hg, hG, h1, s3, s4, s44, ht2⟩ | ⟨w, h, g, H, G, ev, s7, hh, hH, s8, hg, hG, s4, hev, htb, h1, s3, hb, m, ht2⟩ | ⟨w, g, G, s8, hg, hG, h1, s3, s5, s44, s45, hb, x, he, wv, hwv, ht2⟩ | ⟨w, g, G, s8, hg, hG, h1, hb, v, ht2⟩
  · exact Or.inl ⟨w, g, G, by rw [e 8 (by omega)]; exact s8, hg, hG, h1, by rw [e 3 (by omega)]; exact s3, by rw [e 4 (by omega)]; exact s4, by rw [e _ (by omega)]; exact s44, eS_tr (eS_sym ht) (eS_tr ht2 (eS_up (eS_up (eS_up hs _ _) _ _) _ _))⟩
  · refine Or.inr (Or.inl ⟨w, h, g, H, G, ev, by rw [e 7 (by omega)]; exact s7, hh, hH, by rw [e 8 (by omega)]; exact s8, hg, hG, by rw [e 4 (by omega)]; exact s4, hev, htb, h1, by rw [e 3 (by omega)]; exact s3, by rw [e _ (by omega)]; exact hb, m, ?_⟩)
    rw [e (12 + 4 * h) (by omega)]
    exact eS_tr (eS_sym ht) (eS_tr ht2 (eS_up (eS_up (eS_up hs _ _) _ _) _ _))
  · exact Or.inr (Or.inr (Or.inl ⟨w, g, G, by rw [e 8 (by omega)]; exact s8, hg, hG, h1, by rw [e 3 (by omega)]; exact s3, by rw [e 5 (by omega)]; exact s5, by rw [e _ (by omega)]; exact s44, by rw [e _ (by omega)]; exact s45, by rw [e 4 (by omega)]; exact hb, x, he, wv, by rw [e 6 (by omega), e 2 (by omega)]; exact hwv, eS_tr (eS_sym ht) (eS_tr ht2 (eS_up (eS_up (eS_up (eS_up (eS_up (eS_up hs _ _) _ _) _ _) _ _) _ _) _ _))⟩))
  · exact Or.inr (Or.inr (Or.inr ⟨w, g, G, by rw [e 8 (by omega)]; exact s8, hg, hG, h1, by rw [e _ (by omega)]; exact hb, v, eS_tr (eS_sym ht) (eS_tr ht2 (eS_up hs _ _))⟩))
theorem cVx_e {S T : Nat → Int32} (h : eS S T) (hv : cVx S) : cVx T := by
  obtain ⟨lim, q, w, H, G, ev, k⟩ := hv
  exact ⟨lim, q, w, H, G, ev, cV_e h k⟩
/-- the class's castle at c, once it became the one at d -/
theorem CK_bc {X X' : KX} {c d : Nat} {S : Nat → Int32} {H G : Nat} (hb : bcM X X' c d) (hH : H ≤ 8) (hG : G ≤ 6) (hc : CK X d S H G) : CK X' c S H G := by
  obtain ⟨_, b1, b2, b3⟩ := hb
  obtain ⟨⟨a3, a1, a2, a14, a16, a18, a17, a4, a5⟩, b, e, ⟨bb, e1, e2, e3⟩, f, g⟩ := hc
  refine ⟨⟨?_, ?_, ?_, ?_, ?_, ?_, ?_, ?_, ?_⟩, fun k hk => ?_, fun k hk => ?_, ⟨bb, e1, ?_, e3⟩, ?_, fun k hk hk2 => ?_⟩
  · rw [b1 3 (by omega)]; exact a3
  · rw [b1 1 (by omega)]; exact a1
  · rw [b1 2 (by omega)]; exact a2
  · rw [b1 14 (by omega)]; exact a14
  · rw [b1 16 (by omega)]; exact a16
  · rw [b1 18 (by omega)]; exact a18
  · rw [b1 17 (by omega)]; exact a17
  · rw [b1 4 (by omega)]; exact a4
  · rw [b1 5 (by omega)]; exact a5
  · rw [b2 1 (by omega) (by omega) k (by omega), b2 2 (by omega) (by omega) k (by omega), b2 3 (by omega) (by omega) k (by omega), b2 4 (by omega) (by omega) k (by omega)]
    exact b k hk
  · rw [b3 5 (by omega) (by omega) k (by omega), b3 6 (by omega) (by omega) k (by omega), b3 7 (by omega) (by omega) k (by omega), b3 8 (by omega) (by omega) k (by omega)]
    exact e k hk
  · rw [b1 15 (by omega)]; exact e2
  · rw [b1 0 (by omega)]; exact f
  · rw [b3 8 (by omega) (by omega) k hk]; exact g k hk hk2
