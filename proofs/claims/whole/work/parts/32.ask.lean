/-! asks -/
def trv (X M : KX) : Prop := ∃ k : Nat, k ≤ 16 ∧ X 49 1 = nI k ∧ M 0 20 = nI k ∧ ∀ i, i < k → X 50 i = M 11 i
def trF (X0 M0 X M : KX) : Prop := trv X M ∧ (∀ c, c ≠ 49 → c ≠ 50 → X c = X0 c) ∧ (∀ c, c ≠ 0 → c ≠ 11 → M c = M0 c) ∧ ∀ i, i ≠ 20 → M 0 i = M0 0 i
theorem begins_v {X0 M0 X M : KX} (h : trF X0 M0 X M) (a : Int32) : ∃ X' M' : KX, f_X1_leave X a = some X' ∧ f_X7_begins M a = some M' ∧ trF X0 M0 X' M' := by
  obtain ⟨⟨k, hk, e1, e2, e3⟩, h1, h2, h3⟩ := h
  unfold f_X1_leave f_X7_begins
  have c16 : ((16 : Int32) ≤ nI k) = (16 ≤ k) := propext (nI_leI (a := 16) (by omega) (by omega))
  simp only [e1, e2, c16]
  by_cases c : 16 ≤ k
  · rw [if_pos c, if_pos c]
    exact ⟨X, M, rfl, rfl, ⟨k, hk, e1, e2, e3⟩, h1, h2, h3⟩
  · rw [if_neg c, if_neg c, zGd_n _ (by omega) (by omega), zGd_n _ (by omega) (by omega), nI_cl k (by omega)]
    have x49 : (zU X 50 k a) 49 1 = nI k := e1
    have m20 : (zU M 11 k a) 0 20 = nI k := e2
    simp only [zLet, x49, m20, nIp]
    refine ⟨_, _, rfl, rfl, ⟨k + 1, by omega, rfl, rfl, fun i hi => ?_⟩, fun d d1 d2 => by rw [zU_o _ _ _ d1, zU_o _ _ _ d2]; exact h1 d d1 d2, fun d d1 d2 => by rw [zU_o _ _ _ d1, zU_o _ _ _ d2]; exact h2 d d1 d2, fun i hi => by rw [zU_s, up_o _ _ hi]; exact h3 i hi⟩
    have x50 : (zU (zU X 50 k a) 49 1 (nI (k + 1))) 50 = upd (X 50) k a := rfl
    have m11 : (zU (zU M 11 k a) 0 20 (nI (k + 1))) 11 = upd (M 11) k a := rfl
    rw [x50, m11]
    by_cases e : i = k
    · rw [e, up_s, up_s]
    · rw [up_o _ _ e, up_o _ _ e]; exact e3 i (by omega)
/-- one body: what it leaves, and where it goes on -/
theorem given_s {X0 : KX} {h : Nat} (h8 : h < 8) (t : Nat) (X X1 : KX) (b d : Int32) (hd : d < 8) (hl : f_X1_leave X b = some X1) : f_X1_given (t + 1) X b (nI h) d = (if b = 10 then (some (X1 11 h, X1)) else if b = 11 then (zB2 ((f_X1_given t) X1 10 (nI h) (d + 1)) (fun r_3 X_4 => zB2 ((f_X1_given t) X_4 (f_X1_markBody (X 8 h)) (nI h) (d + 1)) (fun r_5 X_6 => some (r_3 + r_5, X_6)))) else if b = 12 then (zB2 ((f_X1_given t) X1 11 (nI h) (d + 1)) (fun r_7 X_8 => some (-r_7, X_8))) else if b = 13 then (zB2 ((f_X1_given t) X1 10 (nI h) (d + 1)) (fun r_9 X_10 => some (r_9 - 100, X_10))) else if b = 14 then (zB2 ((f_X1_given t) X1 13 (nI h) (d + 1)) (fun r_11 X_12 => some (2 * r_11, X_12))) else if b = 15 then (some (0, X1)) else if b = 16 then (some (0, X1)) else if b = 17 then (some (0, X1)) else if b = 18 then (some (0, X1)) else if b = 19 then (some (0, X1)) else if b = 20 then (some (nI h, X1)) else if b = 21 then (zB2 ((f_X1_given t) X1 20 (nI h) (d + 1)) (fun r_13 X_14 => some (r_13 + (X_14 9 h), X_14))) else if b = 22 then (zB2 ((f_X1_given t) X1 21 (nI h) (d + 1)) (fun r_15 X_16 => some (r_15 - 1000, X_16))) else if b = 23 then (zB2 ((f_X1_given t) X1 20 (nI h) (d + 1)) (fun r_17 X_18 => zB2 ((f_X1_given t) X_18 (f_X1_sizeBody (X 8 h)) (nI h) (d + 1)) (fun r_19 X_20 => some (r_17 - r_19, X_20)))) else if b = 24 then (zB2 ((f_X1_given t) X1 21 (nI h) (d + 1)) (fun r_21 X_22 => some (2 * r_21, X_22))) else (some (0, X1))) := by
  have G8 : ∀ (α : Type) (e : Option α), zGd (nI h) 8 e = e := fun _ e => zGd_n e h8 (by decide)
  have ch : (nI h).toNatClampNeg = h := nI_cl h (by omega)
  rw [f_X1_given, if_pos hd]
  simp only [G8, ch, zLet, hl, zB1_s]
section ASK
variable {X0 M0 : KX} {h k f : Nat} {sh : Int32}
/-- a read of the castle stays -/
theorem k10 {X M : KX} (h8 : h < 8) (hF : trF X0 M0 X M) (t : Nat) (d : Int32) (hd : d < 8) (e : X0 11 h = sh) : ∃ X' M' : KX, f_X1_given (t + 1) X 10 (nI h) d = some (sh, X') ∧ f_X7_begins M 10 = some M' ∧ trF X0 M0 X' M' := by
  obtain ⟨X1, M1, l1, l2, F1⟩ := begins_v hF 10
  refine ⟨X1, M1, ?_, l2, F1⟩
  rw [given_s (X0 := X0) h8 t X X1 10 d hd l1, if_pos rfl, F1.2.1 11 (by decide) (by decide), e]
theorem k20 {X M : KX} (h8 : h < 8) (hF : trF X0 M0 X M) (t : Nat) (d : Int32) (hd : d < 8) : ∃ X' M' : KX, f_X1_given (t + 1) X 20 (nI h) d = some (nI h, X') ∧ f_X7_begins M 20 = some M' ∧ trF X0 M0 X' M' := by
  obtain ⟨X1, M1, l1, l2, F1⟩ := begins_v hF 20
  refine ⟨X1, M1, ?_, l2, F1⟩
  rw [given_s (X0 := X0) h8 t X X1 20 d hd l1]
  rfl
theorem k21 {X M : KX} (h8 : h < 8) (hF : trF X0 M0 X M) (t : Nat) (d : Int32) (hd : d < 8) (hd1 : d + 1 < 8) (e : X0 9 h = nI f) : ∃ X' M' : KX, f_X1_given (t + 2) X 21 (nI h) d = some (nI h + nI f, X') ∧ zB1 (f_X7_begins M 21) (fun X_1 => f_X7_begins X_1 20) = some M' ∧ trF X0 M0 X' M' := by
  obtain ⟨X1, M1, l1, l2, F1⟩ := begins_v hF 21
  obtain ⟨X2, M2, l3, l4, F2⟩ := k20 h8 F1 t (d + 1) hd1
  refine ⟨X2, M2, ?_, by rw [l2]; exact l4, F2⟩
  rw [given_s (X0 := X0) h8 (t + 1) X X1 21 d hd l1]
  simp only [show ¬ (21 : Int32) = 10 by decide, show ¬ (21 : Int32) = 11 by decide, show ¬ (21 : Int32) = 12 by decide, show ¬ (21 : Int32) = 13 by decide, show ¬ (21 : Int32) = 14 by decide, show ¬ (21 : Int32) = 15 by decide, show ¬ (21 : Int32) = 16 by decide, show ¬ (21 : Int32) = 17 by decide, show ¬ (21 : Int32) = 18 by decide, show ¬ (21 : Int32) = 19 by decide, show ¬ (21 : Int32) = 20 by decide, if_true, if_false, l3, zB2_s]
  rw [F2.2.1 9 (by decide) (by decide), e]
end ASK
/-- what the reference reads of a hint, in whatever world of this ask -/
theorem askM_f {X0 M0 X M : KX} {h : Nat} (h8 : h < 8) (hF : trF X0 M0 X M) (α : Type) (g : Int32 → Option α) : zGd ((9 + (4 * nI h)) + 1) 71 (g (M 6 ((9 + (4 * nI h)) + 1).toNatClampNeg)) = g (M0 6 (10 + 4 * h)) := by
  have i1 : (9 : Int32) + 4 * nI h + 1 = nI (10 + 4 * h) := by rw [ixh, show (1 : Int32) = nI 1 from rfl, nI_add, show 9 + 4 * h + 1 = 10 + 4 * h by omega]
  rw [i1, zGd_n _ (by omega) (by omega), nI_cl _ (by omega), hF.2.2.1 6 (by decide) (by decide)]
theorem askM_s {X0 M0 X M : KX} {h : Nat} (h8 : h < 8) (hF : trF X0 M0 X M) (α : Type) (g : Int32 → Option α) : zGd ((9 + (4 * nI h)) + 3) 71 (g (M 6 ((9 + (4 * nI h)) + 3).toNatClampNeg)) = g (M0 6 (12 + 4 * h)) := by
  have i3 : (9 : Int32) + 4 * nI h + 3 = nI (12 + 4 * h) := by rw [ixh, show (3 : Int32) = nI 3 from rfl, nI_add, show 9 + 4 * h + 3 = 12 + 4 * h by omega]
  rw [i3, zGd_n _ (by omega) (by omega), nI_cl _ (by omega), hF.2.2.1 6 (by decide) (by decide)]
theorem kindIn_F {X0 M0 X M : KX} {h : Nat} (h8 : h < 8) (hF : trF X0 M0 X M) : f_X7_kindIn M (nI h) = some (M0 6 (9 + 4 * h)) := by
  rw [kindIn_v h8, hF.2.2.1 6 (by decide) (by decide)]
/-- MARK of one that is silent -/
theorem smark_v {X0 M0 X M : KX} {h k f : Nat} (h8 : h < 8) (hF : trF X0 M0 X M) (e8 : X0 8 h = nI k) (m8 : M0 6 (9 + 4 * h) = nI k) (e9 : X0 9 h = nI f) (m9 : M0 6 (10 + 4 * h) = nI f) (hk : k = 1 ∨ k = 2 ∨ k = 3) (t : Nat) (d : Int32) (hd : d < 8) (hd1 : d + 1 < 8) (hd2 : d + 1 + 1 < 8) : ∃ (X' M' : KX) (r : Int32), f_X1_given (t + 3) X (f_X1_markBody (nI k)) (nI h) d = some (r, X') ∧ f_X7_silentMark M (nI h) = some (r, M') ∧ trF X0 M0 X' M' := by
  unfold f_X7_silentMark f_X7_silentMark_24 f_X7_silentMark_27
  rw [kindIn_F h8 hF, m8]
  simp only [zB1_s]
  have fin : ∀ {X M : KX}, trF X0 M0 X M → ∀ t d, d < 8 → d + 1 < 8 → ∃ (X' M' : KX), f_X1_given (t + 2) X 21 (nI h) d = some (nI h + nI f, X') ∧ (∀ (v2 : Int32), zB1 (f_X7_begins M 21) (fun X_1 => zB1 (f_X7_begins X_1 20) (fun X_2 => zGd ((9 + (4 * nI h)) + 1) 71 (zLet (nI h + (X_2 6 ((9 + (4 * nI h)) + 1).toNatClampNeg)) (fun v3_3 => if v2 = 2 then (some (2 * v3_3, X_2)) else (if v2 = 3 then (some (v3_3 - 1000, X_2)) else (some (v3_3, X_2))))))) = (if v2 = 2 then some (2 * (nI h + nI f), M') else if v2 = 3 then some (nI h + nI f - 1000, M') else some (nI h + nI f, M'))) ∧ trF X0 M0 X' M' := by
    intro X M hF t d hd hd1
    obtain ⟨X2, M2, l1, l2, F2⟩ := k21 (f := f) h8 hF t d hd hd1 e9
    refine ⟨X2, M2, l1, fun v2 => ?_, F2⟩
    obtain ⟨X5, M5, _, q1, F5⟩ := begins_v hF 21
    rw [q1] at l2 ⊢
    simp only [zB1_s] at l2 ⊢
    rw [l2]
    simp only [zB1_s]
    rw [askM_f h8 F2 _ (fun v => zLet (nI h + v) (fun v3_3 => if v2 = 2 then (some (2 * v3_3, M2)) else (if v2 = 3 then (some (v3_3 - 1000, M2)) else (some (v3_3, M2)))))]
    rw [m9]
    rfl
  rcases hk with rfl | rfl | rfl
  · obtain ⟨X2, M2, l1, l2, F2⟩ := fin hF (t + 1) d hd hd1
    exact ⟨X2, M2, nI h + nI f, l1, by rw [if_pos (show (nI 1 : Int32) = 1 from rfl), l2]; rfl, F2⟩
  · obtain ⟨X1, M1, q1, q2, F1⟩ := begins_v hF 24
    obtain ⟨X2, M2, l1, l2, F2⟩ := fin F1 t (d + 1) hd1 hd2
    refine ⟨X2, M2, 2 * (nI h + nI f), ?_, ?_, F2⟩
    · rw [show f_X1_markBody (nI 2) = 24 by decide, given_s (X0 := X0) h8 (t + 2) X X1 24 d hd q1]
      simp only [show ¬ (24 : Int32) = 10 by decide, show ¬ (24 : Int32) = 11 by decide, show ¬ (24 : Int32) = 12 by decide, show ¬ (24 : Int32) = 13 by decide, show ¬ (24 : Int32) = 14 by decide, show ¬ (24 : Int32) = 15 by decide, show ¬ (24 : Int32) = 16 by decide, show ¬ (24 : Int32) = 17 by decide, show ¬ (24 : Int32) = 18 by decide, show ¬ (24 : Int32) = 19 by decide, show ¬ (24 : Int32) = 20 by decide, show ¬ (24 : Int32) = 21 by decide, show ¬ (24 : Int32) = 22 by decide, show ¬ (24 : Int32) = 23 by decide, if_true, if_false, l1, zB2_s]
    · rw [if_neg (show ¬ (nI 2 : Int32) = 1 by decide), if_pos (show (nI 2 : Int32) = 2 from rfl), q2]
      simp only [zB1_s]
      rw [l2]
      rfl
  · obtain ⟨X1, M1, q1, q2, F1⟩ := begins_v hF 22
    obtain ⟨X2, M2, l1, l2, F2⟩ := fin F1 t (d + 1) hd1 hd2
    refine ⟨X2, M2, nI h + nI f - 1000, ?_, ?_, F2⟩
    · rw [show f_X1_markBody (nI 3) = 22 by decide, given_s (X0 := X0) h8 (t + 2) X X1 22 d hd q1]
      simp only [show ¬ (22 : Int32) = 10 by decide, show ¬ (22 : Int32) = 11 by decide, show ¬ (22 : Int32) = 12 by decide, show ¬ (22 : Int32) = 13 by decide, show ¬ (22 : Int32) = 14 by decide, show ¬ (22 : Int32) = 15 by decide, show ¬ (22 : Int32) = 16 by decide, show ¬ (22 : Int32) = 17 by decide, show ¬ (22 : Int32) = 18 by decide, show ¬ (22 : Int32) = 19 by decide, show ¬ (22 : Int32) = 20 by decide, show ¬ (22 : Int32) = 21 by decide, if_true, if_false, l1, zB2_s]
    · rw [if_neg (show ¬ (nI 3 : Int32) = 1 by decide), if_neg (show ¬ (nI 3 : Int32) = 2 by decide), q2]
      simp only [zB1_s]
      rw [l2]
      rfl
/-- SIZE of one that is mistaken -/
theorem msize_v {X0 M0 X M : KX} {h k : Nat} {sh : Int32} (h8 : h < 8) (hF : trF X0 M0 X M) (e8 : X0 8 h = nI k) (m8 : M0 6 (9 + 4 * h) = nI k) (e11 : X0 11 h = sh) (m11 : M0 6 (12 + 4 * h) = sh) (hk : k = 4 ∨ k = 5) (t : Nat) (d : Int32) (hd : d < 8) (hd1 : d + 1 < 8) (hd2 : d + 1 + 1 < 8) : ∃ (X' M' : KX) (r : Int32), f_X1_given (t + 3) X (f_X1_sizeBody (nI k)) (nI h) d = some (r, X') ∧ f_X7_mistakenSize M (nI h) = some (r, M') ∧ trF X0 M0 X' M' := by
  unfold f_X7_mistakenSize f_X7_mistakenSize_14 f_X7_mistakenSize_25
  rw [kindIn_F h8 hF, m8]
  simp only [zB1_s]
  have fin : ∀ {X M : KX}, trF X0 M0 X M → ∀ t d, d < 8 → d + 1 < 8 → ∃ (X' M' : KX), f_X1_given (t + 2) X 13 (nI h) d = some (sh - 100, X') ∧ (∀ (v2 : Int32), zB1 (f_X7_begins M 13) (fun X_1 => zB1 (f_X7_begins X_1 10) (fun X_2 => zGd ((9 + (4 * nI h)) + 3) 71 (zLet ((X_2 6 ((9 + (4 * nI h)) + 3).toNatClampNeg) - 100) (fun v3_3 => if v2 = 0 then (some (v3_3, X_2)) else (some (2 * v3_3, X_2)))))) = (if v2 = 0 then some (sh - 100, M') else some (2 * (sh - 100), M'))) ∧ trF X0 M0 X' M' := by
    intro X M hF t d hd hd1
    obtain ⟨X1, M1, q1, q2, F1⟩ := begins_v hF 13
    obtain ⟨X2, M2, l1, l2, F2⟩ := k10 (sh := sh) h8 F1 t (d + 1) hd1 e11
    refine ⟨X2, M2, ?_, fun v2 => ?_, F2⟩
    · rw [given_s (X0 := X0) h8 (t + 1) X X1 13 d hd q1]
      simp only [show ¬ (13 : Int32) = 10 by decide, show ¬ (13 : Int32) = 11 by decide, show ¬ (13 : Int32) = 12 by decide, if_true, if_false, l1, zB2_s]
    · rw [q2]
      simp only [zB1_s]
      rw [l2]
      simp only [zB1_s]
      rw [askM_s h8 F2 _ (fun v => zLet (v - 100) (fun v3_3 => if v2 = 0 then (some (v3_3, M2)) else (some (2 * v3_3, M2)))), m11]
      rfl
  rcases hk with rfl | rfl
  · obtain ⟨X2, M2, l1, l2, F2⟩ := fin hF (t + 1) d hd hd1
    exact ⟨X2, M2, sh - 100, l1, by rw [if_neg (show ¬ (nI 4 : Int32) = 5 by decide)]; have q := l2 0; simp only [eq_self_iff_true, if_true] at q ⊢; exact q, F2⟩
  · obtain ⟨X1, M1, q1, q2, F1⟩ := begins_v hF 14
    obtain ⟨X2, M2, l1, l2, F2⟩ := fin F1 t (d + 1) hd1 hd2
    refine ⟨X2, M2, 2 * (sh - 100), ?_, ?_, F2⟩
    · rw [show f_X1_sizeBody (nI 5) = 14 by decide, given_s (X0 := X0) h8 (t + 2) X X1 14 d hd q1]
      simp only [show ¬ (14 : Int32) = 10 by decide, show ¬ (14 : Int32) = 11 by decide, show ¬ (14 : Int32) = 12 by decide, show ¬ (14 : Int32) = 13 by decide, if_true, if_false, l1, zB2_s]
    · rw [if_pos (show (nI 5 : Int32) = 5 from rfl), if_neg (show ¬ (1 : Int32) = 0 by decide), q2]
      simp only [zB1_s]
      rw [l2]
      rfl
theorem op_ask {N : Nat} : zOp_ask N Sim := by
  intro X M hS a1 a2
  obtain ⟨lim, q, w, H, G, ev, hV1, hC⟩ := hS.2.2.2.2.1
  obtain ⟨_, _, _, ⟨s7, hH⟩, _, _, _, _, _, hhs, _, _⟩ := hV1
  unfold f_X6_ask f_X7_ask
  rcases isHint_v hH (hC.1.2.2.2.2.2.2.2.1.trans s7) s7 a1 with ⟨h, hh, rfl, e1, e2⟩ | ⟨e1, e2⟩
  rotate_left
  · simp only [e1, e2, zLet, zB1_s, zB2_s, z10, eq_self_iff_true, if_true, if_false]
    exact ⟨_, X, M, rfl, rfl, hS⟩
  have h8 : h < 8 := by omega
  simp only [e1, e2, zLet, zB1_s, zB2_s, z10, eq_self_iff_true, if_true, if_false]
  rcases rg a2 2 (by decide) with ⟨wh, hw, rfl⟩ | h1
  rotate_left
  · simp only [bel2_f h1, in2_f h1, zLet, zB1_s, zB2_s, z10, eq_self_iff_true, if_true, if_false]
    exact ⟨_, X, M, rfl, rfl, hS⟩
  simp only [bel2_t hw, in2_t hw, zLet, zB1_s, zB2_s, z10, eq_self_iff_true, if_true, if_false]
  obtain ⟨y1, y2, y3, y4⟩ := hC.2.1 h hh
  obtain ⟨k, f, t2, f1, k1, k2, f2, hf, f3, ht2, hne⟩ := hhs h hh
  have e8 : X 8 h = nI k := y1.trans f1
  have e9 : X 9 h = nI f := y2.trans f2
  have e11 : X 11 h = M 6 (12 + 4 * h) := y4
  -- the worlds with an empty trace
  have hF : trF X M (zU X 49 1 0) (zU M 0 20 0) := ⟨⟨0, by omega, rfl, rfl, fun i hi => by omega⟩, fun c c1 _ => zU_o _ _ _ c1, fun c c0 _ => zU_o _ _ _ c0, fun i hi => by rw [zU_s, up_o _ _ hi]⟩
  have done : ∀ {r : Int32} {X' M' : KX}, trF X M X' M' → Sim X' M' := by
    intro r X' M' hF'
    obtain ⟨hR, hT, hTr, hSt, hNw, hDr, ⟨hI0, hI1⟩, hA⟩ := hS
    obtain ⟨t1, t2, t3, t4⟩ := hF'
    have gx : ∀ c, c < 49 → X' c = X c := fun c hc => t2 c (by omega) (by omega)
    exact ⟨rwS_c (gx 2 (by decide)) (gx 3 (by decide)) (gx 4 (by decide)) (t3 1 (by decide) (by decide)) (t3 2 (by decide) (by decide)) (t3 3 (by decide) (by decide)) hR, tpS_c (by rw [gx 5 (by decide)]) (gx 6 (by decide)) (t4 6 (by decide)) (t3 5 (by decide) (by decide)) hT, t1, stS_c (by rw [gx 0 (by decide)]) (by rw [gx 0 (by decide)]) (t4 4 (by decide)) (t4 7 (by decide)) hSt, nwS_c (fun k h1 h2 => gx k (by omega)) (t3 6 (by decide) (by decide)) hNw, drS_c (gx 16 (by decide)) (gx 20 (by decide)) (gx 24 (by decide)) hDr, ⟨imS_c (fun k h1 h2 => gx k (by omega)) (t3 10 (by decide) (by decide)) (t3 9 (by decide) (by decide)) hI0, imS_c (fun k h1 h2 => gx k (by omega)) (t3 10 (by decide) (by decide)) (t3 9 (by decide) (by decide)) hI1⟩, acS_c (by rw [gx 43 (by decide)]) (by rw [gx 43 (by decide)]) (gx 44 (by decide)) (gx 45 (by decide)) (gx 46 (by decide)) (t4 16 (by decide)) (t3 8 (by decide) (by decide)) (t3 6 (by decide) (by decide)) hA⟩
  have main : ∃ (X' M' : KX) (r : Int32), zB2 (f_X1_answer X (nI h) (nI wh)) (fun r_1 X_2 => some (r_1, X_2)) = some (r, X') ∧ zB1 (f_X7_kindIn (zU M 0 20 0) (nI h)) (fun r_3 => if r_3 < 4 then (f_X7_ask_39 (zU M 0 20 0) 0 (nI h) (nI wh)) else (f_X7_ask_39 (zU M 0 20 0) 1 (nI h) (nI wh))) = some (r, M') ∧ trF X M X' M' := by
    unfold f_X1_answer f_X1_answer_32 f_X7_ask_39
    rw [kindIn_F h8 hF, f1, zGd_n _ h8 (by omega), nI_cl h (by omega), e8]
    simp only [zLet, zB1_s, show (nI k < (4 : Int32)) = (k < 4) from propext (nI_ltI (b := 4) (by omega) (by omega))]
    have z2 : ∀ (o : Option (Int32 × KX)) (r : Int32) (Y : KX), o = some (r, Y) → zB2 (zB2 o (fun r_1 X_2 => some (r_1, X_2))) (fun r_1 X_2 => some (r_1, X_2)) = some (r, Y) := fun o r Y h => by rw [h]; rfl
    have z1 : ∀ (o : Option (Int32 × KX)) (r : Int32) (Y : KX), o = some (r, Y) → zB2 o (fun r_1 X_2 => some (r_1, X_2)) = some (r, Y) := fun o r Y h => by rw [h]; rfl
    by_cases c4 : k < 4
    · simp only [if_pos c4, if_true]
      match wh, hw with
      | 0, _ =>
        simp only [show (nI 0 : Int32) = 0 from rfl, if_true]
        -- SIZE of a silent one: 12 ahead of 11, if it is sung
        have fin : ∀ {X1 M1 : KX}, trF X M X1 M1 → ∀ t d, d < 8 → d + 1 < 8 → d + 1 + 1 < 8 → d + 1 + 1 + 1 < 8 → ∃ (X' M' : KX) (r : Int32), f_X1_given (t + 4) X1 11 (nI h) d = some (M 6 (12 + 4 * h) + r, X') ∧ (∀ v2 : Int32, f_X7_silentSize_25 M1 (nI h) v2 = (if v2 = 0 then some (M 6 (12 + 4 * h) + r, M') else some (-(M 6 (12 + 4 * h) + r), M'))) ∧ trF X M X' M' := by
          intro X1 M1 F1 t d d0 d1 d2 d3
          obtain ⟨X2, M2, q1, q2, F2⟩ := begins_v F1 11
          obtain ⟨X3, M3, q3, q4, F3⟩ := k10 (sh := M 6 (12 + 4 * h)) h8 F2 (t + 2) (d + 1) d1 e11
          obtain ⟨X4, M4, r, q5, q6, F4⟩ := smark_v h8 F3 e8 f1 e9 f2 (show k = 1 ∨ k = 2 ∨ k = 3 by omega) t (d + 1) d1 d2 d3
          refine ⟨X4, M4, r, ?_, fun v2 => ?_, F4⟩
          · rw [given_s (X0 := X) h8 (t + 3) X1 X2 11 d d0 q1, show X1 8 h = nI k by rw [F1.2.1 8 (by decide) (by decide), e8]]
            simp only [show ¬ (11 : Int32) = 10 by decide, if_true, if_false, q3, q5, zB2_s]
          · unfold f_X7_silentSize_25
            rw [q2]
            simp only [zB1_s]
            rw [q4]
            simp only [zB1_s]
            rw [askM_s h8 F3 _ (fun v => zB2 (f_X7_silentMark M3 (nI h)) (fun r_3 X_4 => zLet (v + r_3) (fun v3_5 => if v2 = 0 then (some (v3_5, X_4)) else (some (-v3_5, X_4))))), q6]
            rfl
        unfold f_X7_silentSize f_X7_silentSize_14
        rw [kindIn_F h8 hF, f1]
        simp only [zB1_s]
        by_cases ck : k = 2
        · subst ck
          obtain ⟨X2, M2, q1, q2, F2⟩ := begins_v hF 12
          obtain ⟨X4, M4, r, q5, q6, F4⟩ := fin F2 5 (0 + 1) (by decide) (by decide) (by decide) (by decide)
          refine ⟨X4, M4, -(M 6 (12 + 4 * h) + r), z2 _ _ _ ?_, z1 _ _ _ ?_, F4⟩
          · rw [show f_X1_sizeBody (nI 2) = 12 by decide, given_s (X0 := X) h8 9 (zU X 49 1 0) X2 12 0 (by decide) q1]
            simp only [show ¬ (12 : Int32) = 10 by decide, show ¬ (12 : Int32) = 11 by decide, if_true, if_false, q5, zB2_s]
          · rw [if_pos (show (nI 2 : Int32) = 2 from rfl), if_neg (show ¬ (1 : Int32) = 0 by decide), q2]
            simp only [zB1_s]
            rw [q6, if_neg (by decide)]
        · obtain ⟨X4, M4, r, q5, q6, F4⟩ := fin hF 6 0 (by decide) (by decide) (by decide) (by decide)
          refine ⟨X4, M4, M 6 (12 + 4 * h) + r, z2 _ _ _ ?_, z1 _ _ _ ?_, F4⟩
          · have : f_X1_sizeBody (nI k) = 11 := by
              rcases (show k = 1 ∨ k = 3 by omega) with rfl | rfl <;> decide
            rw [this]; exact q5
          · rw [if_neg (show ¬ (nI k : Int32) = 2 from fun z => ck (nI_inj (b := 2) (by omega) (by omega) z))]; have q := q6 0; simp only [eq_self_iff_true, if_true] at q ⊢; exact q
      | 1, _ =>
        simp only [show ¬ (nI 1 : Int32) = 0 by decide, if_false]
        obtain ⟨X4, M4, r, q5, q6, F4⟩ := smark_v h8 hF e8 f1 e9 f2 (show k = 1 ∨ k = 2 ∨ k = 3 by omega) 7 0 (by decide) (by decide) (by decide)
        exact ⟨X4, M4, r, z2 _ _ _ q5, z1 _ _ _ q6, F4⟩
    · simp only [if_neg c4, show ¬ (1 : Int32) = 0 by decide, if_false]
      have hk45 : k = 4 ∨ k = 5 := by omega
      match wh, hw with
      | 0, _ =>
        simp only [show (nI 0 : Int32) = 0 from rfl, if_true]
        obtain ⟨X4, M4, r, q5, q6, F4⟩ := msize_v h8 hF e8 f1 e11 rfl hk45 7 0 (by decide) (by decide) (by decide)
        exact ⟨X4, M4, r, z2 _ _ _ q5, z1 _ _ _ q6, F4⟩
      | 1, _ =>
        simp only [show ¬ (nI 1 : Int32) = 0 by decide, if_false]
        unfold f_X7_mistakenMark
        obtain ⟨X2, M2, q1, q2, F2⟩ := begins_v hF 23
        obtain ⟨X3, M3, q3, q4, F3⟩ := k20 h8 F2 8 (0 + 1) (by decide)
        obtain ⟨X4, M4, r, q5, q6, F4⟩ := msize_v h8 F3 e8 f1 e11 rfl hk45 6 (0 + 1) (by decide) (by decide) (by decide)
        refine ⟨X4, M4, nI h - r, z2 _ _ _ ?_, z1 _ _ _ ?_, F4⟩
        · have hb : f_X1_markBody (nI k) = 23 := by
            rcases hk45 with rfl | rfl <;> decide
          rw [hb, given_s (X0 := X) h8 9 (zU X 49 1 0) X2 23 0 (by decide) q1, show (zU X 49 1 0) 8 h = nI k from e8]
          simp only [show ¬ (23 : Int32) = 10 by decide, show ¬ (23 : Int32) = 11 by decide, show ¬ (23 : Int32) = 12 by decide, show ¬ (23 : Int32) = 13 by decide, show ¬ (23 : Int32) = 14 by decide, show ¬ (23 : Int32) = 15 by decide, show ¬ (23 : Int32) = 16 by decide, show ¬ (23 : Int32) = 17 by decide, show ¬ (23 : Int32) = 18 by decide, show ¬ (23 : Int32) = 19 by decide, show ¬ (23 : Int32) = 20 by decide, show ¬ (23 : Int32) = 21 by decide, show ¬ (23 : Int32) = 22 by decide, if_true, if_false, q3, q5, zB2_s]
        · rw [q2]
          simp only [zB1_s]
          rw [q4]
          simp only [zB1_s]
          rw [q6]
          rfl
  obtain ⟨X', M', r, m1, m2, hF'⟩ := main
  exact ⟨r, X', M', m1, m2, done (r := r) hF'⟩
