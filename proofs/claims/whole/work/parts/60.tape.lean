/-! the tape, token by token -/
def tpB (X M : KX) (k : Nat) (b : Nat → Nat) : Prop := X 5 1 = nI k ∧ M 0 6 = nI k ∧ k ≤ 120 ∧ ∀ i, i < k → b i < 256 ∧ X 6 i = nI (b i) ∧ M 5 i = nI (b i)
def dg (c : Nat) : Prop := 48 ≤ c ∧ c ≤ 57
def vl (b : Nat → Nat) (p e : Nat) : Nat := if e = p + 1 then b p - 48 else 10 * (b p - 48) + (b (p + 1) - 48)
def rn (k : Nat) (b : Nat → Nat) (p e : Nat) : Prop := p < e ∧ e ≤ k ∧ (∀ i, p ≤ i → i < e → dg (b i)) ∧ (e < k → ¬ dg (b e))
def tkS (M : KX) (k : Nat) (b : Nat → Nat) (p : Nat) : Prop := M 0 10 = nI p ∧ p ≤ k ∧
  ((k ≤ p ∧ M 0 11 = 0 ∧ M 0 12 = -1 ∧ M 0 9 = nI p) ∨
   (p < k ∧ ¬ dg (b p) ∧ M 0 12 = nI (b p) ∧ M 0 9 = nI (p + 1) ∧ M 0 11 = (if 97 ≤ b p ∧ b p ≤ 122 then 1 else if b p = 44 then 3 else if b p = 59 then 4 else 5)) ∨
   (p < k ∧ ∃ e, rn k b p e ∧ M 0 9 = nI e ∧ M 0 11 = (if e < p + 3 then 2 else 5) ∧ M 0 12 = nI (vl b p e)))
theorem inr_v {c lo hi : Nat} (hc : c < 2 ^ 31) (hl : lo < 2 ^ 31) (hh : hi < 2 ^ 31) : f_X7_in (nI c) (nI lo) (nI hi) = (if lo ≤ c ∧ c ≤ hi then 1 else 0) := by
  unfold f_X7_in
  by_cases c1 : c < lo
  · rw [if_pos (by rw [nI_ltI hc hl]; exact c1), if_neg (by omega)]
  · rw [if_neg (by rw [nI_ltI hc hl]; exact c1)]
    by_cases c2 : hi < c
    · rw [if_pos (by rw [nI_ltI hh hc]; exact c2), if_neg (by omega)]
    · rw [if_neg (by rw [nI_ltI hh hc]; exact c2), if_pos (by omega)]
theorem byte_v {X M : KX} {k : Nat} {b : Nat → Nat} (h : tpB X M k b) {p : Nat} (hp : p ≤ 120) : f_X7_byteAt M (nI p) = some (if p < k then nI (b p) else -1) := by
  obtain ⟨_, h2, h3, h4⟩ := h
  unfold f_X7_byteAt
  rw [h2]
  by_cases c : p < k
  · rw [if_neg (by rw [le_n (by omega) (by omega)]; omega), zGd_n _ (show p < 120 by omega) (by decide), nI_cl p (by omega), (h4 p c).2.2, if_pos c]
  · rw [if_pos (by rw [le_n (by omega) (by omega)]; omega), if_neg c]
theorem lett_v {X M : KX} {k p : Nat} {b : Nat → Nat} (h : tpB X M k b) (hx : X 5 2 = nI p) (hp : p ≤ 120) : f_X5_letter X = some (if p < k then nI (b p) else -1) := by
  obtain ⟨h1, _, h3, h4⟩ := h
  unfold f_X5_letter
  rw [h1, hx]
  by_cases c : p < k
  · rw [if_neg (by rw [le_n (by omega) (by omega)]; omega), zGd_n _ (show p < 120 by omega) (by decide), nI_cl p (by omega), (h4 p c).2.1, if_pos c]
  · rw [if_pos (by rw [le_n (by omega) (by omega)]; omega), if_neg c]
/-- what one step of the model leaves alone -/
def aF (M' M : KX) : Prop := (∀ c, c ≠ 0 → M' c = M c) ∧ ∀ i, i ≠ 9 → i ≠ 10 → i ≠ 11 → i ≠ 12 → M' 0 i = M 0 i
theorem aF_rf (M : KX) : aF M M := ⟨fun _ _ => rfl, fun _ _ _ _ _ => rfl⟩
theorem aF_u {M' M : KX} (h : aF M' M) (i : Nat) (v : Int32) (hi : i = 9 ∨ i = 10 ∨ i = 11 ∨ i = 12) : aF (zU M' 0 i v) M := ⟨fun c hc => by rw [zU_o _ _ _ hc]; exact h.1 c hc, fun j j1 j2 j3 j4 => by rw [zU_s, up_o _ _ (by omega)]; exact h.2 j j1 j2 j3 j4⟩
theorem tpB_a {X M M' : KX} {k : Nat} {b : Nat → Nat} (h : tpB X M k b) (hf : aF M' M) : tpB X M' k b := by
  obtain ⟨h1, h2, h3, h4⟩ := h
  refine ⟨h1, by rw [hf.2 6 (by decide) (by decide) (by decide) (by decide)]; exact h2, h3, fun i hi => by rw [hf.1 5 (by decide)]; exact h4 i hi⟩
theorem adv38_v {N : Nat} (hN : 40000 ≤ N) {X M : KX} {k : Nat} {b : Nat → Nat} (h : tpB X M k b) {p : Nat} (hp : p < k) : ∀ j a, a + j = k → p ≤ a → (∀ i, p ≤ i → i < a → dg (b i)) → ∀ t, j < t → ∀ M1 : KX, aF M1 M → M1 0 10 = nI p → M1 0 9 = nI a → M1 0 12 = nI (if a = p then 0 else vl b p a) → (p < a ∨ dg (b p)) → ∃ M' : KX, f_X7_advances_38 N t M1 = some M' ∧ aF M' M ∧ tkS M' k b p := by
  have hk := h.2.2.1
  have fin : ∀ a, p < a → a ≤ k → (∀ i, p ≤ i → i < a → dg (b i)) → (a < k → ¬ dg (b a)) → ∀ M1 : KX, aF M1 M → M1 0 10 = nI p → M1 0 9 = nI a → M1 0 12 = nI (vl b p a) → ∃ M' : KX, (if 3 ≤ M1 0 9 - M1 0 10 then f_X7_advances_131 N M1 5 else f_X7_advances_131 N M1 2) = some M' ∧ aF M' M ∧ tkS M' k b p := by
    intro a h1 h2 h3 h4 M1 f1 f2 f3 f4
    unfold f_X7_advances_131
    rw [f3, f2, sub_n (by omega)]
    have mk : ∀ v : Int32, v = (if a < p + 3 then 2 else 5) → tkS (zU M1 0 11 v) k b p := fun v hv => ⟨by rw [zU_s, up_o _ _ (by decide)]; exact f2, by omega, Or.inr (Or.inr ⟨hp, a, ⟨h1, h2, h3, h4⟩, by rw [zU_s, up_o _ _ (by decide)]; exact f3, by rw [zU_s, up_s]; exact hv, by rw [zU_s, up_o _ _ (by decide)]; exact f4⟩)⟩
    by_cases c : 3 ≤ a - p
    · rw [if_pos (by rw [show (3 : Int32) = nI 3 from rfl, le_n (by omega) (by omega)]; exact c)]
      exact ⟨_, rfl, aF_u f1 11 _ (by omega), mk 5 (by rw [if_neg (by omega)])⟩
    · rw [if_neg (by rw [show (3 : Int32) = nI 3 from rfl, le_n (by omega) (by omega)]; exact c)]
      exact ⟨_, rfl, aF_u f1 11 _ (by omega), mk 2 (by rw [if_pos (by omega)])⟩
  intro j
  induction j with
  | zero =>
    intro a ha hpa hd t ht M1 f1 f2 f3 f4 f5
    obtain ⟨t, rfl⟩ : ∃ u, t = u + 1 := ⟨t - 1, by omega⟩
    unfold f_X7_advances_38
    rw [f3, byte_v (tpB_a h f1) (by omega), if_neg (by omega)]
    simp only [zB1_s]
    rw [show f_X7_in (-1) 48 57 = 0 by decide, if_pos rfl, ← f3]
    rw [if_neg (by omega)] at f4
    exact fin a (by omega) (by omega) hd (fun z => by omega) M1 f1 f2 f3 f4
  | succ j ih =>
    intro a ha hpa hd t ht M1 f1 f2 f3 f4 f5
    obtain ⟨t, rfl⟩ : ∃ u, t = u + 1 := ⟨t - 1, by omega⟩
    have hak : a < k := by omega
    have hb := (h.2.2.2 a hak).1
    unfold f_X7_advances_38
    rw [f3, byte_v (tpB_a h f1) (by omega), if_pos hak]
    simp only [zB1_s]
    rw [show f_X7_in (nI (b a)) 48 57 = _ from inr_v (c := b a) (lo := 48) (hi := 57) (by omega) (by decide) (by decide)]
    by_cases c : 48 ≤ b a ∧ b a ≤ 57
    · rw [if_pos c, if_neg (by decide), f2, sub_n hpa]
      unfold f_X7_advances_96
      have hd' : ∀ i, p ≤ i → i < a + 1 → dg (b i) := fun i i1 i2 => by
        rcases Nat.lt_or_eq_of_le (Nat.le_of_lt_succ i2) with z | z
        · exact hd i i1 z
        · rw [z]; exact c
      have next : ∀ v : Int32, v = nI (vl b p (a + 1)) → ∃ M' : KX, f_X7_advances_38 N t (zU (zU M1 0 12 v) 0 9 ((zU M1 0 12 v) 0 9 + 1)) = some M' ∧ aF M' M ∧ tkS M' k b p := by
        intro v hv
        refine ih (a + 1) (by omega) (by omega) hd' t (by omega) _ (aF_u (aF_u f1 12 _ (by omega)) 9 _ (by omega)) ?_ ?_ ?_ (Or.inl (by omega))
        · rw [zU_s, up_o _ _ (by decide), zU_s, up_o _ _ (by decide)]; exact f2
        · rw [zU_s, up_s, zU_s, up_o _ _ (by decide), f3, nIp]
        · rw [zU_s, up_o _ _ (by decide), zU_s, up_s, hv, if_neg (by omega)]
      by_cases c2 : 2 ≤ a - p
      · rw [if_pos (by rw [show (2 : Int32) = nI 2 from rfl, le_n (by omega) (by omega)]; exact c2)]
        rw [if_neg (by omega)] at f4
        have e : vl b p a = vl b p (a + 1) := by unfold vl; rw [if_neg (by omega), if_neg (by omega)]
        exact next _ (by rw [f4, e])
      · rw [if_neg (by rw [show (2 : Int32) = nI 2 from rfl, le_n (by omega) (by omega)]; exact c2)]
        refine next _ ?_
        rw [f4, show (10 : Int32) = nI 10 from rfl, pk_mul, nI_add, show (48 : Int32) = nI 48 from rfl, sub_n (by omega)]
        congr 1
        by_cases e : a = p
        · subst e
          rw [if_pos rfl]; unfold vl; rw [if_pos rfl]; omega
        · have e2 : a = p + 1 := by omega
          subst e2
          have := hd p (by omega) (by omega)
          unfold dg at this
          rw [if_neg e]; unfold vl; rw [if_pos rfl, if_neg (by omega)]; omega
    · rw [if_neg c, if_pos rfl, ← f3]
      have hpa2 : p < a := by
        rcases f5 with z | z
        · exact z
        · rcases Nat.lt_or_eq_of_le hpa with y | y
          · exact y
          · rw [y] at z; exact absurd z c
      rw [if_neg (by omega)] at f4
      exact fin a hpa2 (by omega) hd (fun _ => c) M1 f1 f2 f3 f4
theorem adv_v {N : Nat} (hN : 40000 ≤ N) {X M : KX} {k : Nat} {b : Nat → Nat} (h : tpB X M k b) {p : Nat} (hp : p ≤ k) (h9 : M 0 9 = nI p) : ∃ M' : KX, f_X7_advances N M = some M' ∧ aF M' M ∧ tkS M' k b p := by
  have hk := h.2.2.1
  have f1 : aF (zU M 0 10 (M 0 9)) M := aF_u (aF_rf M) 10 _ (by omega)
  unfold f_X7_advances
  have e9 : (zU M 0 10 (M 0 9)) 0 9 = nI p := h9
  have e10 : (zU M 0 10 (M 0 9)) 0 10 = nI p := h9
  simp only [zLet, e9]
  rw [byte_v (tpB_a h f1) (by omega)]
  simp only [zB1_s]
  by_cases c : p < k
  · rw [if_pos c]
    have hb := (h.2.2.2 p c).1
    rw [show f_X7_in (nI (b p)) 48 57 = _ from inr_v (c := b p) (lo := 48) (hi := 57) (by omega) (by decide) (by decide)]
    by_cases d : 48 ≤ b p ∧ b p ≤ 57
    · rw [if_pos d, if_neg (by decide)]
      exact adv38_v hN h c (k - p) p (by omega) (Nat.le_refl _) (fun i i1 i2 => by omega) N (by omega) _ (aF_u (aF_u f1 12 _ (by omega)) 12 _ (by omega)) e10 e9 (by rw [if_pos rfl]; rfl) (Or.inr d)
    · rw [if_neg d, if_pos rfl, if_pos (nI_pos' (by omega)), show f_X7_in (nI (b p)) 97 122 = _ from inr_v (c := b p) (lo := 97) (hi := 122) (by omega) (by decide) (by decide)]
      have e12 : ∀ v : Int32, (zU (zU (zU M 0 10 (M 0 9)) 0 12 (nI (b p))) 0 11 v) 0 9 = nI p := fun v => h9
      have fin : ∀ v : Int32, ¬ v = 0 → v = (if 97 ≤ b p ∧ b p ≤ 122 then 1 else if b p = 44 then 3 else if b p = 59 then 4 else 5) → ∃ M' : KX, f_X7_advances_180 N (zU (zU M 0 10 (M 0 9)) 0 12 (nI (b p))) v = some M' ∧ aF M' M ∧ tkS M' k b p := by
        intro v hv0 hv
        unfold f_X7_advances_180 f_X7_advances_200
        have e11 : (zU (zU (zU M 0 10 (M 0 9)) 0 12 (nI (b p))) 0 11 v) 0 11 = v := rfl
        simp only [zLet, e11, e12]
        rw [if_neg hv0]
        exact ⟨_, rfl, aF_u (aF_u (aF_u f1 12 _ (by omega)) 11 _ (by omega)) 9 _ (by omega), h9, hp, Or.inr (Or.inl ⟨c, d, rfl, nIp p, hv⟩)⟩
      by_cases d1 : 97 ≤ b p ∧ b p ≤ 122
      · rw [if_pos d1, if_neg (by decide)]
        exact fin 1 (by decide) (by rw [if_pos d1])
      · rw [if_neg d1, if_pos rfl]
        by_cases d2 : b p = 44
        · rw [if_pos (by rw [d2]; rfl)]
          exact fin 3 (by decide) (by rw [if_neg d1, if_pos d2])
        · rw [if_neg (show ¬ nI (b p) = 44 from fun z => d2 (nI_inj (b := 44) (by omega) (by decide) z))]
          by_cases d3 : b p = 59
          · rw [if_pos (by rw [d3]; rfl)]
            exact fin 4 (by decide) (by rw [if_neg d1, if_neg d2, if_pos d3])
          · rw [if_neg (show ¬ nI (b p) = 59 from fun z => d3 (nI_inj (b := 59) (by omega) (by decide) z))]
            exact fin 5 (by decide) (by rw [if_neg d1, if_neg d2, if_neg d3])
  · rw [if_neg c, show f_X7_in (-1) 48 57 = 0 by decide, if_pos rfl, if_neg (by decide)]
    unfold f_X7_advances_180 f_X7_advances_200
    have e11 : (zU (zU (zU M 0 10 (M 0 9)) 0 12 (-1)) 0 11 0) 0 11 = 0 := rfl
    have e12 : (zU (zU (zU M 0 10 (M 0 9)) 0 12 (-1)) 0 11 0) 0 9 = nI p := h9
    simp only [zLet, e11, e12, if_true, Int32.add_zero]
    exact ⟨_, rfl, aF_u (aF_u (aF_u f1 12 _ (by omega)) 11 _ (by omega)) 9 _ (by omega), h9, hp, Or.inl ⟨by omega, rfl, rfl, rfl⟩⟩
