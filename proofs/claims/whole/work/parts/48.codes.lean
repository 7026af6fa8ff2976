/-! the model's rows as codes -/
theorem power_v {N : Nat} (hN : 40000 ≤ N) {k : Nat} (hk : k ≤ 8) : f_X7_power N 8 (nI k) = some (nI (8 ^ k)) := by
  unfold f_X7_power
  have key : ∀ j i, i + j = k → ∀ t, j < t → f_X7_power_4 N t 8 (nI k) (nI (8 ^ i)) (nI i) = some (nI (8 ^ k)) := by
    intro j
    induction j with
    | zero =>
      intro i hi t ht
      obtain ⟨t, rfl⟩ : ∃ u, t = u + 1 := ⟨t - 1, by omega⟩
      have e : i = k := by omega
      subst e
      unfold f_X7_power_4
      rw [if_pos (by rw [le_n (by omega) (by omega)]; omega)]
    | succ j ih =>
      intro i hi t ht
      obtain ⟨t, rfl⟩ : ∃ u, t = u + 1 := ⟨t - 1, by omega⟩
      unfold f_X7_power_4
      rw [if_neg (by rw [le_n (by omega) (by omega)]; omega)]
      have := ih (i + 1) (by omega) t (by omega)
      simp only [zLet, nIp]
      rw [show nI (8 ^ i) * 8 = nI (8 ^ (i + 1)) by rw [show (8 : Int32) = nI 8 from rfl, pk_mul, Nat.pow_succ]]
      exact this
  exact key k 0 (by omega) N (by omega)
def dig : Nat → Nat → List Nat
  | 0, _ => []
  | n + 1, c => (c / 8 ^ n % 8) :: dig n c
def evl (g : Nat → Nat → Nat) (sh : Nat → Bool) : Nat → Nat → List Nat → Option Nat
  | _, t, [] => some t
  | A, t, h :: l => if A.testBit h = true then (if sh (g h t) = true then none else evl g sh (clr A h) (g h t) l) else none
def oI : Option Nat → Int32
  | none => -1000000
  | some u => nI u
theorem hasN_v : ∀ A, A < 256 → ∀ h, h < 8 → f_X7_has (nI A ^^^ (-1)) (nI h) = (if A.testBit h then 0 else 1) := by decide +kernel
theorem clrN_v : ∀ A, A < 256 → ∀ h, h < 8 → (nI A ^^^ (-1)) ||| (zShl 1 (nI h)) = nI (clr A h) ^^^ (-1) := by decide +kernel
theorem clr8_v : ∀ A, A < 256 → ∀ h, h < 8 → (nI A) &&& ((zShl 1 (nI h)) ^^^ (-1)) = nI (clr A h) := by decide +kernel
theorem clr_le (A h : Nat) : clr A h ≤ A := by
  unfold clr
  split
  · exact Nat.sub_le _ _
  · exact Nat.le_refl _
theorem clr_tb8 : ∀ b, b < 256 → ∀ g, g < 8 → ∀ k, k < 8 → (clr b g).testBit k = (b.testBit k && !(k == g)) := by decide +kernel
theorem bit_H {A H h : Nat} (hA : A < 2 ^ H) (hb : A.testBit h = true) : h < H := by
  refine Nat.lt_of_not_le fun z => ?_
  have p : 2 ^ H ≤ 2 ^ h := Nat.pow_le_pow_right (by decide) z
  rw [Nat.testBit_lt_two_pow (Nat.lt_of_lt_of_le hA p)] at hb
  exact absurd hb (by decide)
theorem rem_v {a d : Nat} (ha : a < 2 ^ 31) (h0 : 0 < d) (hd : d < 2 ^ 31) : zRem (nI a) (nI d) = nI (a % d) := pk_rem ha h0 hd
theorem pow8 {k : Nat} (h : k ≤ 8) : 0 < 8 ^ k ∧ 8 ^ k < 2 ^ 31 := ⟨Nat.pow_pos (by decide), Nat.lt_of_le_of_lt (Nat.pow_le_pow_right (by decide) h) (by decide)⟩
theorem end39_v {N : Nat} (hN : 40000 ≤ N) {M : KX} {S : Nat → Int32} {H w n c : Nat} {a4 : Int32} {sh : Nat → Bool} (h6 : M 6 = S) (s2 : S 2 = nI w) (hw : w < 8) (hH : H ≤ 8) (hv : ∀ h, h < H → hV S h) (hn : n ≤ 8) (hc : c < 2 ^ 31) (hs : (a4 = 0 ∧ ∀ u, sh u = false) ∨ (a4 = 1 ∧ ∀ u, sh u = (u == w))) : ∀ k i, i + k = n → ∀ t, k < t → ∀ A T, A < 2 ^ H → T < 8 → f_X7_endOf_39 N M t (nI c) (nI n) a4 (nI T) (nI A ^^^ (-1)) (nI i) = some (oI (evl (ld S) sh A T (dig k c))) := by
  intro k
  induction k with
  | zero =>
    intro i hi t ht A T hA hT
    obtain ⟨t, rfl⟩ : ∃ u, t = u + 1 := ⟨t - 1, by omega⟩
    have e : i = n := by omega
    subst e
    unfold f_X7_endOf_39
    rw [if_pos (by rw [le_n (by omega) (by omega)]; omega)]
    rfl
  | succ k ih =>
    intro i hi t ht A T hA hT
    obtain ⟨t, rfl⟩ : ∃ u, t = u + 1 := ⟨t - 1, by omega⟩
    have hA8 := lt8_v H hH A hA
    unfold f_X7_endOf_39
    rw [if_neg (by rw [le_n (by omega) (by omega)]; omega), show (nI n - 1) - nI i = nI k by
      rw [show (1 : Int32) = nI 1 from rfl, sub_n (by omega), sub_n (by omega)]; congr 1; omega, power_v hN (by omega)]
    simp only [zB1_s]
    obtain ⟨p1, p2⟩ := pow8 (show k ≤ 8 by omega)
    unfold zGz
    rw [if_neg (fun z => by have := nI_inj (b := 0) p2 (by omega) z; omega), pk_div hc p1 p2, show (8 : Int32) = nI 8 from rfl, rem_v (Nat.lt_of_le_of_lt (Nat.div_le_self _ _) hc) (by decide) (by decide)]
    have hd : c / 8 ^ k % 8 < 8 := Nat.mod_lt _ (by decide)
    simp only [zLet]
    rw [hasN_v A hA8 _ hd, clrN_v A hA8 _ hd]
    unfold dig evl
    cases hb : A.testBit (c / 8 ^ k % 8) with
    | false => simp only [Bool.false_eq_true, if_false, z10]; rfl
    | true =>
      have hh := bit_H hA hb
      have l := leadsNow_v (M := M) (t := T) (h := c / 8 ^ k % 8) (by omega) hT (by rw [h6]; exact hv _ hh)
      rw [h6] at l
      have hr : ld S (c / 8 ^ k % 8) T < 8 := ld_lt (hv _ hh) hT
      simp only [if_true, l, zB1_s]
      have n0 := ih (i + 1) (by omega) t (by omega) (clr A (c / 8 ^ k % 8)) (ld S (c / 8 ^ k % 8) T) (Nat.lt_of_le_of_lt (clr_le _ _) hA) hr
      unfold f_X7_endOf_114
      simp only [zLet, nIp, z71_0, z71_1, z71_2, z71_3, z71_4, z71_5, z71_6, z71_7, z71_8, cl_0, cl_1, cl_2, cl_3, cl_4, cl_5, cl_6, cl_7, cl_8, h6, s2]
      rcases hs with ⟨rfl, hs⟩ | ⟨rfl, hs⟩
      · simp only [if_true, hs, Bool.false_eq_true, if_false]
        exact n0
      · simp only [z10, if_false, hs]
        by_cases c0 : ld S (c / 8 ^ k % 8) T = w
        · rw [c0]; simp only [beq_self_eq_true, if_true]; rfl
        · rw [if_neg (fun z => c0 (nI_inj (by omega) (by omega) z)), if_neg (by simp [c0])]
          exact n0
theorem endOf_v {N : Nat} (hN : 40000 ≤ N) {M : KX} {S : Nat → Int32} {H w n c a g t0 : Nat} {a4 : Int32} {sh : Nat → Bool} (h6 : M 6 = S) (s2 : S 2 = nI w) (hw : w < 8) (hH : H ≤ 8) (hv : ∀ h, h < H → hV S h) (hn : n ≤ 8) (hc : c < 2 ^ 31) (hs : (a4 = 0 ∧ ∀ u, sh u = false) ∨ (a4 = 1 ∧ ∀ u, sh u = (u == w))) (hg : g < 6) (e0 : S (41 + 5 * g) = nI t0) (h0 : t0 < 8) (ha : a < 2 ^ H) (hah : f_X7_ahead M (nI g) = some (nI a)) : f_X7_endOf N M (nI g) (nI c) (nI n) a4 = some (oI (if sh t0 = true then none else evl (ld S) sh a t0 (dig n c))) := by
  unfold f_X7_endOf f_X7_endOf_36
  have k := end39_v hN h6 s2 hw hH hv hn hc hs n 0 (by omega) N (by omega) a t0 ha h0
  rw [of_0 M hg, hah, h6, e0]
  simp only [zB1_s, zLet, z71_0, z71_1, z71_2, z71_3, z71_4, z71_5, z71_6, z71_7, z71_8, cl_0, cl_1, cl_2, cl_3, cl_4, cl_5, cl_6, cl_7, cl_8, s2]
  rcases hs with ⟨rfl, hs⟩ | ⟨rfl, hs⟩
  · simp only [if_true, hs, Bool.false_eq_true, if_false]
    exact k
  · simp only [z10, if_false, hs]
    by_cases c0 : t0 = w
    · rw [c0]; simp only [beq_self_eq_true, if_true]; rfl
    · rw [if_neg (fun z => c0 (nI_inj (by omega) (by omega) z)), if_neg (by simp [c0])]
      exact k
