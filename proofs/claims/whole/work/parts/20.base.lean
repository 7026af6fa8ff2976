/-! reading and writing -/
theorem zU_s (X : KX) (k i : Nat) (v : Int32) : zU X k i v k = upd (X k) i v := if_pos rfl
theorem zU_o (X : KX) {k a : Nat} (i : Nat) (v : Int32) (h : a ≠ k) : zU X k i v a = X a := if_neg h
theorem up_s (f : Nat → Int32) (k : Nat) (x : Int32) : upd f k x k = x := if_pos rfl
theorem up_o (f : Nat → Int32) {k j : Nat} (x : Int32) (h : j ≠ k) : upd f k x j = f j := if_neg h
theorem zGd_n {α : Type} {k n : Nat} (e : Option α) (h : k < n) (hn : n < 2 ^ 31) : zGd (nI k) n e = e := by
  unfold zGd
  rw [nI_toInt (by omega)]
  exact if_pos ⟨by omega, by omega⟩
theorem zGd_l {α : Type} {i : Int32} {n : Nat} (e : Option α) (h : 0 ≤ i.toInt ∧ i.toInt < (n : Int)) : zGd i n e = e := if_pos h
theorem zB1_s {α γ : Type} (a : α) (f : α → Option γ) : zB1 (some a) f = f a := rfl
theorem zB2_s {α β γ : Type} (a : α) (b : β) (f : α → β → Option γ) : zB2 (some (a, b)) f = f a b := rfl
theorem nI_cl (n : Nat) (h : n < 2 ^ 31) : (nI n).toNatClampNeg = n := nI_clamp h
theorem nI_inj {a b : Nat} (ha : a < 2 ^ 31) (hb : b < 2 ^ 31) (h : nI a = nI b) : a = b := (nI_eq ha hb).mp h
theorem nI_lt0 (n : Nat) (h : n < 2 ^ 31) : ¬ nI n < 0 := nI_pos h
/-- below an end, or not -/
theorem rg (a : Int32) (n : Nat) (hn : n < 2 ^ 31) : (∃ k, k < n ∧ a = nI k) ∨ (a < 0 ∨ nI n ≤ a) := by
  rcases pk_ix a hn with h | h | h
  · exact Or.inr (Or.inl h)
  · exact Or.inr (Or.inr h)
  · exact Or.inl h
theorem isBelow_t {k n : Nat} (h : k < n) (hn : n < 2 ^ 31) : f_X6_isBelow (nI k) (nI n) = 1 := by
  unfold f_X6_isBelow
  rw [if_neg (nI_pos (by omega)), if_neg (fun q => by have := (nI_leI (by omega) (by omega)).mp q; omega)]
theorem isBelow_f {a : Int32} {n : Nat} (h : a < 0 ∨ nI n ≤ a) : f_X6_isBelow a (nI n) = 0 := by
  unfold f_X6_isBelow
  rcases h with h | h
  · rw [if_pos h]
  · by_cases c : a < 0
    · rw [if_pos c]
    · rw [if_neg c, if_pos h]
theorem in_t {k n : Nat} (h : k ≤ n) (hn : n < 2 ^ 31) : f_X7_in (nI k) 0 (nI n) = 1 := by
  unfold f_X7_in
  rw [if_neg (nI_pos (by omega)), if_neg (fun q => by have := (nI_ltI (by omega) (by omega)).mp q; omega)]
theorem in_f {a : Int32} {n : Nat} (h : a < 0 ∨ nI (n + 1) ≤ a) (hn : n + 1 < 2 ^ 31) : f_X7_in a 0 (nI n) = 0 := by
  unfold f_X7_in
  rcases h with h | h
  · rw [if_pos h]
  · by_cases c : a < 0
    · rw [if_pos c]
    · rw [if_neg c, if_pos (Int32.lt_of_lt_of_le ((nI_ltI (by omega) (by omega)).mpr (Nat.lt_succ_self n)) h)]
/-- in(a, 0, n - 1) -/
theorem in1_t {k n : Nat} (h : k < n) (hn : n < 2 ^ 31) : f_X7_in (nI k) 0 (nI n - 1) = 1 := by
  obtain ⟨m, rfl⟩ : ∃ m, n = m + 1 := ⟨n - 1, by omega⟩
  rw [nI_pred]
  exact in_t (by omega) (by omega)
theorem in1_f {a : Int32} {n : Nat} (h : a < 0 ∨ nI n ≤ a) (hn : n < 2 ^ 31) : f_X7_in a 0 (nI n - 1) = 0 := by
  cases n with
  | zero =>
    unfold f_X7_in
    rcases h with h | h
    · rw [if_pos h]
    · by_cases c : a < 0
      · rw [if_pos c]
      · rw [if_neg c, if_pos (Int32.lt_of_lt_of_le (show (nI 0 - 1 : Int32) < nI 0 by decide) h)]
  | succ m =>
    rw [nI_pred]
    exact in_f h hn
/-! loops: a fold upwards -/
def zFr {α : Type} (s : Nat → α → α) : Nat → α → α
  | 0, a => a
  | k + 1, a => s k (zFr s k a)
theorem loop_fr {α β : Type} (F : Nat → Nat → α → β) (s : Nat → α → α) (ex : α → β) (N : Nat) (I : Nat → α → Prop) (a0 : α) (h0 : I 0 a0) (hs : ∀ t i a, i < N → I i a → F (t + 1) i a = F t (i + 1) (s i a) ∧ I (i + 1) (s i a)) (hx : ∀ t a, I N a → F (t + 1) N a = ex a) (n : Nat) (hn : N < n) : F n 0 a0 = ex (zFr s N a0) ∧ I N (zFr s N a0) := by
  have key : ∀ k i, i + k = N → I i (zFr s i a0) → ∀ t, k < t → F t i (zFr s i a0) = ex (zFr s N a0) ∧ I N (zFr s N a0) := by
    intro k
    induction k with
    | zero =>
      intro i hi hI t ht
      obtain ⟨u, rfl⟩ : ∃ u, t = u + 1 := ⟨t - 1, by omega⟩
      have e : i = N := by omega
      subst e
      exact ⟨hx u _ hI, hI⟩
    | succ k ih =>
      intro i hi hI t ht
      obtain ⟨u, rfl⟩ : ∃ u, t = u + 1 := ⟨t - 1, by omega⟩
      obtain ⟨h1, h2⟩ := hs u i _ (by omega) hI
      rw [h1]
      exact ih (i + 1) (by omega) h2 u (by omega)
  exact key N 0 (by omega) h0 n hn
/-- the same with a relation instead of a function -/
theorem loop_re {α β : Type} (F : Nat → Nat → α → β) (N : Nat) (I : Nat → α → Prop) (P : β → Prop) (hs : ∀ i a, i < N → I i a → ∃ a', I (i + 1) a' ∧ ∀ t, F (t + 1) i a = F t (i + 1) a') (hx : ∀ t a, I N a → P (F (t + 1) N a)) : ∀ (k i : Nat) (a : α), i + k = N → I i a → ∀ n, k < n → P (F n i a) := by
  intro k
  induction k with
  | zero =>
    intro i a hi hI n hn
    obtain ⟨u, rfl⟩ : ∃ u, n = u + 1 := ⟨n - 1, by omega⟩
    have e : i = N := by omega
    subst e
    exact hx u _ hI
  | succ k ih =>
    intro i a hi hI n hn
    obtain ⟨u, rfl⟩ : ∃ u, n = u + 1 := ⟨n - 1, by omega⟩
    obtain ⟨a', h1, h2⟩ := hs i a (by omega) hI
    rw [h2]
    exact ih (i + 1) a' (by omega) h1 u (by omega)
/-! bits -/
def pc (a : Nat) : Nat := (a % 2) + (a / 2 % 2) + (a / 4 % 2) + (a / 8 % 2) + (a / 16 % 2) + (a / 32 % 2) + (a / 64 % 2) + (a / 128 % 2)
theorem has_tb : ∀ a, a < 256 → ∀ k, k < 8 → f_X6_has (nI a) (nI k) = (if a.testBit k then 1 else 0) := by decide +kernel
theorem hasM_tb : ∀ a, a < 256 → ∀ k, k < 8 → f_X7_has (nI a) (nI k) = (if a.testBit k then 1 else 0) := by decide +kernel
theorem bitc_pc : ∀ a, a < 256 → f_J6_bitCount_0f7a4 (nI a) = nI (pc a) := by decide +kernel
theorem shl_tb : ∀ k, k < 8 → zShl 1 (nI k) = nI (2 ^ k) := by decide +kernel
theorem nI_or (a b : Nat) : nI a ||| nI b = nI (a ||| b) := by
  apply Int32.toBitVec_inj.mp
  show (nI a).toBitVec ||| (nI b).toBitVec = (nI (a ||| b)).toBitVec
  apply BitVec.eq_of_getLsbD_eq
  intro i hi
  simp [nI, Int32.toBitVec_ofNat, BitVec.getLsbD_ofNat, hi]
theorem nI_and (a b : Nat) : nI a &&& nI b = nI (a &&& b) := by
  apply Int32.toBitVec_inj.mp
  show (nI a).toBitVec &&& (nI b).toBitVec = (nI (a &&& b)).toBitVec
  apply BitVec.eq_of_getLsbD_eq
  intro i hi
  simp [nI, Int32.toBitVec_ofNat, BitVec.getLsbD_ofNat, hi]
