/-! chance -/
def sm (f : Nat → Nat) : Nat → Nat
  | 0 => 0
  | k + 1 => sm f k + f k
theorem sm_c {f f' : Nat → Nat} : ∀ k, (∀ i, i < k → f i = f' i) → sm f k = sm f' k := by
  intro k
  induction k with
  | zero => intro _; rfl
  | succ k ih =>
    intro h
    show sm f k + f k = sm f' k + f' k
    rw [ih (fun i hi => h i (by omega)), h k (by omega)]
theorem sm_a (f : Nat → Nat) (k : Nat) : ∀ j, sm f (k + j) = sm f k + sm (fun c => f (k + c)) j := by
  intro j
  induction j with
  | zero => rfl
  | succ j ih =>
    show sm f (k + j) + f (k + j) = sm f k + (sm (fun c => f (k + c)) j + f (k + j))
    rw [ih]; omega
theorem sm_m (f : Nat → Nat) (b : Nat) : ∀ a, sm f (a * b) = sm (fun h => sm (fun c => f (h * b + c)) b) a := by
  intro a
  induction a with
  | zero => rw [Nat.zero_mul]; rfl
  | succ a ih => rw [Nat.succ_mul, sm_a, ih]; rfl
theorem sm_0 : ∀ k, sm (fun _ => 0) k = 0 := by
  intro k
  induction k with
  | zero => rfl
  | succ k ih => show sm (fun _ => 0) k + 0 = 0; rw [ih]
theorem sm_le {f f' : Nat → Nat} : ∀ k, (∀ i, i < k → f i ≤ f' i) → sm f k ≤ sm f' k := by
  intro k
  induction k with
  | zero => intro _; exact Nat.le_refl _
  | succ k ih =>
    intro h
    show sm f k + f k ≤ sm f' k + f' k
    have := ih (fun i hi => h i (by omega))
    have := h k (by omega)
    omega
theorem dig_m : ∀ n x c, dig n (x * 8 ^ n + c) = dig n c := by
  intro n
  induction n with
  | zero => intro x c; rfl
  | succ n ih =>
    intro x c
    show ((x * 8 ^ (n + 1) + c) / 8 ^ n % 8) :: dig n (x * 8 ^ (n + 1) + c) = (c / 8 ^ n % 8) :: dig n c
    have e : x * 8 ^ (n + 1) = (x * 8) * 8 ^ n := by rw [Nat.pow_succ, Nat.mul_assoc, Nat.mul_comm (8 ^ n) 8]
    rw [e, ih, Nat.add_comm (x * 8 * 8 ^ n) c, Nat.add_mul_div_right _ _ (Nat.pow_pos (by decide)), Nat.add_mul_mod_self_right]
theorem dig_h {n h c : Nat} (hh : h < 8) (hc : c < 8 ^ n) : dig (n + 1) (h * 8 ^ n + c) = h :: dig n c := by
  show ((h * 8 ^ n + c) / 8 ^ n % 8) :: dig n (h * 8 ^ n + c) = h :: dig n c
  rw [dig_m, Nat.add_comm, Nat.add_mul_div_right _ _ (Nat.pow_pos (by decide)), Nat.div_eq_of_lt hc, Nat.zero_add, Nat.mod_eq_of_lt hh]
def nS : Nat → Bool := fun _ => false
def wt (g : Nat → Nat → Nat) (p : Option Nat → Nat) (A t n : Nat) : Nat := sm (fun c => p (evl g nS A t (dig n c))) (8 ^ n)
theorem wt_s {g : Nat → Nat → Nat} {p : Option Nat → Nat} (h0 : p none = 0) (A t n : Nat) : wt g p A t (n + 1) = sm (fun h => if A.testBit h = true then wt g p (clr A h) (g h t) n else 0) 8 := by
  unfold wt
  rw [Nat.pow_succ, Nat.mul_comm, sm_m]
  refine sm_c 8 (fun h hh => ?_)
  by_cases c : A.testBit h = true
  · rw [if_pos c]
    refine sm_c _ (fun d hd => ?_)
    rw [dig_h hh hd]
    show p (if A.testBit h = true then (if nS (g h t) = true then none else evl g nS (clr A h) (g h t) (dig n d)) else none) = _
    rw [if_pos c]; rfl
  · rw [if_neg c]
    have : ∀ i, i < 8 ^ n → p (evl g nS A t (dig (n + 1) (h * 8 ^ n + i))) = (fun _ => 0) i := fun d hd => by
      rw [dig_h hh hd]
      show p (if A.testBit h = true then (if nS (g h t) = true then none else evl g nS (clr A h) (g h t) (dig n d)) else none) = _
      rw [if_neg c, h0]
    rw [sm_c _ this, sm_0]
def pI (q : Nat) (o : Option Nat) : Nat := if o = some q then 1 else 0
def pA (o : Option Nat) : Nat := if o = none then 0 else 1
theorem evl_lt {S : Nat → Int32} {H : Nat} {sh : Nat → Bool} (hv : ∀ h, h < H → hV S h) : ∀ (l : List Nat) A t u, A < 2 ^ H → t < 8 → evl (ld S) sh A t l = some u → u < 8 := by
  intro l
  induction l with
  | nil => intro A t u _ ht e; injection e with e; omega
  | cons h l ih =>
    intro A t u hA ht e
    unfold evl at e
    by_cases c : A.testBit h = true
    · rw [if_pos c] at e
      by_cases d : sh (ld S h t) = true
      · rw [if_pos d] at e; exact absurd e (by simp)
      · rw [if_neg d] at e
        exact ih _ _ u (Nat.lt_of_le_of_lt (clr_le _ _) hA) (ld_lt (hv h (bit_H hA c)) ht) e
    · rw [if_neg c] at e; exact absurd e (by simp)
theorem oI_q {o : Option Nat} {q : Nat} (h : ∀ u, o = some u → u < 8) (hq : q < 8) : (oI o = nI q) ↔ o = some q := by
  cases o with
  | none => exact ⟨fun z => absurd z.symm (nIm q (by omega)), fun z => absurd z (by simp)⟩
  | some u =>
    have := h u rfl
    exact ⟨fun z => by rw [nI_inj (by omega) (by omega) z], fun z => by injection z with z; rw [z]; rfl⟩
theorem oI_n {o : Option Nat} (h : ∀ u, o = some u → u < 8) : (oI o = -1000000) ↔ o = none := by
  cases o with
  | none => exact ⟨fun _ => rfl, fun _ => rfl⟩
  | some u =>
    have := h u rfl
    exact ⟨fun z => absurd z (nIm u (by omega)), fun z => absurd z (by simp)⟩
theorem rows_v {N : Nat} (hN : 40000 ≤ N) {X : KX} {S : Nat → Int32} {H G q : Nat} (hc : CK X 7 S H G) (hH : H ≤ 8) (hv : ∀ h, h < H → hV S h) (x4 : X 7 4 = nI H) (x1 : X 7 1 = nI q) (hq : q < 8) : ∀ n, n ≤ 8 → ∀ f, n < f → ∀ A t, A < 2 ^ H → t < 8 → f_X3_rowsToQuestion N f X (nI t) (nI A) (nI n) = some (nI (wt (ld S) (pI q) A t n)) := by
  intro n
  induction n with
  | zero =>
    intro _ f hf A t hA ht
    obtain ⟨f, rfl⟩ : ∃ u, f = u + 1 := ⟨f - 1, by omega⟩
    unfold f_X3_rowsToQuestion
    rw [if_neg (show ¬ (0 : Int32) < nI 0 by decide), x1]
    show _ = some (nI (0 + pI q (some t)))
    unfold pI
    by_cases c : t = q
    · rw [if_pos (by rw [c]), if_pos (by rw [c])]; rfl
    · rw [if_neg (fun z => c (nI_inj (by omega) (by omega) z)), if_neg (fun z => c (by injection z))]; rfl
  | succ n ih =>
    intro hn f hf A t hA ht
    obtain ⟨f, rfl⟩ : ∃ u, f = u + 1 := ⟨f - 1, by omega⟩
    have hA8 := lt8_v H hH A hA
    unfold f_X3_rowsToQuestion
    rw [if_pos (show (0 : Int32) < nI (n + 1) by rw [show (0 : Int32) = nI 0 from rfl, nI_ltI (by omega) (by omega)]; omega), wt_s (by rfl)]
    have key : ∀ k h, h + k = H → ∀ u, k < u → f_X3_rowsToQuestion_24 N X (f_X3_rowsToQuestion N f X) u (nI t) (nI A) (nI (n + 1)) (nI (sm (fun h => if A.testBit h = true then wt (ld S) (pI q) (clr A h) (ld S h t) n else 0) h)) (nI h) = some (nI (sm (fun h => if A.testBit h = true then wt (ld S) (pI q) (clr A h) (ld S h t) n else 0) 8)) := by
      intro k
      induction k with
      | zero =>
        intro h hh u hu
        obtain ⟨u, rfl⟩ : ∃ t, u = t + 1 := ⟨u - 1, by omega⟩
        have e : h = H := by omega
        subst e
        unfold f_X3_rowsToQuestion_24
        rw [x4, if_pos (by rw [le_n (by omega) (by omega)]; omega)]
        rw [show 8 = h + (8 - h) by omega, sm_a]
        have : ∀ c, c < 8 - h → (fun c => (fun h => if A.testBit h = true then wt (ld S) (pI q) (clr A h) (ld S h t) n else 0) (h + c)) c = (fun _ => 0) c := fun c _ => by
          show (if A.testBit (h + c) = true then _ else 0) = 0
          rw [if_neg (fun z => by have := bit_H hA z; omega)]
        rw [sm_c _ this, sm_0, Nat.add_zero]
      | succ k ih2 =>
        intro h hh u hu
        obtain ⟨u, rfl⟩ : ∃ t, u = t + 1 := ⟨u - 1, by omega⟩
        have h8 : h < 8 := by omega
        have n0 := ih2 (h + 1) (by omega) u (by omega)
        unfold f_X3_rowsToQuestion_24 f_X3_rowsToQuestion_80
        rw [x4, if_neg (by rw [le_n (by omega) (by omega)]; omega), has_tb A hA8 h h8]
        simp only [zLet, nIp]
        rw [show sm (fun h => if A.testBit h = true then wt (ld S) (pI q) (clr A h) (ld S h t) n else 0) (h + 1) = sm (fun h => if A.testBit h = true then wt (ld S) (pI q) (clr A h) (ld S h t) n else 0) h + (if A.testBit h = true then wt (ld S) (pI q) (clr A h) (ld S h t) n else 0) from rfl] at n0
        by_cases c : A.testBit h = true
        · rw [if_pos c, if_neg (by decide), zGd_n _ h8 (by decide), nI_cl h (by omega), show X 11 h = S (12 + 4 * h) from (hc.2.1 h (by omega)).2.2.2, ledFrom_v hc (by omega) hH (hv h (by omega)) ht]
          simp only [zB1_s]
          rw [clr8_v A hA8 h h8, show nI (n + 1) - 1 = nI n by rw [← nIp, Int32.add_sub_cancel], ih (by omega) f (by omega) _ _ (Nat.lt_of_le_of_lt (clr_le _ _) hA) (ldS_lt (hv h (by omega)) ht _)]
          simp only [zB1_s]
          rw [if_pos c] at n0
          rw [nI_add]
          exact n0
        · rw [if_neg c, if_pos rfl]
          rw [if_neg c, Nat.add_zero] at n0
          exact n0
    exact key H 0 (by omega) N (by omega)
def ff : Nat → Nat → Nat
  | _, 0 => 1
  | p, n + 1 => p * ff (p - 1) n
def fl (p : Nat) : Nat → Nat
  | 0 => 1
  | k + 1 => fl p k * (p - k)
theorem ff_fl : ∀ p, p < 9 → ∀ n, n < 5 → ff p n = fl p n := by decide
theorem ff_lt : ∀ p, p < 9 → ∀ n, n < 5 → ff p n < 2048 := by decide
theorem ff_pos : ∀ p, p < 9 → ∀ n, n < 5 → p < n ∨ 0 < ff p n := by decide
theorem sm_bits (A K : Nat) : ∀ k, sm (fun h => if A.testBit h = true then K else 0) k = pcn A k * K := by
  intro k
  induction k with
  | zero => rw [show pcn A 0 = 0 from rfl, Nat.zero_mul]; rfl
  | succ k ih =>
    show sm (fun h => if A.testBit h = true then K else 0) k + (if A.testBit k = true then K else 0) = _
    rw [ih, pcn_s]
    by_cases c : A.testBit k = true
    · rw [if_pos c, if_pos c, Nat.add_mul, Nat.one_mul]
    · rw [if_neg c, if_neg c]; rfl
theorem pc_clr : ∀ A, A < 256 → ∀ h, h < 8 → A.testBit h = false ∨ pc (clr A h) = pc A - 1 := by decide +kernel
theorem wt_A {g : Nat → Nat → Nat} : ∀ n A t, A < 256 → wt g pA A t n = ff (pc A) n := by
  intro n
  induction n with
  | zero => intro A t _; rfl
  | succ n ih =>
    intro A t hA
    rw [wt_s (by rfl)]
    have : ∀ h, h < 8 → (fun h => if A.testBit h = true then wt g pA (clr A h) (g h t) n else 0) h = (fun h => if A.testBit h = true then ff (pc A - 1) n else 0) h := fun h hh => by
      show (if A.testBit h = true then wt g pA (clr A h) (g h t) n else 0) = (if A.testBit h = true then ff (pc A - 1) n else 0)
      by_cases c : A.testBit h = true
      · rw [if_pos c, if_pos c, ih _ _ (Nat.lt_of_le_of_lt (clr_le _ _) hA)]
        rcases pc_clr A hA h hh with e | e
        · rw [e] at c; exact absurd c (by decide)
        · rw [e]
      · rw [if_neg c, if_neg c]
    rw [sm_c _ this, sm_bits, pcn8 A hA]
    rfl
theorem unlike_v {N : Nat} (hN : 40000 ≤ N) {p n : Nat} (hp : p < 9) (hn : n < 5) (hnp : n ≤ p) : f_X6_rowsOfUnlike N (nI p) (nI n) = some (nI (fl p n)) := by
  unfold f_X6_rowsOfUnlike
  have key : ∀ k i, i + k = n → ∀ t, k < t → f_X6_rowsOfUnlike_4 N t (nI p) (nI n) (nI (fl p i)) (nI i) = some (nI (fl p n)) := by
    intro k
    induction k with
    | zero =>
      intro i hi t ht
      obtain ⟨t, rfl⟩ : ∃ u, t = u + 1 := ⟨t - 1, by omega⟩
      have e : i = n := by omega
      subst e
      unfold f_X6_rowsOfUnlike_4
      rw [if_pos (by rw [le_n (by omega) (by omega)]; omega)]
    | succ k ih =>
      intro i hi t ht
      obtain ⟨t, rfl⟩ : ∃ u, t = u + 1 := ⟨t - 1, by omega⟩
      have n0 := ih (i + 1) (by omega) t (by omega)
      unfold f_X6_rowsOfUnlike_4
      rw [if_neg (by rw [le_n (by omega) (by omega)]; omega), sub_n (by omega), pk_mul]
      simp only [zLet, nIp]
      exact n0
  exact key n 0 (by omega) N (by omega)
theorem gz {α : Type} {a : Nat} (h0 : 0 < a) (ha : a < 2 ^ 31) (e : Option α) : zGz (nI a) e = e := if_neg (fun z => by have := nI_inj (b := 0) ha (by omega) z; omega)
theorem gcdC_v {N : Nat} : ∀ j a b v t, b ≤ a → 0 < a → a < 2 ^ 31 → a * b < 2 ^ j → j + v ≤ 63 → j + 1 < t → f_X6_commonDivisor_7 N t (nI a) (nI b) (nI v) = some (nI (Nat.gcd b a)) := by
  intro j
  induction j with
  | zero =>
    intro a b v t hb ha ha2 hp hv ht
    obtain ⟨t, rfl⟩ : ∃ u, t = u + 1 := ⟨t - 1, by omega⟩
    have b0 : b = 0 := by
      rcases Nat.eq_zero_or_pos b with z | z
      · exact z
      · have := Nat.mul_pos ha z; omega
    subst b0
    unfold f_X6_commonDivisor_7 f_X6_commonDivisor_34
    rw [if_neg (by rw [show (64 : Int32) = nI 64 from rfl, le_n (by omega) (by omega)]; omega), if_pos (show nI 0 = 0 from rfl), if_neg (fun z => by have := nI_inj (b := 0) ha2 (by omega) z; omega), Nat.gcd_zero_left]
  | succ j ih =>
    intro a b v t hb ha ha2 hp hv ht
    obtain ⟨t, rfl⟩ : ∃ u, t = u + 1 := ⟨t - 1, by omega⟩
    unfold f_X6_commonDivisor_7 f_X6_commonDivisor_34
    rw [if_neg (by rw [show (64 : Int32) = nI 64 from rfl, le_n (by omega) (by omega)]; omega)]
    rcases Nat.eq_zero_or_pos b with z | z
    · subst z
      rw [if_pos (show nI 0 = 0 from rfl), if_neg (fun z => by have := nI_inj (b := 0) ha2 (by omega) z; omega), Nat.gcd_zero_left]
    · rw [if_neg (fun y => by have := nI_inj (a := b) (b := 0) (by omega) (by omega) y; omega), gz z (by omega), rem_v ha2 z (by omega)]
      simp only [zLet, nIp]
      have r1 : a % b < b := Nat.mod_lt _ z
      have r2 : 2 * (a % b) ≤ a := by
        have := Nat.mod_add_div a b
        have d1 : 1 ≤ a / b := Nat.div_pos hb z
        have := Nat.mul_le_mul_left b d1
        omega
      have r3 : b * (a % b) < 2 ^ j := by
        have h1 : 2 * (b * (a % b)) ≤ a * b := by
          rw [← Nat.mul_assoc, Nat.mul_comm 2 b, Nat.mul_assoc, Nat.mul_comm a b]
          exact Nat.mul_le_mul_left b r2
        rw [Nat.pow_succ] at hp
        omega
      have := ih b (a % b) (v + 1) t (by omega) z (by omega) r3 (by omega) (by omega)
      rw [this, Nat.gcd_rec b a]
theorem gcdM_v {N : Nat} {X : KX} (v3 v4 v5 : Int32) : ∀ k a b t, b ≤ k → k < t → 0 < a + b → a < 2 ^ 31 → b < 2 ^ 31 → f_X7_chance_137 N X t v3 v4 v5 (nI a) (nI b) = (if v3 = 0 then f_X7_chance_171 N X v4 (nI (Nat.gcd b a)) else f_X7_chance_171 N X v5 (nI (Nat.gcd b a))) := by
  intro k
  induction k with
  | zero =>
    intro a b t hb ht hp ha hb2
    obtain ⟨t, rfl⟩ : ∃ u, t = u + 1 := ⟨t - 1, by omega⟩
    have b0 : b = 0 := by omega
    subst b0
    unfold f_X7_chance_137
    rw [if_pos (show nI 0 = 0 from rfl), Nat.gcd_zero_left]
  | succ k ih =>
    intro a b t hb ht hp ha hb2
    obtain ⟨t, rfl⟩ : ∃ u, t = u + 1 := ⟨t - 1, by omega⟩
    unfold f_X7_chance_137
    rcases Nat.eq_zero_or_pos b with z | z
    · subst z
      rw [if_pos (show nI 0 = 0 from rfl), Nat.gcd_zero_left]
    · rw [if_neg (fun y => by have := nI_inj (a := b) (b := 0) (by omega) (by omega) y; omega), gz z hb2, rem_v ha z hb2]
      simp only [zLet]
      have r1 : a % b < b := Nat.mod_lt _ z
      rw [ih b (a % b) t (by omega) (by omega) (by omega) hb2 (by omega), ← Nat.gcd_rec b a]
theorem cha_v {N : Nat} (hN : 40000 ≤ N) {M : KX} {lim q w H G ev g n a t0 : Nat} {a3 : Int32} (hV : cV (M 6) lim q w H G ev) (hg : g < G) (e0 : M 6 (41 + 5 * g) = nI t0) (h0 : t0 < 8) (ha : a < 2 ^ H) (hah : f_X7_ahead M (nI g) = some (nI a)) (hn : n < 5) : f_X7_chance_63 N M N (nI g) (nI n) a3 0 0 0 = f_X7_chance_137 N M N a3 (nI (wt (ld (M 6)) (pI q) a t0 n)) (nI (wt (ld (M 6)) pA a t0 n)) (nI (wt (ld (M 6)) (pI q) a t0 n)) (nI (wt (ld (M 6)) pA a t0 n)) := by
  obtain ⟨⟨s0, hlim⟩, ⟨s1, hq⟩, ⟨s2, hw⟩, ⟨s7, hH⟩, ⟨s8, hG⟩, _, _, _, _, hhs, hgs, hes⟩ := id hV
  obtain ⟨p1, p2⟩ := pow8 (show n ≤ 8 by omega)
  have p3 : 8 ^ n ≤ 8 ^ 4 := Nat.pow_le_pow_right (by decide) (by omega)
  have key : ∀ k c, c + k = 8 ^ n → ∀ t, k < t → f_X7_chance_63 N M t (nI g) (nI n) a3 (nI (sm (fun c => pI q (evl (ld (M 6)) nS a t0 (dig n c))) c)) (nI (sm (fun c => pA (evl (ld (M 6)) nS a t0 (dig n c))) c)) (nI c) = f_X7_chance_137 N M N a3 (nI (wt (ld (M 6)) (pI q) a t0 n)) (nI (wt (ld (M 6)) pA a t0 n)) (nI (wt (ld (M 6)) (pI q) a t0 n)) (nI (wt (ld (M 6)) pA a t0 n)) := by
    intro k
    induction k with
    | zero =>
      intro c hc t ht
      obtain ⟨t, rfl⟩ : ∃ u, t = u + 1 := ⟨t - 1, by omega⟩
      have e : c = 8 ^ n := by omega
      subst e
      unfold f_X7_chance_63
      rw [power_v hN (by omega)]
      simp only [zB1_s]
      rw [if_pos (by rw [le_n p2 p2]; omega)]
      rfl
    | succ k ih =>
      intro c hc t ht
      obtain ⟨t, rfl⟩ : ∃ u, t = u + 1 := ⟨t - 1, by omega⟩
      have n0 := ih (c + 1) (by omega) t (by omega)
      unfold f_X7_chance_63
      rw [power_v hN (by omega), endOf_v hN (sh := nS) rfl s2 hw hH hhs (by omega) (show c < 2 ^ 31 by omega) (Or.inl ⟨rfl, fun _ => rfl⟩) (by omega) e0 h0 ha hah]
      simp only [zB1_s]
      rw [if_neg (by rw [le_n p2 (by omega)]; omega), if_neg (show ¬ nS t0 = true from Bool.false_ne_true)]
      have hl := fun u => evl_lt hhs (dig n c) a t0 u ha h0 (sh := nS)
      rw [show sm (fun c => pI q (evl (ld (M 6)) nS a t0 (dig n c))) (c + 1) = sm (fun c => pI q (evl (ld (M 6)) nS a t0 (dig n c))) c + pI q (evl (ld (M 6)) nS a t0 (dig n c)) from rfl, show sm (fun c => pA (evl (ld (M 6)) nS a t0 (dig n c))) (c + 1) = sm (fun c => pA (evl (ld (M 6)) nS a t0 (dig n c))) c + pA (evl (ld (M 6)) nS a t0 (dig n c)) from rfl] at n0
      unfold f_X7_chance_99 f_X7_chance_120
      simp only [z71_0, z71_1, z71_2, z71_3, z71_4, z71_5, z71_6, z71_7, z71_8, cl_0, cl_1, cl_2, cl_3, cl_4, cl_5, cl_6, cl_7, cl_8, s1, zLet, nIp]
      generalize evl (ld (M 6)) nS a t0 (dig n c) = o at n0 hl ⊢
      by_cases d1 : o = none
      · rw [if_pos ((oI_n hl).mpr d1), if_neg (fun z => by have := (oI_q hl hq).mp z; rw [d1] at this; exact absurd this (by simp))]
        rw [show pI q o = 0 from if_neg (fun z => by rw [d1] at z; exact absurd z (by simp)), show pA o = 0 from if_pos d1, Nat.add_zero, Nat.add_zero] at n0
        rw [Int32.add_zero, Int32.add_zero]
        exact n0
      · rw [if_neg (fun z => d1 ((oI_n hl).mp z))]
        rw [show pA o = 1 from if_neg d1] at n0
        by_cases d2 : o = some q
        · rw [if_pos ((oI_q hl hq).mpr d2)]
          rw [show pI q o = 1 from if_pos d2] at n0
          exact n0
        · rw [if_neg (fun z => d2 ((oI_q hl hq).mp z)), Int32.add_zero]
          rw [show pI q o = 0 from if_neg d2, Nat.add_zero] at n0
          exact n0
  exact key (8 ^ n) 0 (by omega) N (by omega)
theorem op_chance {N : Nat} (hN : 40000 ≤ N) : zOp_chance N Sim := by
  intro X M hS a1 a2 a3
  obtain ⟨lim, q, w, H, G, ev, hV, hC⟩ := hS.2.2.2.2.1
  obtain ⟨⟨s0, hlim⟩, ⟨s1, hq⟩, _, ⟨s7, hH⟩, ⟨s8, hG⟩, _, _, _, _, hhs, hgs, hes⟩ := id hV
  unfold f_X6_chance f_X7_chance
  rcases isGuest_v hG (hC.1.2.2.2.2.2.2.2.2.trans s8) s8 a1 with ⟨g, hg, rfl, e1, e2⟩ | ⟨e1, e2⟩
  rotate_left
  · simp only [e1, e2, zLet, zB1_s, zB2_s, z10, eq_self_iff_true, if_true, if_false]
    exact ⟨_, X, M, ⟨rfl, rfl⟩, ⟨rfl, rfl⟩, hS⟩
  have g6 : g < 6 := by omega
  simp only [e1, e2, zLet, zB1_s, zB2_s, z10, eq_self_iff_true, if_true, if_false]
  rcases rg a2 5 (by decide) with ⟨n, hn, rfl⟩ | h1
  rotate_left
  · rw [show f_X6_isBelow a2 5 = 0 from isBelow_f (n := 5) h1, show f_X7_in a2 0 4 = 0 from in_f (n := 4) h1 (by decide)]
    simp only [zLet, zB1_s, zB2_s, z10, eq_self_iff_true, if_true, if_false]
    exact ⟨_, X, M, ⟨rfl, rfl⟩, ⟨rfl, rfl⟩, hS⟩
  rw [show f_X6_isBelow (nI n) 5 = 1 from isBelow_t (n := 5) hn (by decide), show f_X7_in (nI n) 0 4 = 1 from in_t (n := 4) (by omega) (by decide)]
  simp only [zLet, zB1_s, zB2_s, z10, eq_self_iff_true, if_true, if_false]
  rcases rg a3 2 (by decide) with ⟨wh, hwh, rfl⟩ | h1
  rotate_left
  · simp only [bel2_f h1, in2_f h1, zLet, zB1_s, zB2_s, z10, eq_self_iff_true, if_true, if_false]
    exact ⟨_, X, M, ⟨rfl, rfl⟩, ⟨rfl, rfl⟩, hS⟩
  simp only [bel2_t hwh, in2_t hwh, of_3 M g6, stateOf_v hC hG hg (hgs g hg) hes, zLet, zB1_s, zB2_s, z10, eq_self_iff_true, if_true, if_false]
  by_cases c : M 6 (44 + 5 * g) = 2
  · simp only [c, zLet, zB1_s, zB2_s, z10, eq_self_iff_true, if_true, if_false]
    exact ⟨_, X, M, ⟨rfl, rfl⟩, ⟨rfl, rfl⟩, hS⟩
  simp only [c, zLet, zB1_s, zB2_s, z10, eq_self_iff_true, if_true, if_false]
  obtain ⟨t0, fe, bo, ho, f1, f2, _⟩ := hgs g hg
  have y12 : X 12 g = nI t0 := (hC.2.2.1 g hg).1.trans f1
  obtain ⟨a, m, b1, b2, b3, b4, b5, b6⟩ := ahead_v hN (M := M) rfl hV hC hg
  have a8 := lt8_v H hH a b1
  have hpa := pc_le a a8
  rw [b3, b5, b6, bitc_pc a a8]
  simp only [zB1_s]
  by_cases c1 : pc a < n
  · rw [if_pos (by rw [nI_ltI (by omega) (by omega)]; exact c1), if_neg (by rw [le_n (by omega) (by split <;> omega)]; split <;> omega)]
    exact ⟨_, X, M, ⟨rfl, rfl⟩, ⟨rfl, rfl⟩, hS⟩
  rw [if_neg (by rw [nI_ltI (by omega) (by omega)]; exact c1)]
  by_cases c2 : n ≤ m
  rotate_left
  · rw [if_neg (by rw [le_n (by omega) (by omega)]; exact c2), if_neg (by rw [le_n (by omega) (by split <;> omega)]; split <;> omega)]
    exact ⟨_, X, M, ⟨rfl, rfl⟩, ⟨rfl, rfl⟩, hS⟩
  rw [if_pos (by rw [le_n (by omega) (by omega)]; exact c2), if_pos (by rw [le_n (by omega) (by split <;> omega)]; split <;> omega)]
  have hall := wt_A (g := ld (M 6)) n a t0 a8
  have hpos := (ff_pos (pc a) (by omega) n hn).resolve_left c1
  have hlt := ff_lt (pc a) (by omega) n hn
  have hle : wt (ld (M 6)) (pI q) a t0 n ≤ ff (pc a) n := by
    rw [← hall]
    refine sm_le _ (fun i _ => ?_)
    unfold pI pA
    by_cases d : evl (ld (M 6)) nS a t0 (dig n i) = some q
    · rw [if_pos d, d, if_neg (by simp)]; exact Nat.le_refl _
    · rw [if_neg d]; exact Nat.zero_le _
  have hcM := cha_v hN (a3 := nI wh) hV hg f1 f2 b1 b4 hn
  rw [hall] at hcM
  rw [zGd_n _ g6 (by decide), nI_cl g (by omega), y12, rows_v hN hC hH hhs (hC.1.2.2.2.2.2.2.2.1.trans s7) (hC.1.2.1.trans s1) hq n (by omega) 10 (by omega) a t0 b1 f2, unlike_v hN (by omega) hn (by omega), ← ff_fl (pc a) (by omega) n hn, hcM]
  generalize wt (ld (M 6)) (pI q) a t0 n = its at hle ⊢
  generalize ff (pc a) n = all at hle hpos hlt ⊢
  simp only [zB1_s]
  have hgc : f_X6_commonDivisor N (nI its) (nI all) = some (nI (Nat.gcd its all)) := by
    unfold f_X6_commonDivisor
    refine gcdC_v 22 all its 0 N hle hpos (by omega) ?_ (by omega) (by omega)
    have h1 : all * its ≤ 2047 * 2047 := Nat.mul_le_mul (by omega) (by omega)
    exact Nat.lt_of_le_of_lt h1 (by decide)
  have hgm : f_X7_chance_137 N M N (nI wh) (nI its) (nI all) (nI its) (nI all) = (if nI wh = 0 then f_X7_chance_171 N M (nI its) (nI (Nat.gcd all its)) else f_X7_chance_171 N M (nI all) (nI (Nat.gcd all its))) := gcdM_v _ _ _ all its all N (Nat.le_refl _) (by omega) (by omega) (by omega) (by omega)
  rw [hgc, hgm, Nat.gcd_comm all its]
  simp only [zB1_s]
  have gp : 0 < Nat.gcd its all := Nat.gcd_pos_of_pos_right its hpos
  have gl : Nat.gcd its all ≤ all := Nat.gcd_le_right its hpos
  unfold f_X6_chance_131 f_X7_chance_171
  simp only [gz gp (show Nat.gcd its all < 2 ^ 31 by omega)]
  by_cases d : nI wh = 0
  · rw [if_pos d]
    exact ⟨_, X, M, ⟨rfl, rfl⟩, ⟨rfl, rfl⟩, hS⟩
  · rw [if_neg d]
    exact ⟨_, X, M, ⟨rfl, rfl⟩, ⟨rfl, rfl⟩, hS⟩
