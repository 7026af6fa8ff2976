/-! route -/
theorem rc_in {g : Nat → Nat → Nat} {A B sh : Nat → Prop} {q : Nat} : ∀ (l : List Nat) t, rc g A sh q t l → (∀ h, h ∈ l → A h → B h) → rc g B sh q t l := by
  intro l
  induction l with
  | nil => intro t h _; exact h
  | cons a l ih =>
    intro t h hb
    exact ⟨h.1, hb a List.mem_cons_self h.2.1, ih _ h.2.2 (fun i hi => hb i (List.mem_cons_of_mem _ hi))⟩
theorem rc_mem {g : Nat → Nat → Nat} {A sh : Nat → Prop} {q : Nat} : ∀ (l : List Nat) t, rc g A sh q t l → ∀ h, h ∈ l → A h := by
  intro l
  induction l with
  | nil => intro t _ h hh; exact absurd hh List.not_mem_nil
  | cons a l ih =>
    intro t h i hi
    rcases List.mem_cons.mp hi with rfl | hi
    · exact h.2.1
    · exact ih _ h.2.2 i hi
theorem evl_iff {g : Nat → Nat → Nat} {sh : Nat → Bool} {q : Nat} : ∀ (l : List Nat) A t, A < 256 → (∀ h, h ∈ l → h < 8) → sh t = false → (evl g sh A t l = some q ↔ l.Nodup ∧ rc g (fun h => A.testBit h = true) (fun u => sh u = true) q t l) := by
  intro l
  induction l with
  | nil =>
    intro A t _ _ hs
    constructor
    · intro e; injection e with e; exact ⟨List.nodup_nil, e, fun (z : sh t = true) => by rw [hs] at z; exact absurd z (by decide)⟩
    · intro e; rw [← e.2.1]; rfl
  | cons h l ih =>
    intro A t hA hl hs
    have h8 := hl h List.mem_cons_self
    have hl' : ∀ i, i ∈ l → i < 8 := fun i hi => hl i (List.mem_cons_of_mem _ hi)
    show ((if A.testBit h = true then (if sh (g h t) = true then none else evl g sh (clr A h) (g h t) l) else none) = some q) ↔ _
    by_cases c : A.testBit h = true
    · rw [if_pos c]
      by_cases d : sh (g h t) = true
      · rw [if_pos d]
        exact ⟨fun z => absurd z (by simp), fun z => absurd d (rc_sh z.2.2.2)⟩
      · rw [if_neg d, ih _ _ (Nat.lt_of_le_of_lt (clr_le _ _) hA) hl' (by simpa using d), List.nodup_cons]
        constructor
        · intro ⟨z1, z2⟩
          have zm := rc_mem _ _ z2
          refine ⟨⟨fun y => ?_, z1⟩, fun (z : sh t = true) => by rw [hs] at z; exact absurd z (by decide), c, rc_in _ _ z2 (fun i hi y => ?_)⟩
          · have := zm h y
            rw [clr_tb8 A hA h h8 h h8] at this
            simp at this
          · rw [clr_tb8 A hA h h8 i (hl' i hi)] at y
            exact (Bool.and_eq_true _ _ ▸ y).1
        · intro ⟨⟨z1, z2⟩, _, _, z3⟩
          refine ⟨z2, rc_in _ _ z3 (fun i hi y => ?_)⟩
          rw [clr_tb8 A hA h h8 i (hl' i hi), y]
          have : i ≠ h := fun e => z1 (e ▸ hi)
          simp [this]
    · rw [if_neg c]
      exact ⟨fun z => absurd z (by simp), fun z => absurd z.2.2.1 c⟩
def cd : List Nat → Nat
  | [] => 0
  | h :: l => h * 8 ^ l.length + cd l
theorem cd_lt : ∀ l : List Nat, (∀ h, h ∈ l → h < 8) → cd l < 8 ^ l.length := by
  intro l
  induction l with
  | nil => intro _; decide
  | cons h l ih =>
    intro hl
    have h1 := ih (fun i hi => hl i (List.mem_cons_of_mem _ hi))
    have h8 := hl h List.mem_cons_self
    show h * 8 ^ l.length + cd l < 8 ^ (l.length + 1)
    rw [Nat.pow_succ]
    have : h * 8 ^ l.length ≤ 7 * 8 ^ l.length := Nat.mul_le_mul_right _ (by omega)
    omega
theorem dig_cd : ∀ l : List Nat, (∀ h, h ∈ l → h < 8) → dig l.length (cd l) = l := by
  intro l
  induction l with
  | nil => intro _; rfl
  | cons h l ih =>
    intro hl
    have hl' : ∀ i, i ∈ l → i < 8 := fun i hi => hl i (List.mem_cons_of_mem _ hi)
    show dig (l.length + 1) (h * 8 ^ l.length + cd l) = _
    rw [dig_h (hl h List.mem_cons_self) (cd_lt l hl'), ih hl']
theorem dig_len : ∀ n c, (dig n c).length = n := by
  intro n
  induction n with
  | zero => intro c; rfl
  | succ n ih => intro c; show (dig n c).length + 1 = n + 1; rw [ih]
theorem dig_8 : ∀ n c h, h ∈ dig n c → h < 8 := by
  intro n
  induction n with
  | zero => intro c h hh; exact absurd hh List.not_mem_nil
  | succ n ih =>
    intro c h hh
    rcases List.mem_cons.mp hh with rfl | hh
    · exact Nat.mod_lt _ (by decide)
    · exact ih c h hh
theorem cd_dig : ∀ n c, c < 8 ^ n → cd (dig n c) = c := by
  intro n
  induction n with
  | zero => intro c hc; show 0 = c; have : (8 : Nat) ^ 0 = 1 := rfl; omega
  | succ n ih =>
    intro c hc
    show (c / 8 ^ n % 8) * 8 ^ (dig n c).length + cd (dig n c) = c
    have p : 0 < 8 ^ n := Nat.pow_pos (by decide)
    have e : dig n c = dig n (c % 8 ^ n) := by
      have := dig_m n (c / 8 ^ n) (c % 8 ^ n)
      rw [← this, Nat.mul_comm, Nat.div_add_mod]
    have d : c / 8 ^ n < 8 := Nat.div_lt_of_lt_mul (by rw [← Nat.pow_succ]; exact hc)
    rw [dig_len, Nat.mod_eq_of_lt d, e, ih _ (Nat.mod_lt _ p), Nat.mul_comm, Nat.div_add_mod]
theorem dig_get : ∀ n c k, k < n → (dig n c).getD k 0 = c / 8 ^ (n - 1 - k) % 8 := by
  intro n
  induction n with
  | zero => intro c k hk; omega
  | succ n ih =>
    intro c k hk
    cases k with
    | zero => rfl
    | succ k =>
      show (dig n c).getD k 0 = _
      rw [ih c k (by omega)]
      congr 2
      congr 1
      omega
def isF (g : Nat → Nat → Nat) (A : Nat → Prop) (E : Nat → Nat → Prop) (t n h : Nat) : Prop := A h ∧ E n (g h t) ∧ ∀ i, i < h → A i → ¬ E n (g i t)
def gc (g : Nat → Nat → Nat) (A : Nat → Prop) (E : Nat → Nat → Prop) : Nat → List Nat → Prop
  | _, [] => True
  | t, h :: l => isF g A E t l.length h ∧ gc g A E (g h t) l
theorem least {P : Nat → Prop} : ∀ n, P n → ∃ m, P m ∧ ∀ i, i < m → ¬ P i := by
  intro n
  induction n using Nat.strongRecOn with
  | _ n ih =>
    intro h
    by_cases c : ∃ i, i < n ∧ P i
    · obtain ⟨i, h1, h2⟩ := c
      exact ih i h1 h2
    · exact ⟨n, h, fun i hi hp => c ⟨i, hi, hp⟩⟩
def rE (g : Nat → Nat → Nat) (A sh : Nat → Prop) (q k t : Nat) : Prop := ∃ l : List Nat, l.length ≤ k ∧ rc g A sh q t l
theorem greedy {g : Nat → Nat → Nat} {A sh : Nat → Prop} {q : Nat} : ∀ n t, rE g A sh q n t → (∀ j, j < n → ¬ rE g A sh q j t) → ∃ L : List Nat, L.length = n ∧ rc g A sh q t L ∧ gc g A (rE g A sh q) t L := by
  intro n
  induction n with
  | zero =>
    intro t ⟨l, h1, h2⟩ _
    have : l = [] := List.length_eq_zero_iff.mp (by omega)
    subst this
    exact ⟨[], rfl, h2, trivial⟩
  | succ n ih =>
    intro t ⟨l, h1, h2⟩ hm
    cases l with
    | nil => exact absurd ⟨[], Nat.zero_le _, h2⟩ (hm 0 (by omega))
    | cons h l =>
      obtain ⟨x1, x2, x3⟩ := h2
      obtain ⟨m, ⟨m1, m2⟩, m3⟩ := least (P := fun h => A h ∧ rE g A sh q n (g h t)) h ⟨x2, l, by simp at h1; omega, x3⟩
      obtain ⟨L, L1, L2, L3⟩ := ih (g m t) m2 (fun j hj ⟨l, y1, y2⟩ => hm (j + 1) (by omega) ⟨m :: l, by simp; omega, x1, m1, y2⟩)
      refine ⟨m :: L, by simp [L1], ⟨x1, m1, L2⟩, ⟨m1, by rw [L1]; exact m2, fun i hi ai => by rw [L1]; exact fun z => m3 i hi ⟨ai, z⟩⟩, L3⟩
theorem greedy_min {g : Nat → Nat → Nat} {A sh : Nat → Prop} {q : Nat} : ∀ (L l : List Nat) t, gc g A (rE g A sh q) t L → rc g A sh q t l → l.length = L.length → (∀ h, h ∈ L → h < 8) → cd L ≤ cd l := by
  intro L
  induction L with
  | nil => intro l t _ _ _ _; exact Nat.zero_le _
  | cons h L ih =>
    intro l t hg hr hl h8
    cases l with
    | nil => simp at hl
    | cons i l =>
      have hlen : l.length = L.length := by simpa using hl
      obtain ⟨⟨a1, a2, a3⟩, a4⟩ := hg
      obtain ⟨_, b2, b3⟩ := hr
      have hL : ∀ j, j ∈ L → j < 8 := fun j hj => h8 j (List.mem_cons_of_mem _ hj)
      have hle : h ≤ i := Nat.le_of_not_lt fun z => a3 i z b2 ⟨l, by omega, b3⟩
      show h * 8 ^ L.length + cd L ≤ i * 8 ^ l.length + cd l
      rw [hlen]
      rcases Nat.lt_or_eq_of_le hle with z | z
      · have := cd_lt L hL
        have k : (h + 1) * 8 ^ L.length ≤ i * 8 ^ L.length := Nat.mul_le_mul_right _ z
        rw [Nat.add_mul, Nat.one_mul] at k
        omega
      · subst z
        have := ih l (g h t) a4 b3 hlen hL
        omega
theorem near_v {N : Nat} (hN : 40000 ≤ N) {X : KX} {S : Nat → Int32} {H G a q lim t n h : Nat} {sh : Nat → Prop} (hc : CK X 7 S H G) (x4 : X 7 4 = nI H) (hH : H ≤ 8) (hv : ∀ h, h < H → hV S h) (hn : nrS X S H a sh q lim) (ha : a < 256) (hlim : lim ≤ 5) (hnl : n ≤ lim) (ht : t < 8) (hF : isF (ld S) (fun h => h < H ∧ a.testBit h = true) (rE (ld S) (fun h => h < H ∧ a.testBit h = true) sh q) t n h) : f_X3_firstNearer N X (nI t) (nI n) = some (nI h) := by
  obtain ⟨⟨hH2, hab⟩, hE, hmin⟩ := hF
  obtain ⟨d, d1, d2, d3⟩ := hn.2 n hnl
  unfold f_X3_firstNearer
  have key : ∀ k i, i + k = h → ∀ u, k < u → f_X3_firstNearer_3 N X u (nI t) (nI n) (nI i) = some (nI h) := by
    intro k
    induction k with
    | zero =>
      intro i hi u hu
      obtain ⟨u, rfl⟩ : ∃ t, u = t + 1 := ⟨u - 1, by omega⟩
      have e : i = h := by omega
      subst e
      unfold f_X3_firstNearer_3
      rw [x4, if_neg (by rw [le_n (by omega) (by omega)]; omega), hn.1, has_tb a ha i (by omega), if_pos hab, if_neg (by decide), zGd_n _ (show n < 6 by omega) (by decide), zGd_n _ (show i < 8 by omega) (by decide), nI_cl n (by omega), nI_cl i (by omega), show X 11 i = S (12 + 4 * i) from (hc.2.1 i (by omega)).2.2.2, ledFrom_v hc (by omega) hH (hv i (by omega)) ht]
      simp only [zB1_s]
      rw [d2, has_tb d d1 _ (ldS_lt (hv i hH2) ht _), show ldS S i t (S (12 + 4 * i)) = ld S i t from rfl, if_pos ((d3 _ (ld_lt (hv i hH2) ht)).mpr hE), if_neg (by decide)]
    | succ k ih =>
      intro i hi u hu
      obtain ⟨u, rfl⟩ : ∃ t, u = t + 1 := ⟨u - 1, by omega⟩
      have n0 := ih (i + 1) (by omega) u (by omega)
      unfold f_X3_firstNearer_3 f_X3_firstNearer_53
      rw [x4, if_neg (by rw [le_n (by omega) (by omega)]; omega), hn.1, has_tb a ha i (by omega)]
      simp only [zLet, nIp]
      by_cases c : a.testBit i = true
      · rw [if_pos c, if_neg (by decide), zGd_n _ (show n < 6 by omega) (by decide), zGd_n _ (show i < 8 by omega) (by decide), nI_cl n (by omega), nI_cl i (by omega), show X 11 i = S (12 + 4 * i) from (hc.2.1 i (by omega)).2.2.2, ledFrom_v hc (by omega) hH (hv i (by omega)) ht]
        simp only [zB1_s]
        rw [d2, has_tb d d1 _ (ldS_lt (hv i (by omega)) ht _), show ldS S i t (S (12 + 4 * i)) = ld S i t from rfl, if_neg (fun z => hmin i (by omega) ⟨by omega, c⟩ ((d3 _ (ld_lt (hv i (by omega)) ht)).mp z)), if_pos rfl]
        exact n0
      · rw [if_neg c, if_pos rfl]
        exact n0
  exact key h 0 (by omega) N (by omega)
theorem hintR_v {N : Nat} (hN : 40000 ≤ N) {X : KX} {S : Nat → Int32} {H G a q lim F k : Nat} {sh : Nat → Prop} (hc : CK X 7 S H G) (x4 : X 7 4 = nI H) (hH : H ≤ 8) (hv : ∀ h, h < H → hV S h) (hn : nrS X S H a sh q lim) (ha : a < 256) (hlim : lim ≤ 5) (hF : F ≤ lim) (hk : k < F) : ∀ (L : List Nat) i t v6 u, L.length + i = F → i ≤ k → L.length < u → t < 8 → gc (ld S) (fun h => h < H ∧ a.testBit h = true) (rE (ld S) (fun h => h < H ∧ a.testBit h = true) sh q) t L → f_X3_hintOfRoute_15 N X u (nI F) (nI k) (nI t) v6 (nI i) = some (nI (L.getD (k - i) 0)) := by
  intro L
  induction L with
  | nil => intro i t v6 u h1 h2; simp at h1; omega
  | cons h L ih =>
    intro i t v6 u h1 h2 hu ht hg
    obtain ⟨u, rfl⟩ : ∃ t, u = t + 1 := ⟨u - 1, by omega⟩
    have h1' : L.length + 1 + i = F := by simpa using h1
    have hu' : L.length + 1 < u + 1 := by simpa using hu
    have hH2 := hg.1.1.1
    unfold f_X3_hintOfRoute_15
    rw [if_neg (by rw [nI_ltI (by omega) (by omega)]; omega), if_neg (by rw [le_n (by omega) (by omega)]; omega), show (nI F - nI i) - 1 = nI L.length by rw [show (1 : Int32) = nI 1 from rfl, sub_n (by omega), sub_n (by omega)]; congr 1; omega, near_v hN hc x4 hH hv hn ha hlim (by omega) ht hg.1]
    simp only [zB1_s]
    rw [if_neg (nIm h (by omega)), zGd_n _ (show h < 8 by omega) (by decide), nI_cl h (by omega), show X 11 h = S (12 + 4 * h) from (hc.2.1 h (by omega)).2.2.2, ledFrom_v hc hH2 hH (hv h hH2) ht]
    simp only [zB1_s, zLet, nIp]
    by_cases e : i = k
    · subst e
      obtain ⟨u, rfl⟩ : ∃ t, u = t + 1 := ⟨u - 1, by omega⟩
      unfold f_X3_hintOfRoute_15
      rw [if_pos (by rw [nI_ltI (by omega) (by omega)]; omega), Nat.sub_self]
      rfl
    · rw [show k - i = (k - (i + 1)) + 1 by omega]
      exact ih (i + 1) _ _ u (by omega) (by omega) (by omega) (ldS_lt (hv h hH2) ht _) hg.2
