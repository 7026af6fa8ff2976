/-! nearly -/
def cn (it : Nat → Nat) (h : Nat) : Nat → Nat
  | 0 => 0
  | p + 1 => cn it h p + (if it p = h then 1 else 0)
def tq (S : Nat → Int32) (it : Nat → Nat) (t0 : Nat) : Nat → Nat
  | 0 => t0
  | p + 1 => ldS S (it p) (tq S it t0 p) (S (12 + 4 * it p) + nI (cn it (it p) p))
theorem tq_lt {S : Nat → Int32} {it : Nat → Nat} {t0 n H : Nat} (h0 : t0 < 8) (hv : ∀ h, h < H → hV S h) (hi : ∀ p, p < n → it p < H) : ∀ p, p ≤ n → tq S it t0 p < 8 := by
  intro p
  induction p with
  | zero => intro _; exact h0
  | succ p ih => intro hp; exact ldS_lt (hv _ (hi p (by omega))) (ih (by omega)) _
theorem itemOf_v {X : KX} {r i p : Nat} (hr : r < 8) (hp : i + p < 40) : f_X4_itemOf X (nI r) (nI i + nI p) = some (X 2 (40 * r + i + p)) := by
  unfold f_X4_itemOf
  rw [nI_add, ix40', zGd_n _ (show 40 * r + (i + p) < 320 by omega) (by omega), nI_cl _ (by omega), Nat.add_assoc]
theorem le_n {a b : Nat} (ha : a < 2 ^ 31) (hb : b < 2 ^ 31) : (nI a ≤ nI b) = (a ≤ b) := propext (nI_leI ha hb)
theorem timesAhead_v {N : Nat} (hN : 40000 ≤ N) {X : KX} {r i n j : Nat} {it : Nat → Nat} (hr : r < 8) (hin : i + n ≤ 40) (hx : ∀ p, p < n → X 2 (40 * r + i + p) = nI (it p)) (hi : ∀ p, p < n → it p < 8) (hj : j < n) : f_X3_timesAhead N X (nI r) (nI i) (nI j) = some (nI (cn it (it j) j)) := by
  unfold f_X3_timesAhead
  have key : ∀ k p, p + k = j → ∀ t, k < t → f_X3_timesAhead_6 N X t (nI r) (nI i) (nI j) (nI (cn it (it j) p)) (nI p) = some (nI (cn it (it j) j)) := by
    intro k
    induction k with
    | zero =>
      intro p hp t ht
      obtain ⟨u, rfl⟩ : ∃ u, t = u + 1 := ⟨t - 1, by omega⟩
      have e : p = j := by omega
      subst e
      unfold f_X3_timesAhead_6
      rw [if_pos (by rw [le_n (by omega) (by omega)]; omega)]
    | succ k ih =>
      intro p hp t ht
      obtain ⟨u, rfl⟩ : ∃ u, t = u + 1 := ⟨t - 1, by omega⟩
      unfold f_X3_timesAhead_6
      have := ih (p + 1) (by omega) u (by omega)
      rw [if_neg (by rw [le_n (by omega) (by omega)]; omega), itemOf_v hr (by omega), itemOf_v hr (by omega), hx p (by omega), hx j (by omega)]
      simp only [zB1_s, nIe (show it p < 2 ^ 31 by have := hi p (by omega); omega) (show it j < 2 ^ 31 by have := hi j (by omega); omega)]
      unfold f_X3_timesAhead_39
      rw [show cn it (it j) (p + 1) = cn it (it j) p + (if it p = it j then 1 else 0) from rfl] at this
      by_cases c : it p = it j
      · rw [if_pos c] at this ⊢
        simp only [zLet, nIp]
        exact this
      · rw [if_neg c] at this ⊢
        simp only [zLet, nIp, Int32.add_zero]
        exact this
  exact key j 0 (by omega) N (by omega)
theorem afterRow_v {N : Nat} (hN : 40000 ≤ N) {X : KX} {S : Nat → Int32} {H G r i n t0 : Nat} {it : Nat → Nat} (hc : CK X 7 S H G) (hH : H ≤ 8) (hv : ∀ h, h < H → hV S h) (hr : r < 8) (hin : i + n ≤ 40) (hx : ∀ p, p < n → X 2 (40 * r + i + p) = nI (it p)) (hi : ∀ p, p < n → it p < H) (h0 : t0 < 8) : f_X3_afterRow N X (nI t0) (nI r) (nI i) (nI n) = some (nI (tq S it t0 n)) := by
  unfold f_X3_afterRow
  have key : ∀ k p, p + k = n → ∀ t, k < t → f_X3_afterRow_6 N X t (nI r) (nI i) (nI n) (nI (tq S it t0 p)) (nI p) = some (nI (tq S it t0 n)) := by
    intro k
    induction k with
    | zero =>
      intro p hp t ht
      obtain ⟨u, rfl⟩ : ∃ u, t = u + 1 := ⟨t - 1, by omega⟩
      have e : p = n := by omega
      subst e
      unfold f_X3_afterRow_6
      rw [if_pos (by rw [le_n (by omega) (by omega)]; omega)]
    | succ k ih =>
      intro p hp t ht
      obtain ⟨u, rfl⟩ : ∃ u, t = u + 1 := ⟨t - 1, by omega⟩
      unfold f_X3_afterRow_6
      have := ih (p + 1) (by omega) u (by omega)
      have h1 := hi p (by omega)
      have h8 : it p < 8 := by omega
      rw [if_neg (by rw [le_n (by omega) (by omega)]; omega), itemOf_v hr (by omega), hx p (by omega)]
      simp only [zB1_s]
      rw [zGd_n _ h8 (by decide), nI_cl _ (by omega), timesAhead_v hN hr hin hx (fun p hp => by have := hi p hp; omega) (show p < n by omega)]
      simp only [zB1_s]
      rw [ledFrom_v hc h1 hH (hv _ h1) (tq_lt h0 hv hi p (by omega))]
      simp only [zB1_s, zLet, nIp]
      rw [show X 11 (it p) = S (12 + 4 * it p) from (hc.2.1 _ h1).2.2.2]
      exact this
  exact key n 0 (by omega) N (by omega)
theorem thinksBy_v {N : Nat} (hN : 40000 ≤ N) {M : KX} {S : Nat → Int32} {H P n g t0 : Nat} {it : Nat → Nat} (h6 : M 6 = S) (hH : H ≤ 8) (hv : ∀ h, h < H → hV S h) (hP : P + n ≤ 320) (hx : ∀ p, p < n → M 3 (P + p) = nI (it p)) (hi : ∀ p, p < n → it p < H) (hg : g < 6) (e0 : S (41 + 5 * g) = nI t0) (h0 : t0 < 8) : ∃ M' : KX, f_X7_thinksBy N M (nI g) (nI P) (nI n) = some (nI (tq S it t0 n), M') ∧ ∀ c, c ≠ 14 → M' c = M c := by
  unfold f_X7_thinksBy
  have key2 : ∀ k p, p + k = n → ∀ t, k < t → ∀ M1 : KX, (∀ c, c ≠ 14 → M1 c = M c) → (∀ h, h < 8 → M1 14 h = S (12 + 4 * h) + nI (cn it h p)) → ∃ M' : KX, f_X7_thinksBy_48 N t M1 (nI P) (nI n) (nI (tq S it t0 p)) (nI p) = some (nI (tq S it t0 n), M') ∧ ∀ c, c ≠ 14 → M' c = M c := by
    intro k
    induction k with
    | zero =>
      intro p hp t ht M1 hm h14
      obtain ⟨u, rfl⟩ : ∃ u, t = u + 1 := ⟨t - 1, by omega⟩
      have e : p = n := by omega
      subst e
      unfold f_X7_thinksBy_48
      rw [if_pos (by rw [le_n (by omega) (by omega)]; omega)]
      exact ⟨M1, rfl, hm⟩
    | succ k ih =>
      intro p hp t ht M1 hm h14
      obtain ⟨u, rfl⟩ : ∃ u, t = u + 1 := ⟨t - 1, by omega⟩
      unfold f_X7_thinksBy_48
      have h1 := hi p (by omega)
      have h8 : it p < 8 := by omega
      have G8 : ∀ (α : Type) (e : Option α), zGd (nI (it p)) 8 e = e := fun _ e => zGd_n e h8 (by decide)
      have m6 : M1 6 = S := (hm 6 (by decide)).trans h6
      rw [if_neg (by rw [le_n (by omega) (by omega)]; omega), nI_add, zGd_n _ (show P + p < 320 by omega) (by omega), nI_cl _ (by omega), hm 3 (by decide), hx p (by omega)]
      have l := leadsTo_v (M := M1) (t := tq S it t0 p) h8 (tq_lt h0 hv hi p (by omega)) (by rw [m6]; exact hv _ h1) (M1 14 (it p))
      simp only [zLet, G8, nI_cl _ (show it p < 2 ^ 31 by omega), l, zB1_s, nIp]
      rw [m6, h14 _ h8]
      exact ih (p + 1) (by omega) u (by omega) _ (fun c hc => by rw [zU_o _ _ _ hc]; exact hm c hc) (fun h hh => by
        rw [zU_s]
        rw [show cn it h (p + 1) = cn it h p + (if it p = h then 1 else 0) from rfl]
        by_cases c : it p = h
        · subst c
          rw [up_s, if_pos rfl, ← nIp, Int32.add_assoc]
        · rw [up_o _ _ (fun z => c z.symm), if_neg c, Nat.add_zero]
          exact h14 h hh)
  have key1 : ∀ k p, p + k = 8 → ∀ t, k < t → ∀ M1 : KX, (∀ c, c ≠ 14 → M1 c = M c) → (∀ h, h < p → M1 14 h = S (12 + 4 * h)) → ∃ M' : KX, f_X7_thinksBy_3 N t M1 (nI g) (nI P) (nI n) (nI p) = some (nI (tq S it t0 n), M') ∧ ∀ c, c ≠ 14 → M' c = M c := by
    intro k
    induction k with
    | zero =>
      intro p hp t ht M1 hm h14
      obtain ⟨u, rfl⟩ : ∃ u, t = u + 1 := ⟨t - 1, by omega⟩
      have e : p = 8 := by omega
      subst e
      unfold f_X7_thinksBy_3
      rw [if_pos (show (8 : Int32) ≤ nI 8 by decide), of_0 M1 hg, (hm 6 (by decide)).trans h6, e0]
      simp only [zB1_s]
      exact key2 n 0 (by omega) N (by omega) M1 hm (fun h hh => by rw [h14 h hh]; exact (Int32.add_zero _).symm)
    | succ k ih =>
      intro p hp t ht M1 hm h14
      obtain ⟨u, rfl⟩ : ∃ u, t = u + 1 := ⟨t - 1, by omega⟩
      unfold f_X7_thinksBy_3
      have hp8 : p < 8 := by omega
      have m6 : M1 6 = S := (hm 6 (by decide)).trans h6
      rw [if_neg (by rw [show (8 : Int32) = nI 8 from rfl, le_n (by omega) (by omega)]; omega), ixh, show (nI (9 + 4 * p) + (3 : Int32)) = nI (12 + 4 * p) by rw [show (3 : Int32) = nI 3 from rfl, nI_add]; congr 1; omega, zGd_n _ (show 12 + 4 * p < 71 by omega) (by decide), zGd_n _ hp8 (by decide), nI_cl _ (by omega), nI_cl _ (by omega), m6]
      simp only [zLet, nIp]
      exact ih (p + 1) (by omega) u (by omega) _ (fun c hc => by rw [zU_o _ _ _ hc]; exact hm c hc) (fun h hh => by
        rw [zU_s]
        by_cases c : h = p
        · subst c; rw [up_s]
        · rw [up_o _ _ c]; exact h14 h (by omega))
  exact key1 8 0 (by omega) N (by omega) M (fun _ _ => rfl) (fun h hh => by omega)
theorem nr_main {N : Nat} (hN : 40000 ≤ N) {X M : KX} {lim q w H G ev r i n : Nat} {it : Nat → Nat} (hV : cV (M 6) lim q w H G ev) (hc : CK X 7 (M 6) H G) (hr : r < 8) (hin : i + n ≤ 40) (hx : ∀ p, p < n → X 2 (40 * r + i + p) = nI (it p)) (hm3 : ∀ p, p < n → M 3 (40 * r + i + p) = nI (it p)) (hi : ∀ p, p < n → it p < H) : ∃ (v : Int32) (M' : KX), f_X3_wouldAskButFear N X (nI r) (nI i) (nI n) = some v ∧ f_X7_nearly_105 N N M (nI r) (nI i) (nI n) 0 0 = some (v, zU M' 0 4 0) ∧ ∀ c, c ≠ 14 → M' c = M c := by
  obtain ⟨_, ⟨s1, hq⟩, _, ⟨s7, hH⟩, ⟨s8, hG⟩, _, _, _, _, hhs, hgs, hes⟩ := hV
  have x5 : X 7 5 = nI G := hc.1.2.2.2.2.2.2.2.2.trans s8
  have x1 : X 7 1 = nI q := hc.1.2.1.trans s1
  unfold f_X3_wouldAskButFear
  have key : ∀ k g, g + k = G → ∀ t u, k < t → k < u → ∀ (v : Int32) (M1 : KX), (∀ c, c ≠ 14 → M1 c = M c) → ∃ (v' : Int32) (M' : KX), f_X3_wouldAskButFear_6 N X t (nI r) (nI i) (nI n) v (nI g) = some v' ∧ f_X7_nearly_105 N u M1 (nI r) (nI i) (nI n) v (nI g) = some (v', zU M' 0 4 0) ∧ ∀ c, c ≠ 14 → M' c = M c := by
    intro k
    induction k with
    | zero =>
      intro g hg t u ht hu v M1 hm
      obtain ⟨t, rfl⟩ : ∃ u, t = u + 1 := ⟨t - 1, by omega⟩
      obtain ⟨u, rfl⟩ : ∃ t, u = t + 1 := ⟨u - 1, by omega⟩
      have e : g = G := by omega
      subst e
      unfold f_X3_wouldAskButFear_6 f_X7_nearly_105
      have m6 : M1 6 = M 6 := hm 6 (by decide)
      simp only [z71_0, z71_1, z71_2, z71_3, z71_4, z71_5, z71_6, z71_7, z71_8, cl_0, cl_1, cl_2, cl_3, cl_4, cl_5, cl_6, cl_7, cl_8, m6, s8, x5]
      have hle : nI g ≤ nI g := by rw [le_n (by omega) (by omega)]; omega
      rw [if_pos hle, if_pos hle]
      exact ⟨v, M1, rfl, rfl, hm⟩
    | succ k ih =>
      intro g hg t u ht hu v M1 hm
      obtain ⟨t, rfl⟩ : ∃ u, t = u + 1 := ⟨t - 1, by omega⟩
      obtain ⟨u, rfl⟩ : ∃ t, u = t + 1 := ⟨u - 1, by omega⟩
      have g6 : g < 6 := by omega
      have gG : g < G := by omega
      have m6 : M1 6 = M 6 := hm 6 (by decide)
      have hn0 := ih (g + 1) (by omega) t u (by omega) (by omega)
      unfold f_X3_wouldAskButFear_6 f_X7_nearly_105
      simp only [z71_0, z71_1, z71_2, z71_3, z71_4, z71_5, z71_6, z71_7, z71_8, cl_0, cl_1, cl_2, cl_3, cl_4, cl_5, cl_6, cl_7, cl_8, m6, s8, x5]
      have hle : ¬ nI G ≤ nI g := by rw [le_n (by omega) (by omega)]; omega
      rw [if_neg hle, if_neg hle, stateOf_v hc hG gG (hgs g gG) hes, daresX_v hc hG gG, show f_X7_dares M1 (nI g) = _ from daresM_v g6, m6]
      unfold f_X7_isToCome f_X7_nearly_161 f_X7_nearly_162 f_X7_nearly_179 f_X3_wouldAskButFear_65
      rw [of_3 M1 g6, m6]
      simp only [zB1_s, Int32.or_zero, if_true, zLet, nIp]
      by_cases c0 : M 6 (44 + 5 * g) = 0
      rotate_left
      · simp only [c0, if_false, zB1_s, if_true]
        exact hn0 v M1 hm
      simp only [c0, if_true, zB1_s, z10, if_false]
      by_cases c1 : M 6 (43 + 5 * g) < M 6 (42 + 5 * g)
      rotate_left
      · simp only [c1, if_false, zB1_s, z10]
        exact hn0 v M1 hm
      simp only [c1, if_true, zB1_s]
      obtain ⟨m, fe, bo, ho, f1, f2, _⟩ := hgs g gG
      have y12 : X 12 g = nI m := (hc.2.2.1 g gG).1.trans f1
      rw [zGd_n _ g6 (by decide), nI_cl g (by omega), y12, afterRow_v hN hc hH hhs hr hin hx hi f2]
      obtain ⟨M2, k1, k2⟩ := thinksBy_v hN (M := M1) (P := 40 * r + i) m6 hH hhs (by omega) (fun p hp => by rw [hm 3 (by decide)]; exact hm3 p hp) hi g6 f1 f2
      rw [ix40, k1]
      simp only [zB1_s, zB2_s, show M2 6 1 = nI q by rw [k2 6 (by decide), m6, s1], x1]
      have hm2 : ∀ c, c ≠ 14 → M2 c = M c := fun c hc => (k2 c hc).trans (hm c hc)
      by_cases c2 : nI (tq (M 6) it m n) = nI q
      · simp only [c2, if_true, z10, if_false]
        exact hn0 _ M2 hm2
      · simp only [c2, if_false]
        exact hn0 v M2 hm2
  exact key G 0 (by omega) N N (by omega) (by omega) 0 M (fun _ _ => rfl)
theorem op_nearly {N : Nat} (hN : 40000 ≤ N) : zOp_nearly N Sim := by
  intro X M hS a1 a2 a3
  obtain ⟨lim, q, w, H, G, ev, hV, hC⟩ := hS.2.2.2.2.1
  obtain ⟨_, _, _, ⟨s7, hH⟩, ⟨s8, hG⟩, _⟩ := id hV
  unfold f_X6_nearly f_X7_nearly f_X6_found f_X7_found
  rcases castle_v hV hC with ⟨_, e1, e2⟩ | ⟨_, e1, e2⟩
  · simp only [e1, e2, zLet, zB1_s, zB2_s, z10, eq_self_iff_true, if_true, if_false]
    exact ⟨_, X, M, rfl, rfl, hS⟩
  simp only [e1, e2, zLet, zB1_s, zB2_s, z10, eq_self_iff_true, if_true, if_false]
  rcases rg a1 8 (by decide) with ⟨r, hr, rfl⟩ | h1
  rotate_left
  · simp only [bel8_f h1, isRow_f h1, zLet, zB1_s, zB2_s, z10, eq_self_iff_true, if_true, if_false]
    exact ⟨_, X, M, rfl, rfl, hS⟩
  simp only [bel8_t hr, isRow_t hr, zLet, zB1_s, zB2_s, z10, eq_self_iff_true, if_true, if_false]
  rcases rg a3 9 (by decide) with ⟨n, hn, rfl⟩ | h1
  rotate_left
  · rw [show f_X6_isBelow a3 9 = 0 from isBelow_f (n := 9) h1, show f_X7_in a3 0 8 = 0 from in_f (n := 8) h1 (by decide)]
    simp only [zLet, zB1_s, zB2_s, z10, eq_self_iff_true, if_true, if_false]
    exact ⟨_, X, M, rfl, rfl, hS⟩
  rw [show f_X6_isBelow (nI n) 9 = 1 from isBelow_t (n := 9) hn (by decide), show f_X7_in (nI n) 0 8 = 1 from in_t (n := 8) (by omega) (by decide)]
  simp only [zLet, zB1_s, zB2_s, z10, eq_self_iff_true, if_true, if_false]
  rcases miss_v hr hS.1 with ⟨_, e1, e2⟩ | ⟨⟨k, l, h1, hk, h2, h3, h4, hl, h5⟩, e1, e2⟩
  · simp only [e1, e2, zLet, zB1_s, zB2_s, z10, eq_self_iff_true, if_true, if_false]
    exact ⟨_, _, _, rfl, rfl, sim_st hS 1⟩
  simp only [e1, e2, zLet, zB1_s, zB2_s, z10, eq_self_iff_true, if_true, if_false]
  rcases part_v hr hk h1 h2 a2 (nI n) with ⟨i, n2, q1, q2, q3, q4, q5⟩ | ⟨q4, q5⟩
  rotate_left
  · simp only [q4, q5, zLet, zB1_s, zB2_s, z10, eq_self_iff_true, if_true, if_false]
    exact ⟨_, _, _, rfl, rfl, sim_st hS 2⟩
  simp only [q4, q5, zLet, zB1_s, zB2_s, z10, eq_self_iff_true, if_true, if_false]
  subst q1
  have e : n = n2 := by
    by_cases c9 : n2 < 2 ^ 31
    · exact nI_inj (by omega) c9 q2
    · omega
  subst e
  have hin : i + n ≤ 40 := by omega
  have hx7 : X 7 4 = nI H := hC.1.2.2.2.2.2.2.2.1.trans s7
  have key : ∀ k p, p + k = n → ∀ (it : Nat → Nat), (∀ j, j < p → it j < H ∧ X 2 (40 * r + i + j) = nI (it j)) → ∀ t u, k < t → k < u → (f_X6_nearly_73 N t X (nI r) (nI i) (nI n) (nI p) = some (-1000001, X) ∧ f_X7_nearly_63 N u M (nI r) (nI i) (nI n) (nI p) = some (-1000001, M)) ∨ (∃ it : Nat → Nat, (∀ j, j < n → it j < H ∧ X 2 (40 * r + i + j) = nI (it j)) ∧ f_X6_nearly_73 N t X (nI r) (nI i) (nI n) (nI p) = zB1 (f_X3_wouldAskButFear N X (nI r) (nI i) (nI n)) (fun r_1 => zB2 (f_X6_foundNothing X r_1) (fun r_2 X_3 => some (r_2, X_3))) ∧ f_X7_nearly_63 N u M (nI r) (nI i) (nI n) (nI p) = f_X7_nearly_105 N N M (nI r) (nI i) (nI n) 0 0) := by
    intro k
    induction k with
    | zero =>
      intro p hp it hit t u ht hu
      obtain ⟨t, rfl⟩ : ∃ u, t = u + 1 := ⟨t - 1, by omega⟩
      obtain ⟨u, rfl⟩ : ∃ t, u = t + 1 := ⟨u - 1, by omega⟩
      have e : p = n := by omega
      subst e
      unfold f_X6_nearly_73 f_X7_nearly_63
      have hle : nI p ≤ nI p := by rw [le_n (by omega) (by omega)]; omega
      rw [if_pos hle, if_pos hle]
      exact Or.inr ⟨it, hit, rfl, rfl⟩
    | succ k ih =>
      intro p hp it hit t u ht hu
      obtain ⟨t, rfl⟩ : ∃ u, t = u + 1 := ⟨t - 1, by omega⟩
      obtain ⟨u, rfl⟩ : ∃ t, u = t + 1 := ⟨u - 1, by omega⟩
      unfold f_X6_nearly_73 f_X7_nearly_63
      have hle : ¬ nI n ≤ nI p := by rw [le_n (by omega) (by omega)]; omega
      rw [if_neg hle, if_neg hle, itemOf_v hr (by omega), ix40, nI_add, zGd_n _ (show 40 * r + i + p < 320 by omega) (by omega), nI_cl _ (by omega), show M 3 (40 * r + i + p) = X 2 (40 * r + i + p) by rw [Nat.add_assoc]; exact (h5 (i + p) (by omega)).symm]
      simp only [zB1_s]
      rcases isHint_v hH hx7 s7 (X 2 (40 * r + i + p)) with ⟨h, hh, e0, e1, e2⟩ | ⟨e1, e2⟩
      · simp only [e1, e2, zB1_s, z10, if_false, zLet, nIp]
        refine ih (p + 1) (by omega) (fun j => if j = p then h else it j) (fun j hj => ?_) t u (by omega) (by omega)
        by_cases c : j = p
        · simp only [c, if_true]; exact ⟨hh, e0⟩
        · simp only [c, if_false]; exact hit j (by omega)
      · simp only [e1, e2, zB1_s, if_true]
        exact Or.inl ⟨trivial, trivial⟩
  rcases key n 0 (by omega) (fun _ => 0) (fun j hj => by omega) N N (by omega) (by omega) with ⟨e1, e2⟩ | ⟨it, hit, e1, e2⟩
  · exact ⟨_, X, M, e1, e2, hS⟩
  · obtain ⟨v, M', b1, b2, b3⟩ := nr_main hN hV hC hr hin (fun p hp => (hit p hp).2) (fun p hp => by rw [Nat.add_assoc, ← h5 (i + p) (by omega), ← Nat.add_assoc]; exact (hit p hp).2) (fun p hp => (hit p hp).1)
    refine ⟨v, zU X 0 10 0, zU M' 0 4 0, ?_, e2.trans b2, sim_st (sim_scr hS (fun _ _ _ => rfl) (fun c _ _ _ c4 => b3 c c4)) 0⟩
    refine e1.trans ?_
    rw [b1]
    rfl
