def vC (S : Nat → Int32) (sh : Nat → Bool) (a t0 q n c : Nat) : Prop := (if sh t0 = true then none else evl (ld S) sh a t0 (dig n c)) = some q
def ansR (a3 : Int32) (F C : Nat) : Int32 := if a3 = -1 then nI F else if nI F ≤ a3 then -1000000 else nI ((dig F C).getD a3.toNatClampNeg 0)
theorem a3_cases {a3 : Int32} (h : (-1 : Int32) ≤ a3) : a3 = -1 ∨ ∃ k, k < 2 ^ 31 ∧ a3 = nI k := by
  by_cases c : a3 = -1
  · exact Or.inl c
  · right
    rw [Int32.le_iff_toInt_le] at h
    have h1 : (-1 : Int32).toInt = -1 := by decide
    rw [h1] at h
    have h2 : a3.toInt ≠ -1 := fun z => c (Int32.toInt_inj.mp (by rw [z, h1]))
    have h3 := Int32.toInt_lt a3
    refine ⟨a3.toInt.toNat, by omega, Int32.toInt_inj.mp ?_⟩
    rw [nI_toInt (by omega)]
    omega
theorem r54_v {N : Nat} (hN : 40000 ≤ N) {M : KX} {lim q w H G ev g a t0 n c : Nat} {a2 a3 : Int32} {sh : Nat → Bool} (hV : cV (M 6) lim q w H G ev) (hg : g < G) (e0 : M 6 (41 + 5 * g) = nI t0) (h0 : t0 < 8) (ha : a < 2 ^ H) (hah : f_X7_ahead M (nI g) = some (nI a)) (hn : n ≤ 5) (hc : c < 8 ^ n) (hs : (a2 = 0 ∧ ∀ u, sh u = false) ∨ (a2 = 1 ∧ ∀ u, sh u = (u == w))) (h3 : (-1 : Int32) ≤ a3) (k41 : Int32 → Int32 → Int32 → Int32 → Option Int32) (t : Nat) : (vC (M 6) sh a t0 q n c → f_X7_route_54 N M k41 (t + 1) (nI g) a2 a3 (nI n) (nI c) = some (ansR a3 n c)) ∧ (¬ vC (M 6) sh a t0 q n c → f_X7_route_54 N M k41 (t + 1) (nI g) a2 a3 (nI n) (nI c) = f_X7_route_54 N M k41 t (nI g) a2 a3 (nI n) (nI (c + 1))) := by
  obtain ⟨⟨s0, hlim⟩, ⟨s1, hq⟩, ⟨s2, hw⟩, ⟨s7, hH⟩, ⟨s8, hG⟩, _, _, _, _, hhs, hgs, hes⟩ := id hV
  obtain ⟨p1, p2⟩ := pow8 (show n ≤ 8 by omega)
  have he := endOf_v hN (M := M) (n := n) (c := c) rfl s2 hw hH hhs (by omega) (by omega) hs (by omega) e0 h0 ha hah
  have hl : ∀ u, (if sh t0 = true then none else evl (ld (M 6)) sh a t0 (dig n c)) = some u → u < 8 := by
    intro u hu
    by_cases d : sh t0 = true
    · rw [if_pos d] at hu; exact absurd hu (by simp)
    · rw [if_neg d] at hu
      exact evl_lt hhs _ _ _ u ha h0 hu
  have e1 : f_X7_route_54 N M k41 (t + 1) (nI g) a2 a3 (nI n) (nI c) = f_X7_route_82 N M k41 (f_X7_route_54 N M k41 t) a2 (nI n) (nI c) (nI g) (nI g) a2 a3 (nI n) (nI c) := by
    rw [f_X7_route_54, power_v hN (by omega)]
    simp only [zB1_s]
    rw [if_neg (by rw [le_n p2 (by omega)]; omega)]
    rcases hs with ⟨rfl, _⟩ | ⟨rfl, _⟩
    · rw [if_neg (by decide)]
    · rw [if_pos rfl]
  rw [e1]
  unfold f_X7_route_82
  rw [he]
  simp only [zB1_s, z71_0, z71_1, z71_2, z71_3, z71_4, z71_5, z71_6, z71_7, z71_8, cl_0, cl_1, cl_2, cl_3, cl_4, cl_5, cl_6, cl_7, cl_8, s1, zLet, nIp]
  unfold vC
  generalize (if sh t0 = true then none else evl (ld (M 6)) sh a t0 (dig n c)) = o at hl ⊢
  constructor
  · intro hv
    rw [if_pos ((oI_q hl hq).mpr hv)]
    unfold ansR
    rcases a3_cases h3 with rfl | ⟨k, hk, rfl⟩
    · rw [if_pos rfl, if_pos rfl]
    · have hk1 : ¬ nI k = (-1 : Int32) := m1_ne k hk
      rw [if_neg hk1, if_neg hk1]
      by_cases d : n ≤ k
      · rw [if_pos (by rw [le_n (by omega) hk]; exact d), if_pos (by rw [le_n (by omega) hk]; exact d)]
      · rw [if_neg (by rw [le_n (by omega) hk]; exact d), if_neg (by rw [le_n (by omega) hk]; exact d), show (nI n - 1) - nI k = nI (n - 1 - k) by rw [show (1 : Int32) = nI 1 from rfl, sub_n (by omega), sub_n (by omega)], power_v hN (by omega)]
        simp only [zB1_s]
        obtain ⟨r1, r2⟩ := pow8 (show n - 1 - k ≤ 8 by omega)
        rw [gz r1 r2, pk_div (by omega) r1 r2, show (8 : Int32) = nI 8 from rfl, rem_v (Nat.lt_of_le_of_lt (Nat.div_le_self _ _) (by omega)) (by decide) (by decide), nI_cl k hk, dig_get n c k (by omega)]
  · intro hv
    rw [if_neg (fun z => hv ((oI_q hl hq).mp z))]
theorem r41_v {N : Nat} (hN : 40000 ≤ N) {M : KX} {lim q w H G ev g a t0 m : Nat} {a2 a3 : Int32} {sh : Nat → Bool} (hV : cV (M 6) lim q w H G ev) (hg : g < G) (e0 : M 6 (41 + 5 * g) = nI t0) (h0 : t0 < 8) (ha : a < 2 ^ H) (hah : f_X7_ahead M (nI g) = some (nI a)) (hat : f_X7_atMost N M (nI g) = some (nI m)) (hm : m ≤ 5) (hs : (a2 = 0 ∧ ∀ u, sh u = false) ∨ (a2 = 1 ∧ ∀ u, sh u = (u == w))) (h3 : (-1 : Int32) ≤ a3) : ((∀ n c, n ≤ m → c < 8 ^ n → ¬ vC (M 6) sh a t0 q n c) → f_X7_route_41 N M N (nI g) a2 a3 0 = some (-1000000)) ∧ ∀ F C, F ≤ m → C < 8 ^ F → vC (M 6) sh a t0 q F C → (∀ n c, n < F → c < 8 ^ n → ¬ vC (M 6) sh a t0 q n c) → (∀ c, c < C → ¬ vC (M 6) sh a t0 q F c) → f_X7_route_41 N M N (nI g) a2 a3 0 = some (ansR a3 F C) := by
  have st := fun n c hn hc => r54_v hN (n := n) (c := c) (a3 := a3) hV hg e0 h0 ha hah hn hc hs h3
  have p3 : ∀ n, n ≤ 5 → 8 ^ n ≤ 32768 := fun n hn => (Nat.pow_le_pow_right (by decide) hn : 8 ^ n ≤ 8 ^ 5)
  have over : ∀ n, n ≤ 5 → (∀ c, c < 8 ^ n → ¬ vC (M 6) sh a t0 q n c) → ∀ (k41 : Int32 → Int32 → Int32 → Int32 → Option Int32) j c, c + j = 8 ^ n → ∀ t, j < t → f_X7_route_54 N M k41 t (nI g) a2 a3 (nI n) (nI c) = k41 (nI g) a2 a3 (nI (n + 1)) := by
    intro n hn hno k41 j
    induction j with
    | zero =>
      intro c hc t ht
      obtain ⟨t, rfl⟩ : ∃ u, t = u + 1 := ⟨t - 1, by omega⟩
      have e : c = 8 ^ n := by omega
      subst e
      have := p3 n hn
      rw [f_X7_route_54, power_v hN (by omega)]
      simp only [zB1_s]
      rw [if_pos (by rw [le_n (by omega) (by omega)]; omega)]
      simp only [zLet, nIp]
    | succ j ih =>
      intro c hc t ht
      obtain ⟨t, rfl⟩ : ∃ u, t = u + 1 := ⟨t - 1, by omega⟩
      rw [(st n c hn (by omega) k41 t).2 (hno c (by omega))]
      exact ih (c + 1) (by omega) t (by omega)
  have hit : ∀ F C, F ≤ 5 → C < 8 ^ F → vC (M 6) sh a t0 q F C → (∀ c, c < C → ¬ vC (M 6) sh a t0 q F c) → ∀ (k41 : Int32 → Int32 → Int32 → Int32 → Option Int32) j c, c + j = C → ∀ t, j < t → f_X7_route_54 N M k41 t (nI g) a2 a3 (nI F) (nI c) = some (ansR a3 F C) := by
    intro F C hF hC hv hno k41 j
    induction j with
    | zero =>
      intro c hc t ht
      obtain ⟨t, rfl⟩ : ∃ u, t = u + 1 := ⟨t - 1, by omega⟩
      have e : c = C := by omega
      subst e
      exact (st F c hF hC k41 t).1 hv
    | succ j ih =>
      intro c hc t ht
      obtain ⟨t, rfl⟩ : ∃ u, t = u + 1 := ⟨t - 1, by omega⟩
      rw [(st F c hF (by omega) k41 t).2 (hno c (by omega))]
      exact ih (c + 1) (by omega) t (by omega)
  constructor
  · intro hno
    have key : ∀ j n, n + j = m + 1 → ∀ t, j < t → f_X7_route_41 N M t (nI g) a2 a3 (nI n) = some (-1000000) := by
      intro j
      induction j with
      | zero =>
        intro n hn t ht
        obtain ⟨t, rfl⟩ : ∃ u, t = u + 1 := ⟨t - 1, by omega⟩
        unfold f_X7_route_41
        rw [hat]
        simp only [zB1_s]
        rw [if_pos (by rw [nI_ltI (by omega) (by omega)]; omega)]
      | succ j ih =>
        intro n hn t ht
        obtain ⟨t, rfl⟩ : ∃ u, t = u + 1 := ⟨t - 1, by omega⟩
        have := p3 n (by omega)
        unfold f_X7_route_41
        rw [hat]
        simp only [zB1_s]
        rw [if_neg (by rw [nI_ltI (by omega) (by omega)]; omega)]
        have o := over n (by omega) (fun c hc => hno n c (by omega) hc) (f_X7_route_41 N M t) (8 ^ n) 0 (by omega) N (by omega)
        exact o.trans (ih (n + 1) (by omega) t (by omega))
    exact key (m + 1) 0 (by omega) N (by omega)
  · intro F C hF hC hv hlow hno
    have key : ∀ j n, n + j = F → ∀ t, j < t → f_X7_route_41 N M t (nI g) a2 a3 (nI n) = some (ansR a3 F C) := by
      intro j
      induction j with
      | zero =>
        intro n hn t ht
        obtain ⟨t, rfl⟩ : ∃ u, t = u + 1 := ⟨t - 1, by omega⟩
        have e : n = F := by omega
        subst e
        have := p3 n (by omega)
        unfold f_X7_route_41
        rw [hat]
        simp only [zB1_s]
        rw [if_neg (by rw [nI_ltI (by omega) (by omega)]; omega)]
        exact hit n C (by omega) hC hv hno (f_X7_route_41 N M t) C 0 (by omega) N (by omega)
      | succ j ih =>
        intro n hn t ht
        obtain ⟨t, rfl⟩ : ∃ u, t = u + 1 := ⟨t - 1, by omega⟩
        have := p3 n (by omega)
        unfold f_X7_route_41
        rw [hat]
        simp only [zB1_s]
        rw [if_neg (by rw [nI_ltI (by omega) (by omega)]; omega)]
        have o := over n (by omega) (fun c hc => hlow n c (by omega) hc) (f_X7_route_41 N M t) (8 ^ n) 0 (by omega) N (by omega)
        exact o.trans (ih (n + 1) (by omega) t (by omega))
    exact key F 0 (by omega) N (by omega)
/-- the routes are the same -/
theorem nodup_pc {H a : Nat} (hH : H ≤ 8) (ha : a < 2 ^ H) {l : List Nat} (hn : l.Nodup) (hl : ∀ h, h ∈ l → a.testBit h = true) : l.length ≤ pc a := by
  have a8 := lt8_v H hH a ha
  have hlt : ∀ h, h ∈ l → h < H := fun h hh => bit_H ha (hl h hh)
  rw [← pc_len hH _ l rfl hlt hn]
  refine pc_mono (lt8_v H hH _ (bit_ltp fun i hi => hlt i ((mkl_mem l i).mp hi))) a8 (fun i hi => hl i ((mkl_mem l i).mp hi))
theorem vC_iff {S : Nat → Int32} {H a t0 q n c : Nat} {sh : Nat → Bool} (hH : H ≤ 8) (ha : a < 2 ^ H) : vC S sh a t0 q n c ↔ (dig n c).Nodup ∧ rc (ld S) (fun h => h < H ∧ a.testBit h = true) (fun u => sh u = true) q t0 (dig n c) := by
  have a8 := lt8_v H hH a ha
  unfold vC
  by_cases d : sh t0 = true
  · rw [if_pos d]
    exact ⟨fun z => absurd z (by simp), fun z => absurd d (rc_sh z.2)⟩
  · rw [if_neg d, evl_iff _ a t0 a8 (dig_8 n c) (by simpa using d)]
    constructor
    · intro ⟨z1, z2⟩; exact ⟨z1, rc_in _ _ z2 (fun i _ y => ⟨bit_H ha y, y⟩)⟩
    · intro ⟨z1, z2⟩; exact ⟨z1, rc_in _ _ z2 (fun i _ y => y.2)⟩
theorem route_v {N : Nat} (hN : 40000 ≤ N) {X X1 M : KX} {lim q w H G ev g a t0 m : Nat} {a2 a3 : Int32} {sh : Nat → Bool} (hV : cV (M 6) lim q w H G ev) (hC : CK X1 7 (M 6) H G) (hg : g < G) (e0 : M 6 (41 + 5 * g) = nI t0) (h0 : t0 < 8) (ha : a < 2 ^ H) (hah : f_X7_ahead M (nI g) = some (nI a)) (hat : f_X7_atMost N M (nI g) = some (nI (if m ≤ pc a then m else pc a))) (hm : m ≤ lim) (hs : (a2 = 0 ∧ ∀ u, sh u = false) ∨ (a2 = 1 ∧ ∀ u, sh u = (u == w))) (h3 : (-1 : Int32) ≤ a3) (hn : nrS X1 (M 6) H a (fun u => sh u = true) q lim) (hq2 : ¬ sh q = true) : ∃ r, zB1 (f_X3_fewestFrom N X1 (nI t0) (nI m)) (fun r_2 => if r_2 = (-1000000) then (some (r_2, X1)) else (if a3 = (-1) then (some (r_2, X1)) else (if r_2 ≤ a3 then (some ((-1000000), X1)) else (zB1 (f_X3_hintOfRoute N X1 (nI g) r_2 a3) (fun r_3 => some (r_3, X1)))))) = some (r, X1) ∧ f_X7_route_41 N M N (nI g) a2 a3 0 = some r := by
  obtain ⟨⟨s0, hlim⟩, ⟨s1, hq⟩, ⟨s2, hw⟩, ⟨s7, hH⟩, ⟨s8, hG⟩, _, _, _, _, hhs, hgs, hes⟩ := id hV
  have a8 := lt8_v H hH a ha
  have hpa := pc_le a a8
  obtain ⟨m1, m2⟩ := r41_v hN (m := if m ≤ pc a then m else pc a) hV hg e0 h0 ha hah hat (by split <;> omega) hs h3
  have hP : pP (ld (M 6)) (fun h => h < H ∧ a.testBit h = true) := fun h hh => ld_P (M 6) H h hh.1
  obtain ⟨r, r1, r2⟩ := fewF_v hN hn hlim hm h0
  rw [r1]
  simp only [zB1_s]
  rcases r2 with ⟨e, z⟩ | ⟨F, z1, e, z2, z3⟩
  · rw [if_pos e, e]
    refine ⟨_, rfl, m1 fun n c hnm hc hv => ?_⟩
    have hv' := (vC_iff hH ha).mp hv
    exact z n (by split at hnm <;> omega) ⟨dig n c, by rw [dig_len]; exact Nat.le_refl _, hv'.2⟩
  · obtain ⟨L, L1, L2, L3⟩ := greedy F t0 z2 z3
    have L8 : ∀ h, h ∈ L → h < 8 := fun h hh => by have := (rc_mem _ _ L2 h hh).1; omega
    have Lnd : L.Nodup := by
      apply Classical.byContradiction
      intro hnd
      obtain ⟨l', k1, k2⟩ := rc_short hP L t0 L2 hnd
      exact z3 l'.length (by omega) ⟨l', Nat.le_refl _, k1⟩
    have Lpc := nodup_pc hH ha Lnd (fun h hh => (rc_mem _ _ L2 h hh).2)
    have hdL : dig F (cd L) = L := by rw [← L1]; exact dig_cd L L8
    have hM := m2 F (cd L) (by split <;> omega) (by rw [← L1]; exact cd_lt L L8) ((vC_iff hH ha).mpr (by rw [hdL]; exact ⟨Lnd, L2⟩)) (fun n c hnF hc hv => by
        have hv' := (vC_iff hH ha).mp hv
        exact z3 n hnF ⟨dig n c, by rw [dig_len]; exact Nat.le_refl _, hv'.2⟩) (fun c hc hv => by
        have hv' := (vC_iff hH ha).mp hv
        have hcd := cd_lt L L8
        rw [L1] at hcd
        have := greedy_min L (dig F c) t0 L3 hv'.2 (by rw [dig_len, L1]) L8
        rw [cd_dig F c (by omega)] at this
        omega)
    rw [hM]
    unfold ansR
    rw [e, if_neg (nIm F (by omega)), hdL]
    by_cases d1 : a3 = -1
    · rw [if_pos d1, if_pos d1]; exact ⟨_, rfl, rfl⟩
    · rw [if_neg d1, if_neg d1]
      by_cases d2 : nI F ≤ a3
      · rw [if_pos d2, if_pos d2]; exact ⟨_, rfl, rfl⟩
      · rw [if_neg d2, if_neg d2]
        obtain ⟨k, hk, rfl⟩ := (a3_cases h3).resolve_left d1
        rw [le_n (by omega) hk] at d2
        unfold f_X3_hintOfRoute
        have y12 : X1 12 g = nI t0 := (hC.2.2.1 g hg).1.trans e0
        have hh := hintR_v hN hC (hC.1.2.2.2.2.2.2.2.1.trans s7) hH hhs hn a8 hlim (show F ≤ lim by omega) (show k < F by omega) L 0 t0 (-1000000) N (by omega) (by omega) (by omega) h0 L3
        rw [zGd_n _ (show g < 6 by omega) (by decide), nI_cl g (by omega), y12]
        simp only [zLet]
        rw [show (0 : Int32) = nI 0 from rfl, hh, nI_cl k hk]
        exact ⟨_, rfl, rfl⟩
theorem op_route {N : Nat} (hN : 40000 ≤ N) : zOp_route N Sim := by
  intro X M hS a1 a2 a3
  obtain ⟨lim, q, w, H, G, ev, hV, hC⟩ := hS.2.2.2.2.1
  obtain ⟨⟨s0, hlim⟩, ⟨s1, hq⟩, ⟨s2, hw⟩, ⟨s7, hH⟩, ⟨s8, hG⟩, _, _, hl0, hqw, hhs, hgs, hes⟩ := id hV
  unfold f_X6_route f_X7_route
  rcases isGuest_v hG (hC.1.2.2.2.2.2.2.2.2.trans s8) s8 a1 with ⟨g, hg, rfl, e1, e2⟩ | ⟨e1, e2⟩
  rotate_left
  · simp only [e1, e2, zLet, zB1_s, zB2_s, z10, eq_self_iff_true, if_true, if_false]
    exact ⟨_, X, M, rfl, ⟨rfl, rfl⟩, hS⟩
  have g6 : g < 6 := by omega
  simp only [e1, e2, zLet, zB1_s, zB2_s, z10, eq_self_iff_true, if_true, if_false]
  rcases rg a2 2 (by decide) with ⟨sa, hsa, rfl⟩ | h1
  rotate_left
  · simp only [bel2_f h1, in2_f h1, zLet, zB1_s, zB2_s, z10, eq_self_iff_true, if_true, if_false]
    exact ⟨_, X, M, rfl, ⟨rfl, rfl⟩, hS⟩
  simp only [bel2_t hsa, in2_t hsa, zLet, zB1_s, zB2_s, z10, eq_self_iff_true, if_true, if_false]
  by_cases h3 : (-1 : Int32) ≤ a3
  rotate_left
  · simp only [h3, zLet, zB1_s, zB2_s, z10, eq_self_iff_true, if_true, if_false]
    exact ⟨_, X, M, rfl, ⟨rfl, rfl⟩, hS⟩
  simp only [h3, of_3 M g6, stateOf_v hC hG hg (hgs g hg) hes, zLet, zB1_s, zB2_s, z10, eq_self_iff_true, if_true, if_false]
  by_cases c : M 6 (44 + 5 * g) = 2
  · simp only [c, zLet, zB1_s, zB2_s, z10, eq_self_iff_true, if_true, if_false]
    exact ⟨_, X, M, rfl, ⟨rfl, rfl⟩, hS⟩
  simp only [c, zLet, zB1_s, zB2_s, z10, eq_self_iff_true, if_true, if_false]
  obtain ⟨t0, fe, bo, ho, f1, f2, _⟩ := hgs g hg
  have y12 : X 12 g = nI t0 := (hC.2.2.1 g hg).1.trans f1
  obtain ⟨a, m, b1, b2, b3, b4, b5, b6⟩ := ahead_v hN (M := M) rfl hV hC hg
  have a8 := lt8_v H hH a b1
  have lp : 0 < lim := by
    rcases Nat.eq_zero_or_pos lim with z | z
    · have := (hl0 z).2; omega
    · exact z
  have x4 : X 7 4 = nI H := hC.1.2.2.2.2.2.2.2.1.trans s7
  have x72 : X 7 2 = nI w := hC.1.2.2.1.trans s2
  have fin : ∀ (mask : Int32) (sh : Nat → Bool), f_X3_measure N X (nI a) (nI sa) = f_X3_measure_14 N X mask (nI a) → (∀ d, d < 256 → ∃ d', d' < 256 ∧ nI d &&& (mask ^^^ (-1)) = nI d' ∧ ∀ t, t < 8 → (d'.testBit t = true ↔ d.testBit t = true ∧ ¬ (fun u => sh u = true) t)) → ((nI sa = 0 ∧ ∀ u, sh u = false) ∨ (nI sa = 1 ∧ ∀ u, sh u = (u == w))) → ¬ sh q = true → ∃ (r : Int32) (X' M' : KX), f_X6_route_68 N X (nI sa) (f_X2_hintsAhead X (nI g)) (nI g) a3 = some (r, X') ∧ (f_X7_route_41 N M N (nI g) (nI sa) a3 0 = some r ∧ M' = M) ∧ Sim X' M' := by
    intro mask sh hme hmk hs hsq
    obtain ⟨X1, m1, m2, m3⟩ := meas_v hN mask hC hH hhs x4 (hC.1.1.trans s0) hlim (hC.1.2.1.trans s1) hq a8 hmk hsq
    have hX : fX X1 X := m2
    obtain ⟨r, r1, r2⟩ := route_v hN (X := X) (a3 := a3) hV (CK_f hX hC) hg f1 f2 b1 b4 b6 b2 hs h3 m3 hsq
    have l1 : f_X2_leftAhead X1 (nI g) = f_X2_leftAhead X (nI g) := by
      unfold f_X2_leftAhead; rw [hX 7 (by decide) (by decide)]
    refine ⟨r, X1, M, ?_, ⟨r2, rfl⟩, sim_scr hS hX (fun _ _ _ _ _ => rfl)⟩
    unfold f_X6_route_68
    rw [b3, hme, m1]
    simp only [zB1_s]
    rw [l1, b5, zGd_n _ g6 (by decide), nI_cl g (by omega), hX 12 (by decide) (by decide), y12]
    exact r1
  match sa, hsa with
  | 0, _ =>
    rw [if_neg (show ¬ nI 0 = 1 by decide)]
    exact fin 0 (fun _ => false) (by unfold f_X3_measure; rw [if_pos (show nI 0 = 0 from rfl)]) (fun d hd => ⟨d, hd, m0_v d hd, fun t ht => ⟨fun z => ⟨z, fun y => absurd y (by simp)⟩, fun z => z.1⟩⟩) (Or.inl ⟨rfl, fun _ => rfl⟩) (by simp)
  | 1, _ =>
    rw [if_pos (show nI 1 = 1 from rfl)]
    refine fin (zShl 1 (nI w)) (fun u => u == w) (by unfold f_X3_measure; rw [if_neg (show ¬ nI 1 = 0 by decide), x72]) (fun d hd => ⟨clr d w, Nat.lt_of_le_of_lt (clr_le _ _) hd, clr8_v d hd w hw, fun t ht => ?_⟩) (Or.inr ⟨rfl, fun _ => rfl⟩) (by simp; exact hqw lp)
    rw [clr_tb8 d hd w hw t ht, Bool.and_eq_true]
    simp
