def pcn (a : Nat) : Nat → Nat
  | 0 => 0
  | i + 1 => pcn a i + (if a.testBit i then 1 else 0)
theorem bit_v : ∀ a, a < 256 → ∀ i, i < 8 → (zShr (nI a) (nI i)) &&& 1 = nI (if a.testBit i then 1 else 0) := by decide +kernel
theorem pcn8 : ∀ a, a < 256 → pcn a 8 = pc a := by decide +kernel
theorem pc_le : ∀ a, a < 256 → pc a ≤ 8 := by decide +kernel
theorem ones_v {n : Nat} (hn : 40000 ≤ n) {a : Nat} (ha : a < 256) : f_X7_ones n (nI a) = some (nI (pc a)) := by
  rw [← pcn8 a ha]
  have h := loop_re (fun t i (c : Int32) => f_X7_ones_4 n t (nI a) c (nI i)) 8 (fun i c => c = nI (pcn a i)) (fun o => o = some (nI (pcn a 8))) ?_ ?_ 8 0 0 (by omega) rfl n (by omega)
  · exact h
  · intro i c hi hc
    refine ⟨nI (pcn a (i + 1)), rfl, fun t => ?_⟩
    show f_X7_ones_4 n (t + 1) (nI a) c (nI i) = f_X7_ones_4 n t (nI a) (nI (pcn a (i + 1))) (nI (i + 1))
    rw [f_X7_ones_4, if_neg (fun q => by have := (nI_leI (a := 8) (by omega) (by omega)).mp q; omega)]
    simp only [zLet, nIp, bit_v a ha i hi, hc, nI_add]
    rfl
  · intro t c hc
    show f_X7_ones_4 n (t + 1) (nI a) c (nI 8) = _
    rw [f_X7_ones_4, if_pos (show (8 : Int32) ≤ nI 8 from Int32.le_refl _), hc]
theorem stateOf_v {X : KX} {S : Nat → Int32} {H G g : Nat} (hc : CK X 7 S H G) (hG : G ≤ 6) (hg : g < G) (hv : gV S g) (he : eV S G) : f_X2_stateOf X (nI g) = S (44 + 5 * g) := by
  unfold f_X2_stateOf
  obtain ⟨b, hb, hb1, hb2⟩ := hc.2.2.2.1
  obtain ⟨m, fe, bo, ho, _, _, _, _, _, _, e4, ho2, _⟩ := hv
  rw [hb1, has_tb b (by omega) g (by omega), hc.1.2.2.2.1]
  by_cases c : b.testBit g = true
  · have := (hb2 g (by omega)).mp c
    simp only [c, if_true, this.2]
    rfl
  · have hn2 : ¬ S (44 + 5 * g) = 2 := fun q => c ((hb2 g (by omega)).mpr ⟨hg, q⟩)
    have h2 : ho ≠ 2 := fun q => hn2 (by rw [e4, q]; rfl)
    simp only [c, Bool.false_eq_true, if_false, if_true]
    rcases he with ⟨e1, e2, e3⟩ | ⟨g0, e0, e1, e2, e3⟩
    · have h1 : ho ≠ 1 := fun q => e3 g hg (by rw [e4, q]; rfl)
      have : ho = 0 := by omega
      rw [e1, if_neg, e4, this]
      · rfl
      · intro q
        have := congrArg Int32.toInt q
        rw [nI_toInt (by omega)] at this
        simp at this
    · rw [e1]
      by_cases d : g0 = g
      · rw [if_pos (by rw [d]), (e3 g hg).mpr d.symm]
      · rw [if_neg (fun q => d (nI_inj (by omega) (by omega) q))]
        have h1 : ho ≠ 1 := fun q => d ((e3 g hg).mp (by rw [e4, q]; rfl)).symm
        have : ho = 0 := by omega
        rw [e4, this]
        rfl
theorem daresX_v {X : KX} {S : Nat → Int32} {H G g : Nat} (hc : CK X 7 S H G) (hG : G ≤ 6) (hg : g < G) : f_X2_dares X (nI g) = (if S (43 + 5 * g) < S (42 + 5 * g) then some 0 else some 1) := by
  unfold f_X2_dares
  obtain ⟨_, y2, y3, _⟩ := hc.2.2.1 g hg
  have y2 : X 13 g = S (42 + 5 * g) := y2
  have y3 : X 14 g = S (43 + 5 * g) := y3
  rw [zGd_n _ (by omega) (by omega), zGd_n _ (by omega) (by omega), nI_cl _ (by omega), y2, y3]
theorem daresM_v {M : KX} {g : Nat} (hg : g < 6) : f_X7_dares M (nI g) = (if M 6 (43 + 5 * g) < M 6 (42 + 5 * g) then some 0 else some 1) := by
  unfold f_X7_dares
  rw [of_2 M hg, of_1 M hg]
  rfl
theorem op_fault {N : Nat} : zOp_fault N Sim := fun X M hS => ⟨_, X, M, ⟨rfl, rfl⟩, ⟨hS.2.2.2.1.2.symm, rfl⟩, hS⟩
theorem op_status {N : Nat} : zOp_status N Sim := fun X M hS => ⟨_, X, M, ⟨rfl, rfl⟩, ⟨hS.2.2.2.1.1.symm, rfl⟩, hS⟩
theorem op_feed {N : Nat} : zOp_feed N Sim := by
  intro X M hS a1
  obtain ⟨hR, hT, hTr, hSt, hNw, hDr, ⟨hI0, hI1⟩, hA⟩ := id hS
  unfold f_X6_feed f_X7_feed f_X5_append
  rcases rg a1 256 (by decide) with ⟨b, hb, rfl⟩ | h1
  rotate_left
  · simp only [show f_X6_isBelow a1 256 = 0 from isBelow_f (n := 256) h1, show f_X7_in a1 0 255 = 0 from in_f (n := 255) h1 (by decide), zLet, zB1_s, zB2_s, z10, eq_self_iff_true, if_true, if_false]
    exact ⟨_, X, M, rfl, rfl, hS⟩
  simp only [show f_X6_isBelow (nI b) 256 = 1 from isBelow_t (n := 256) hb (by decide), show f_X7_in (nI b) 0 255 = 1 from in_t (n := 255) (by omega) (by decide), zLet, zB1_s, zB2_s, z10, eq_self_iff_true, if_true, if_false]
  obtain ⟨k, hk, t1, t2, t3⟩ := hT
  have c120 : (nI k < (120 : Int32)) = (k < 120) := propext (nI_ltI (b := 120) (by omega) (by omega))
  have e120 : (nI k = (120 : Int32)) = (k = 120) := nIe (b := 120) (by omega) (by omega)
  simp only [t1, t2, c120, e120]
  by_cases c : k = 120
  · simp only [show ¬ k < 120 by omega, c, if_false, if_true]
    exact ⟨_, X, M, rfl, rfl, hS⟩
  have G1 : ∀ (α : Type) (e : Option α), zGd (nI k) 120 e = e := fun _ e => zGd_n e (by omega) (by decide)
  have ck : (nI k).toNatClampNeg = k := nI_cl k (by omega)
  have x51 : (zU X 6 k (nI b)) 5 1 = nI k := t1
  have m06 : (zU M 5 k (nI b)) 0 6 = nI k := t2
  simp only [show k < 120 by omega, c, if_true, if_false, G1, ck, x51, m06, nIp, zB2_s, zU_s, up_s]
  refine ⟨nI (k + 1), zU (zU X 6 k (nI b)) 5 1 (nI (k + 1)), zU (zU M 5 k (nI b)) 0 6 (nI (k + 1)), rfl, rfl, rwS_c rfl rfl rfl rfl rfl rfl hR, ⟨k + 1, by omega, rfl, rfl, fun i hi => ?_⟩, trS_c rfl rfl rfl rfl hTr, stS_c rfl rfl rfl rfl hSt, nwS_c (fun j h1 h2 => ?_) rfl hNw, drS_c rfl rfl rfl hDr, ⟨imS_c (fun j h1 h2 => ?_) rfl rfl hI0, imS_c (fun j h1 h2 => ?_) rfl rfl hI1⟩, acS_c rfl rfl rfl rfl rfl rfl rfl rfl hA⟩
  · have x6 : (zU (zU X 6 k (nI b)) 5 1 (nI (k + 1))) 6 = upd (X 6) k (nI b) := rfl
    have m5 : (zU (zU M 5 k (nI b)) 0 6 (nI (k + 1))) 5 = upd (M 5) k (nI b) := rfl
    rw [x6, m5]
    by_cases e : i = k
    · rw [e, up_s, up_s]; exact ⟨b, hb, rfl, rfl⟩
    · rw [up_o _ _ e, up_o _ _ e]; exact t3 i (by omega)
  · rw [zU_o _ _ _ (by omega), zU_o _ _ _ (by omega)]
  · rw [zU_o _ _ _ (by omega), zU_o _ _ _ (by omega)]
  · rw [zU_o _ _ _ (by omega), zU_o _ _ _ (by omega)]
theorem op_trace {N : Nat} : zOp_trace N Sim := by
  intro X M hS a1
  obtain ⟨k, hk, t1, t2, t3⟩ := hS.2.2.1
  unfold f_X6_trace f_X7_trace
  rw [t1, t2]
  rcases rg a1 k (by omega) with ⟨i, hi, rfl⟩ | h1
  · simp only [isBelow_t hi (show k < 2 ^ 31 by omega), in1_t hi (show k < 2 ^ 31 by omega), zLet, zB1_s, zB2_s, z10, eq_self_iff_true, if_true, if_false]
    rw [zGd_n _ (by omega) (by omega), zGd_n _ (by omega) (by omega), nI_cl _ (by omega), t3 i hi]
    exact ⟨_, X, M, ⟨rfl, rfl⟩, ⟨rfl, rfl⟩, hS⟩
  · simp only [isBelow_f h1, in1_f h1 (show k < 2 ^ 31 by omega), zLet, zB1_s, zB2_s, z10, eq_self_iff_true, if_true, if_false]
    exact ⟨_, X, M, ⟨rfl, rfl⟩, ⟨rfl, rfl⟩, hS⟩
theorem lt8_v (H : Nat) (hH : H ≤ 8) (ev : Nat) (h : ev < 2 ^ H) : ev < 256 := Nat.lt_of_lt_of_le h (Nat.pow_le_pow_right (by decide) hH)
theorem op_guest {N : Nat} : zOp_guest N Sim := by
  intro X M hS a1 a2
  obtain ⟨lim, q, w, H, G, ev, hV1, hC⟩ := hS.2.2.2.2.1
  obtain ⟨_, _, _, _, ⟨s8, hG⟩, _, _, _, _, _, hgs, hev⟩ := hV1
  unfold f_X6_guest f_X7_guest
  rcases isGuest_v hG (hC.1.2.2.2.2.2.2.2.2.trans s8) s8 a1 with ⟨g, hg, rfl, e1, e2⟩ | ⟨e1, e2⟩
  rotate_left
  · simp only [e1, e2, zLet, zB1_s, zB2_s, z10, eq_self_iff_true, if_true, if_false]
    exact ⟨_, X, M, ⟨rfl, rfl⟩, ⟨rfl, rfl⟩, hS⟩
  obtain ⟨y1, y2, y3, y4⟩ := hC.2.2.1 g hg
  have y1 : X 12 g = M 6 (41 + 5 * g) := y1
  have y2 : X 13 g = M 6 (42 + 5 * g) := y2
  have y3 : X 14 g = M 6 (43 + 5 * g) := y3
  have y4 : X 15 g = M 6 (45 + 5 * g) := y4
  have G6 : ∀ (α : Type) (e : Option α), zGd (nI g) 6 e = e := fun _ e => zGd_n e (by omega) (by decide)
  have cg : (nI g).toNatClampNeg = g := nI_cl g (by omega)
  simp only [e1, e2, G6, cg, y1, y2, y3, y4, stateOf_v hC hG hg (hgs g hg) hev, zLet, zB1_s, zB2_s, z10, eq_self_iff_true, if_true, if_false]
  rcases rg a2 5 (by decide) with ⟨wh, hw, rfl⟩ | h1
  · rw [show f_X7_in (nI wh) 0 4 = 1 from in_t (n := 4) (by omega) (by decide), of_v M (by omega) hw]
    match wh, hw with
    | 0, _ => exact ⟨_, X, M, ⟨rfl, rfl⟩, ⟨rfl, rfl⟩, hS⟩
    | 1, _ => exact ⟨_, X, M, ⟨rfl, rfl⟩, ⟨by rw [show 42 + 5 * g = 41 + 5 * g + 1 by omega]; rfl, rfl⟩, hS⟩
    | 2, _ => exact ⟨_, X, M, ⟨rfl, rfl⟩, ⟨by rw [show 43 + 5 * g = 41 + 5 * g + 2 by omega]; rfl, rfl⟩, hS⟩
    | 3, _ => exact ⟨_, X, M, ⟨rfl, rfl⟩, ⟨by rw [show 44 + 5 * g = 41 + 5 * g + 3 by omega]; rfl, rfl⟩, hS⟩
    | 4, _ => exact ⟨_, X, M, ⟨rfl, rfl⟩, ⟨by rw [show 45 + 5 * g = 41 + 5 * g + 4 by omega]; rfl, rfl⟩, hS⟩
  · have hne : ∀ k : Nat, k < 5 → ¬ a2 = nI k := by
      intro k hk q
      subst q
      rcases h1 with h1 | h1
      · exact nI_pos (by omega) h1
      · have := (nI_leI (by omega) (by omega)).mp h1; omega
    have n0 : ¬ a2 = 0 := hne 0 (by decide)
    have n1 : ¬ a2 = 1 := hne 1 (by decide)
    have n2 : ¬ a2 = 2 := hne 2 (by decide)
    have n3 : ¬ a2 = 3 := hne 3 (by decide)
    have n4 : ¬ a2 = 4 := hne 4 (by decide)
    simp only [show f_X7_in a2 0 4 = 0 from in_f (n := 4) h1 (by decide), n0, n1, n2, n3, n4, zLet, zB1_s, zB2_s, z10, eq_self_iff_true, if_true, if_false]
    exact ⟨_, X, M, ⟨rfl, rfl⟩, ⟨rfl, rfl⟩, hS⟩
theorem op_taught {N : Nat} : zOp_taught N Sim := by
  intro X M hS a1
  obtain ⟨lim, q, w, H, G, ev, hV1, hC⟩ := hS.2.2.2.2.1
  obtain ⟨_, _, _, _, ⟨s8, hG⟩, _, _, _, _, _, hgs, hev⟩ := hV1
  unfold f_X6_taught f_X7_taught
  rcases isGuest_v hG (hC.1.2.2.2.2.2.2.2.2.trans s8) s8 a1 with ⟨g, hg, rfl, e1, e2⟩ | ⟨e1, e2⟩
  rotate_left
  · simp only [e1, e2, zLet, zB1_s, zB2_s, z10, eq_self_iff_true, if_true, if_false]
    exact ⟨_, X, M, ⟨rfl, rfl⟩, ⟨rfl, rfl⟩, hS⟩
  obtain ⟨y1, y2, y3, y4⟩ := hC.2.2.1 g hg
  have y2 : X 13 g = M 6 (42 + 5 * g) := y2
  have y3 : X 14 g = M 6 (43 + 5 * g) := y3
  have G6 : ∀ (α : Type) (e : Option α), zGd (nI g) 6 e = e := fun _ e => zGd_n e (by omega) (by decide)
  have cg : (nI g).toNatClampNeg = g := nI_cl g (by omega)
  obtain ⟨m, fe, bo, ho, _, _, f1, f2, f3, f4, _, _, _⟩ := hgs g hg
  simp only [e1, e2, G6, cg, y2, y3, daresM_v (M := M) (show g < 6 by omega), of_1 M (show g < 6 by omega), of_2 M (show g < 6 by omega), f1, f3, zLet, zB1_s, zB2_s, z10, eq_self_iff_true, if_true, if_false]
  unfold zMax
  by_cases c : bo < fe
  · rw [if_pos ((nI_ltI (by omega) (by omega)).mpr c)]
    rw [if_pos]
    · exact ⟨_, X, M, ⟨rfl, rfl⟩, ⟨rfl, rfl⟩, hS⟩
    · rw [pk_sub (by omega)]
      exact (nI_ltI (a := 0) (by omega) (by omega)).mpr (by omega)
  · rw [if_neg (fun q => c ((nI_ltI (by omega) (by omega)).mp q))]
    rw [if_neg]
    · exact ⟨_, X, M, ⟨rfl, rfl⟩, ⟨rfl, rfl⟩, hS⟩
    · intro q
      rw [Int32.lt_iff_toInt_lt, sub_ti (by omega) (by omega)] at q
      have : (0 : Int32).toInt = 0 := by decide
      omega
theorem op_leads {N : Nat} : zOp_leads N Sim := by
  intro X M hS a1 a2
  obtain ⟨lim, q, w, H, G, ev, hV1, hC⟩ := hS.2.2.2.2.1
  obtain ⟨_, _, _, ⟨s7, hH⟩, _, _, _, _, _, hhs, _, _⟩ := hV1
  unfold f_X6_leads f_X7_leads
  rcases isHint_v hH (hC.1.2.2.2.2.2.2.2.1.trans s7) s7 a1 with ⟨h, hh, rfl, e1, e2⟩ | ⟨e1, e2⟩
  rotate_left
  · simp only [e1, e2, zLet, zB1_s, zB2_s, z10, eq_self_iff_true, if_true, if_false]
    exact ⟨_, X, M, ⟨rfl, rfl⟩, ⟨rfl, rfl⟩, hS⟩
  simp only [e1, e2, zLet, zB1_s, zB2_s, z10, eq_self_iff_true, if_true, if_false]
  rcases rg a2 8 (by decide) with ⟨t, ht, rfl⟩ | h1
  · obtain ⟨_, _, _, y4⟩ := hC.2.1 h hh
    have y4 : X 11 h = M 6 (12 + 4 * h) := y4
    rw [bel8_t ht, show f_X7_in (nI t) 0 7 = 1 from in_t (n := 7) (by omega) (by decide), zGd_n _ (by omega) (by omega), nI_cl _ (by omega), y4, ledFrom_v hC hh hH (hhs h hh) ht, leadsNow_v (by omega) ht (hhs h hh)]
    exact ⟨_, X, M, ⟨rfl, rfl⟩, ⟨rfl, rfl⟩, hS⟩
  · simp only [bel8_f h1, show f_X7_in a2 0 7 = 0 from in_f (n := 7) h1 (by decide), zLet, zB1_s, zB2_s, z10, eq_self_iff_true, if_true, if_false]
    exact ⟨_, X, M, ⟨rfl, rfl⟩, ⟨rfl, rfl⟩, hS⟩
theorem kindIn_v {M : KX} {h : Nat} (hh : h < 8) : f_X7_kindIn M (nI h) = some (M 6 (9 + 4 * h)) := by
  unfold f_X7_kindIn
  rw [ixh, zGd_n _ (by omega) (by omega), nI_cl _ (by omega)]
theorem op_kind {N : Nat} : zOp_kind N Sim := by
  intro X M hS a1
  obtain ⟨lim, q, w, H, G, ev, hV1, hC⟩ := hS.2.2.2.2.1
  obtain ⟨_, _, _, ⟨s7, hH⟩, _, _, _, _, _, hhs, _, _⟩ := hV1
  unfold f_X6_kind f_X7_kind
  rcases isHint_v hH (hC.1.2.2.2.2.2.2.2.1.trans s7) s7 a1 with ⟨h, hh, rfl, e1, e2⟩ | ⟨e1, e2⟩
  rotate_left
  · simp only [e1, e2, zLet, zB1_s, zB2_s, z10, eq_self_iff_true, if_true, if_false]
    exact ⟨_, X, M, ⟨rfl, rfl⟩, ⟨rfl, rfl⟩, hS⟩
  obtain ⟨y1, _, _, _⟩ := hC.2.1 h hh
  have y1 : X 8 h = M 6 (9 + 4 * h) := y1
  simp only [e1, e2, zLet, zB1_s, zB2_s, z10, eq_self_iff_true, if_true, if_false]
  rw [zGd_n _ (by omega) (by omega), nI_cl _ (by omega), y1, kindIn_v (by omega)]
  exact ⟨_, X, M, ⟨rfl, rfl⟩, ⟨rfl, rfl⟩, hS⟩
def ooB (k q : Nat) : Bool := q == 0 || q == k || (q == 1 && decide (k < 4)) || (q == 4 && k == 5)
theorem oneOf_w : ∀ k, k < 6 → ∀ q, q < 6 → k = 0 ∨ f_X6_isOneOf (nI k) (nI q) = (if ooB k q then 1 else 0) := by decide +kernel
theorem oneOf_v (k : Nat) (hk : k < 6) (q : Nat) (hq : q < 6) : k = 0 ∨ (f_X6_isOneOf (nI k) (nI q) = 0 ∧ ¬ (q = 0 ∨ q = k ∨ (q = 1 ∧ k < 4) ∨ (q = 4 ∧ k = 5))) ∨ (f_X6_isOneOf (nI k) (nI q) = 1 ∧ (q = 0 ∨ q = k ∨ (q = 1 ∧ k < 4) ∨ (q = 4 ∧ k = 5))) := by
  have hb : ooB k q = true ↔ (q = 0 ∨ q = k ∨ (q = 1 ∧ k < 4) ∨ (q = 4 ∧ k = 5)) := by
    unfold ooB
    simp only [Bool.or_eq_true, Bool.and_eq_true, beq_iff_eq, decide_eq_true_eq, or_assoc]
  rcases oneOf_w k hk q hq with h | h
  · exact Or.inl h
  · right
    by_cases c : ooB k q = true
    · right; rw [h, c]; exact ⟨rfl, hb.mp c⟩
    · left; rw [h]; rw [if_neg c]; exact ⟨rfl, fun z => c (hb.mpr z)⟩
theorem op_as {N : Nat} : zOp_as N Sim := by
  intro X M hS a1 a2
  obtain ⟨lim, q, w, H, G, ev, hV1, hC⟩ := hS.2.2.2.2.1
  obtain ⟨_, _, _, ⟨s7, hH⟩, _, _, _, _, _, hhs, _, _⟩ := hV1
  unfold f_X6_as f_X7_as f_X7_as_55 f_X7_as_45 f_X7_as_55 f_X7_as_59 f_X7_as_60 f_X6_found f_X6_foundNothing f_X7_found f_X7_well
  rcases isHint_v hH (hC.1.2.2.2.2.2.2.2.1.trans s7) s7 a1 with ⟨h, hh, rfl, e1, e2⟩ | ⟨e1, e2⟩
  rotate_left
  · simp only [e1, e2, zLet, zB1_s, zB2_s, z10, eq_self_iff_true, if_true, if_false]
    exact ⟨_, X, M, rfl, rfl, hS⟩
  obtain ⟨y1, _, _, _⟩ := hC.2.1 h hh
  have y1 : X 8 h = M 6 (9 + 4 * h) := y1
  obtain ⟨k, f, t2, e3, k1, k2, _⟩ := hhs h hh
  simp only [e1, e2, zLet, zB1_s, zB2_s, z10, eq_self_iff_true, if_true, if_false]
  rcases rg a2 6 (by decide) with ⟨q, hq, rfl⟩ | h1
  rotate_left
  · simp only [show f_X6_isBelow a2 6 = 0 from isBelow_f (n := 6) h1, show f_X7_in a2 0 5 = 0 from in_f (n := 5) h1 (by decide), zLet, zB1_s, zB2_s, z10, eq_self_iff_true, if_true, if_false]
    exact ⟨_, X, M, rfl, rfl, hS⟩
  simp only [show f_X6_isBelow (nI q) 6 = 1 from isBelow_t (n := 6) hq (by decide), show f_X7_in (nI q) 0 5 = 1 from in_t (n := 5) (by omega) (by decide), zLet, zB1_s, zB2_s, z10, eq_self_iff_true, if_true, if_false]
  rw [zGd_n _ (by omega) (by omega), nI_cl _ (by omega), y1, e3, kindIn_v (by omega), e3]
  have d0 : (nI q = (0 : Int32)) = (q = 0) := nIe (b := 0) (by omega) (by omega)
  have d1 : (nI q = (1 : Int32)) = (q = 1) := nIe (b := 1) (by omega) (by omega)
  have d4 : (nI q = (4 : Int32)) = (q = 4) := nIe (b := 4) (by omega) (by omega)
  have dk : (nI q = nI k) = (q = k) := nIe (by omega) (by omega)
  have dk5 : (nI k = (5 : Int32)) = (k = 5) := nIe (b := 5) (by omega) (by omega)
  have dk4 : (nI k < (4 : Int32)) = (k < 4) := propext (nI_ltI (b := 4) (by omega) (by omega))
  simp only [d0, d1, d4, dk, dk5, dk4, zLet, zB1_s, zB2_s, z10, eq_self_iff_true, if_true, if_false]
  rcases oneOf_v k (by omega) q hq with c | ⟨c1, c2⟩ | ⟨c1, c2⟩
  · omega
  · simp only [c1, zLet, zB1_s, zB2_s, z10, eq_self_iff_true, if_true, if_false]
    refine ⟨_, zU X 0 10 3, zU M 0 4 3, rfl, ?_, sim_st hS 3⟩
    have n0 : ¬ q = 0 := fun z => c2 (Or.inl z)
    have nk : ¬ q = k := fun z => c2 (Or.inr (Or.inl z))
    rw [if_neg n0, if_neg nk]
    by_cases z1 : q = 1
    · rw [if_pos z1, if_neg (show ¬ k < 4 from fun z => c2 (Or.inr (Or.inr (Or.inl ⟨z1, z⟩)))), if_neg (by omega)]
    · rw [if_neg z1]
      by_cases z4 : q = 4
      · rw [if_pos z4, if_neg (show ¬ k = 5 from fun z => c2 (Or.inr (Or.inr (Or.inr ⟨z4, z⟩))))]
      · rw [if_neg z4]
  · simp only [c1, zLet, zB1_s, zB2_s, z10, eq_self_iff_true, if_true, if_false]
    refine ⟨_, zU X 0 10 0, zU M 0 4 0, rfl, ?_, sim_st hS 0⟩
    by_cases n0 : q = 0
    · rw [if_pos n0]
    · rw [if_neg n0]
      by_cases nk : q = k
      · rw [if_pos nk]
      · rw [if_neg nk]
        by_cases z1 : q = 1
        · rw [if_pos z1, if_pos (by omega)]
        · rw [if_neg z1, if_pos (show q = 4 by omega), if_pos (show k = 5 by omega)]
theorem op_hint {N : Nat} : zOp_hint N Sim := by
  intro X M hS a1 a2
  obtain ⟨lim, q, w, H, G, ev, hV1, hC⟩ := hS.2.2.2.2.1
  obtain ⟨_, _, _, ⟨s7, hH⟩, _, ⟨s4, hev, _⟩, _, _, _, hhs, _, _⟩ := hV1
  unfold f_X6_hint f_X7_hint
  rcases isHint_v hH (hC.1.2.2.2.2.2.2.2.1.trans s7) s7 a1 with ⟨h, hh, rfl, e1, e2⟩ | ⟨e1, e2⟩
  rotate_left
  · simp only [e1, e2, zLet, zB1_s, zB2_s, z10, eq_self_iff_true, if_true, if_false]
    exact ⟨_, X, M, ⟨rfl, rfl⟩, ⟨rfl, rfl⟩, hS⟩
  obtain ⟨y1, y2, y3, y4⟩ := hC.2.1 h hh
  have y2 : X 9 h = M 6 (10 + 4 * h) := y2
  have y3 : X 10 h = M 6 (11 + 4 * h) := y3
  have y4 : X 11 h = M 6 (12 + 4 * h) := y4
  have x16 : X 7 16 = nI ev := hC.1.2.2.2.2.1.trans s4
  have hev8 := lt8_v H hH ev hev
  have G8 : ∀ (α : Type) (e : Option α), zGd (nI h) 8 e = e := fun _ e => zGd_n e (by omega) (by decide)
  have cr : (nI h).toNatClampNeg = h := nI_cl h (by omega)
  simp only [e1, e2, G8, cr, y2, y3, y4, x16, z71_0, z71_1, z71_2, z71_3, z71_4, z71_5, z71_6, z71_7, z71_8, cl_0, cl_1, cl_2, cl_3, cl_4, cl_5, cl_6, cl_7, cl_8, s4, has_tb ev hev8 h (by omega), bit_v ev hev8 h (by omega), ixh, zLet, zB1_s, zB2_s, z10, eq_self_iff_true, if_true, if_false]
  rcases rg a2 4 (by decide) with ⟨wh, hw, rfl⟩ | h1
  · rw [show f_X7_in (nI wh) 0 3 = 1 from in_t (n := 3) (by omega) (by decide)]
    have ix : nI (9 + 4 * h) + 1 + nI wh = nI (10 + 4 * h + wh) := by
      rw [show (1 : Int32) = nI 1 from rfl, nI_add, nI_add, show 9 + 4 * h + 1 + wh = 10 + 4 * h + wh by omega]
    rw [ix, zGd_n _ (by omega) (by omega), nI_cl _ (by omega)]
    match wh, hw with
    | 0, _ => exact ⟨_, X, M, ⟨rfl, rfl⟩, ⟨rfl, rfl⟩, hS⟩
    | 1, _ => exact ⟨_, X, M, ⟨rfl, rfl⟩, ⟨by rw [show 11 + 4 * h = 10 + 4 * h + 1 by omega]; rfl, rfl⟩, hS⟩
    | 2, _ => exact ⟨_, X, M, ⟨rfl, rfl⟩, ⟨by rw [show 12 + 4 * h = 10 + 4 * h + 2 by omega]; rfl, rfl⟩, hS⟩
    | 3, _ =>
      refine ⟨nI (if ev.testBit h then 1 else 0), X, M, ⟨?_, rfl⟩, ⟨rfl, rfl⟩, hS⟩
      cases ev.testBit h <;> rfl
  · have hne : ∀ k : Nat, k < 4 → ¬ a2 = nI k := by
      intro k hk q
      subst q
      rcases h1 with h1 | h1
      · exact nI_pos (by omega) h1
      · have := (nI_leI (by omega) (by omega)).mp h1; omega
    have n0 : ¬ a2 = 0 := hne 0 (by decide)
    have n1 : ¬ a2 = 1 := hne 1 (by decide)
    have n2 : ¬ a2 = 2 := hne 2 (by decide)
    have n3 : ¬ a2 = 3 := hne 3 (by decide)
    simp only [show f_X7_in a2 0 3 = 0 from in_f (n := 3) h1 (by decide), n0, n1, n2, n3, zLet, zB1_s, zB2_s, z10, eq_self_iff_true, if_true, if_false]
    exact ⟨_, X, M, ⟨rfl, rfl⟩, ⟨rfl, rfl⟩, hS⟩
theorem count_v {n : Nat} (hn : 40000 ≤ n) {X M : KX} (hR : rwS X M) : ∃ v : Int32, f_X4_present n X = some v ∧ f_X7_count_8 n M n 0 0 = some v := by
  unfold f_X4_present
  have key : ∀ k i : Nat, i + k = 8 → ∀ (t : Nat) (c : Int32), k < t → ∃ v : Int32, f_X4_present_4 n X t c (nI i) = some v ∧ f_X7_count_8 n M t c (nI i) = some v := by
    intro k
    induction k with
    | zero =>
      intro i hi t c ht
      obtain ⟨u, rfl⟩ : ∃ u, t = u + 1 := ⟨t - 1, by omega⟩
      have : i = 8 := by omega
      subst this
      refine ⟨c, ?_, ?_⟩
      · rw [f_X4_present_4, if_pos (show (8 : Int32) ≤ nI 8 from Int32.le_refl _)]
      · rw [f_X7_count_8, if_pos (show (8 : Int32) ≤ nI 8 from Int32.le_refl _)]
    | succ k ih =>
      intro i hi t c ht
      obtain ⟨u, rfl⟩ : ∃ u, t = u + 1 := ⟨t - 1, by omega⟩
      rw [f_X4_present_4, f_X7_count_8, if_neg (fun q => by have := (nI_leI (a := 8) (by omega) (by omega)).mp q; omega), if_neg (fun q => by have := (nI_leI (a := 8) (by omega) (by omega)).mp q; omega)]
      unfold f_X4_present_24 f_X7_count_28
      rcases miss_v (show i < 8 by omega) hR with ⟨_, e1, e2⟩ | ⟨_, e1, e2⟩
      · simp only [e1, e2, nIp, zLet, zB1_s, zB2_s, z10, eq_self_iff_true, if_true, if_false]
        exact ih (i + 1) (by omega) u _ (by omega)
      · simp only [e1, e2, nIp, zLet, zB1_s, zB2_s, z10, eq_self_iff_true, if_true, if_false]
        exact ih (i + 1) (by omega) u _ (by omega)
  exact key 8 0 (by omega) n 0 (by omega)
theorem op_count {N : Nat} (hN : 40000 ≤ N) : zOp_count N Sim := by
  intro X M hS a1
  obtain ⟨lim, q, w, H, G, ev, hV1, hC⟩ := hS.2.2.2.2.1
  obtain ⟨_, _, _, ⟨s7, hH⟩, ⟨s8, hG⟩, ⟨s4, hev, _⟩, h5, _, _, _, _, _⟩ := hV1
  obtain ⟨c3, c1, c2, c14, c16, c18, c17, c4, c5⟩ := hC.1
  have hev8 := lt8_v H hH ev hev
  unfold f_X6_count f_X7_count
  by_cases a0 : a1 = 0
  · rw [if_pos a0, if_pos a0]
    obtain ⟨v, e1, e2⟩ := count_v hN hS.1
    rw [e1, e2]
    exact ⟨v, X, M, ⟨rfl, rfl⟩, ⟨rfl, rfl⟩, hS⟩
  rw [if_neg a0, if_neg a0]
  rcases rg a1 9 (by decide) with ⟨k, hk, rfl⟩ | h1
  rotate_left
  · have hne : ∀ k : Nat, k < 9 → ¬ a1 = nI k := by
      intro k hk q
      subst q
      rcases h1 with h1 | h1
      · exact nI_pos (by omega) h1
      · have := (nI_leI (by omega) (by omega)).mp h1; omega
    have hin : f_X7_in a1 1 8 = 0 := by
      unfold f_X7_in
      rcases h1 with h1 | h1
      · rw [if_pos (Int32.lt_of_lt_of_le h1 (by decide))]
      · by_cases c : a1 < 1
        · rw [if_pos c]
        · rw [if_neg c, if_pos (Int32.lt_of_lt_of_le (show (8 : Int32) < nI 9 by decide) h1)]
    have n1 : ¬ a1 = 1 := hne 1 (by decide)
    have n2 : ¬ a1 = 2 := hne 2 (by decide)
    have n3 : ¬ a1 = 3 := hne 3 (by decide)
    have n4 : ¬ a1 = 4 := hne 4 (by decide)
    have n5 : ¬ a1 = 5 := hne 5 (by decide)
    have n6 : ¬ a1 = 6 := hne 6 (by decide)
    have n7 : ¬ a1 = 7 := hne 7 (by decide)
    have n8 : ¬ a1 = 8 := hne 8 (by decide)
    simp only [hin, n1, n2, n3, n4, n5, n6, n7, n8, zLet, zB1_s, zB2_s, z10, eq_self_iff_true, if_true, if_false]
    exact ⟨_, X, M, ⟨rfl, rfl⟩, ⟨rfl, rfl⟩, hS⟩
  · have hin : ∀ k, k < 9 → k = 0 ∨ f_X7_in (nI k) 1 8 = 1 := by decide +kernel
    rcases hin k hk with h | h
    · exact absurd (by rw [h]; rfl) a0
    simp only [h, z71_0, z71_1, z71_2, z71_3, z71_4, z71_5, z71_6, z71_7, z71_8, cl_0, cl_1, cl_2, cl_3, cl_4, cl_5, cl_6, cl_7, cl_8, zLet, zB1_s, zB2_s, z10, eq_self_iff_true, if_true, if_false]
    match k, hk with
    | 0, _ => exact absurd rfl a0
    | 1, _ => exact ⟨_, X, M, ⟨rfl, rfl⟩, ⟨congrArg some c4.symm, rfl⟩, hS⟩
    | 2, _ => exact ⟨_, X, M, ⟨rfl, rfl⟩, ⟨congrArg some c5.symm, rfl⟩, hS⟩
    | 3, _ => exact ⟨_, X, M, ⟨rfl, rfl⟩, ⟨congrArg some c14.symm, rfl⟩, hS⟩
    | 4, _ =>
      refine ⟨M 6 5, X, M, ⟨?_, rfl⟩, ⟨rfl, rfl⟩, hS⟩
      show (if X 7 18 = 0 then some 0 else some 1) = some (M 6 5)
      rw [c18]
      rcases h5 with h5 | h5 <;> rw [h5] <;> rfl
    | 5, _ => exact ⟨_, X, M, ⟨rfl, rfl⟩, ⟨congrArg some c17.symm, rfl⟩, hS⟩
    | 6, _ =>
      refine ⟨nI (pc ev), X, M, ⟨?_, rfl⟩, ⟨?_, rfl⟩, hS⟩
      · show some (f_J6_bitCount_0f7a4 (X 7 16)) = _
        rw [c16, s4, bitc_pc ev hev8]
      · show zB1 (f_X7_ones N (M 6 4)) (fun r_1 => some r_1) = _
        rw [s4, ones_v hN hev8]
        rfl
    | 7, _ =>
      obtain ⟨A, f, _, _, q1, q2, _⟩ := hS.2.2.2.2.2.2.2
      exact ⟨_, X, M, ⟨rfl, rfl⟩, ⟨congrArg some (q2.trans q1.symm), rfl⟩, hS⟩
    | 8, _ =>
      obtain ⟨A, _, q1, q2, _⟩ := hS.2.1
      exact ⟨_, X, M, ⟨rfl, rfl⟩, ⟨congrArg some (q2.trans q1.symm), rfl⟩, hS⟩
