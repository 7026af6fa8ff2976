theorem tpow1 (H i : Nat) : (2 ^ H - 1).testBit i = decide (i < H) := Nat.testBit_two_pow_sub_one H i
theorem eq64 {a b : Nat} (ha : a < 64) (hb : b < 64) (h : ∀ u, u < 6 → (a.testBit u = true ↔ b.testBit u = true)) : a = b := bits_eq fun i => by
  by_cases c : i < 6
  · exact h i c
  · have p : 2 ^ 6 ≤ 2 ^ i := Nat.pow_le_pow_right (by decide) (by omega)
    rw [Nat.testBit_lt_two_pow (Nat.lt_of_lt_of_le ha p), Nat.testBit_lt_two_pow (Nat.lt_of_lt_of_le hb p)]
theorem ro_eq {M : KX} {S : Nat → Int32} {H G lim q s c : Nat} (hr : roS M S H G lim q (fun _ _ => True)) (hs : s < 2 ^ H) (hG : G ≤ 6) (hc : c < 64) (hcb : ∀ g, g < 6 → (c.testBit g = true ↔ tcm S G g)) : (M 13 s = nI c) ↔ allR S H G lim q s := by
  obtain ⟨b, b1, b2, b3⟩ := hr s hs
  constructor
  · intro z g hg
    rw [b2] at z
    have e := nI_inj (by omega) (by omega) z
    have g6 : g < 6 := by have := hg.1; omega
    have := (hcb g g6).mpr hg
    rw [← e, b3 g g6] at this
    exact this.2.2
  · intro z
    rw [b2]
    congr 1
    refine eq64 b1 hc fun g hg => ?_
    rw [b3 g hg, hcb g hg]
    exact ⟨fun y => y.2.1, fun y => ⟨trivial, y, z g y⟩⟩
def ans (a1 r : Int32) : Int32 := if r = -1000000 then r else if a1 = 1 then r else f_J6_bitCount_0f7a4 r
theorem cov_v {N : Nat} (hN : 40000 ≤ N) {X M M1 : KX} {lim q w H G ev T : Nat} {a1 : Int32} (hV : cV (M 6) lim q w H G ev) (hC : CK X 7 (M 6) H G) (hT : T < 256) (hTb : ∀ u, u < 8 → (T.testBit u = true ↔ ∃ g, tcm (M 6) G g ∧ mi (M 6) g = u)) (hf : fM M1 M) (hr : roS M1 (M 6) H G lim q (fun _ _ => True)) : ∀ k s, s + k = 2 ^ H → ∀ t u, k < t → k < u → ∀ (v : Int32) (X1 : KX), (v = -1000000 ∨ ∃ p, p < 256 ∧ v = nI p) → fX X1 X → ∃ (r : Int32) (X2 : KX), f_X3_fewestForAll_27 N t X1 (nI T) v (nI s) = some (r, X2) ∧ fX X2 X ∧ f_X7_cover_31 N u M1 a1 v (nI s) = some (ans a1 r, M1) := by
  obtain ⟨_, _, _, ⟨s7, hH⟩, ⟨s8, hG⟩, _⟩ := id hV
  have hp8 := p8 hH
  have x4 : X 7 4 = nI H := hC.1.2.2.2.2.2.2.2.1.trans s7
  obtain ⟨c, c1, c2, c3⟩ := tocome_v hN hV hf
  intro k
  induction k with
  | zero =>
    intro s hp t u ht hu v X1 hv h1
    obtain ⟨t, rfl⟩ : ∃ u, t = u + 1 := ⟨t - 1, by omega⟩
    obtain ⟨u, rfl⟩ : ∃ t, u = t + 1 := ⟨u - 1, by omega⟩
    have hlt : nI (2 ^ H - 1) < nI s := by rw [nI_ltI (by omega) (by omega)]; omega
    unfold f_X3_fewestForAll_27 f_X7_cover_31 f_X2_allHints f_X7_cover_104
    rw [allM_v hH (by rw [hf 6 (by decide) (by decide), s7]), h1 7 (by decide) (by decide), x4, allH H (by omega)]
    simp only [zB1_s]
    rw [if_pos hlt, if_pos hlt]
    refine ⟨v, X1, rfl, h1, ?_⟩
    unfold ans
    rcases hv with e | ⟨p, p1, rfl⟩
    · rw [if_pos e, if_pos e]
    · rw [if_neg (nIm p (by omega)), if_neg (nIm p (by omega)), ones_v hN p1, bitc_pc p p1]
      by_cases d : a1 = 1
      · rw [if_pos d, if_pos d]
      · rw [if_neg d, if_neg d]; rfl
  | succ k ih =>
    intro s hp t u ht hu v X1 hv h1
    obtain ⟨t, rfl⟩ : ∃ u, t = u + 1 := ⟨t - 1, by omega⟩
    obtain ⟨u, rfl⟩ : ∃ t, u = t + 1 := ⟨u - 1, by omega⟩
    have hlt : ¬ nI (2 ^ H - 1) < nI s := by rw [nI_ltI (by omega) (by omega)]; omega
    have hs : s < 256 := by omega
    have n0 := ih (s + 1) (by omega) t u (by omega) (by omega)
    obtain ⟨X2, r, r1, r2, r3⟩ := haveR_v hN hV (CK_f h1 hC) hs hT hTb
    have h2 : fX X2 X := fun c c1 c2 => (r2 c c1 c2).trans (h1 c c1 c2)
    have hro := ro_eq hr (show s < 2 ^ H by omega) hG c1 c3
    unfold f_X3_fewestForAll_27 f_X7_cover_31 f_X2_allHints f_X3_fewestForAll_54 f_X3_fewestForAll_59 f_X3_fewestForAll_80 f_X7_cover_69 f_X7_cover_73 f_X7_cover_74 f_X7_cover_86
    rw [allM_v hH (by rw [hf 6 (by decide) (by decide), s7]), h1 7 (by decide) (by decide), x4, allH H (by omega), r1, c2, ones_v hN hs, bitc_pc s hs]
    simp only [zB1_s]
    rw [if_neg hlt, if_neg hlt, zGd_n _ hs (by decide), nI_cl s (by omega)]
    simp only [zB1_s, zB2_s, zLet, nIp, if_true, z10, if_false]
    have sv : nI s = -1000000 ∨ ∃ p, p < 256 ∧ nI s = nI p := Or.inr ⟨s, hs, rfl⟩
    have tkT : allR (M 6) H G lim q s → r = 1 := fun d => r3.elim (fun y => y.1) (fun y => absurd d y.2)
    have tkF : ¬ allR (M 6) H G lim q s → r = 0 := fun d => r3.elim (fun y => absurd y.2 d) (fun y => y.1)
    rcases hv with e | ⟨p, p1, rfl⟩
    · simp only [e, if_true]
      by_cases d : allR (M 6) H G lim q s
      · rw [if_pos (hro.mpr d), tkT d, if_neg (by decide)]
        exact n0 (nI s) X2 sv h2
      · rw [if_neg (fun z => d (hro.mp z)), tkF d]
        simp only [if_true]
        exact n0 (-1000000) X2 (Or.inl rfl) h2
    · simp only [nIm p (show p < 2 ^ 31 by omega), if_false]
      have pp := pc_le p p1
      have ps := pc_le s hs
      rw [bitc_pc p p1, ones_v hN p1]
      simp only [zB1_s]
      by_cases d2 : nI (pc p) ≤ nI (pc s)
      · rw [if_pos d2, if_pos d2]
        have : (if M1 13 s = nI c then f_X7_cover_31 N u M1 a1 (nI p) (nI (s + 1)) else f_X7_cover_31 N u M1 a1 (nI p) (nI (s + 1))) = f_X7_cover_31 N u M1 a1 (nI p) (nI (s + 1)) := by split <;> rfl
        rw [this]
        exact n0 (nI p) X1 (Or.inr ⟨p, p1, rfl⟩) h1
      · rw [if_neg d2, if_neg d2]
        by_cases d : allR (M 6) H G lim q s
        · rw [if_pos (hro.mpr d), tkT d, if_neg (by decide)]
          exact n0 (nI s) X2 sv h2
        · rw [if_neg (fun z => d (hro.mp z)), tkF d]
          simp only [if_true]
          exact n0 (nI p) X2 (Or.inr ⟨p, p1, rfl⟩) h2
theorem cov_no {N : Nat} (hN : 40000 ≤ N) {M M1 : KX} {lim q w H G ev : Nat} {a1 : Int32} (hV : cV (M 6) lim q w H G ev) (hf : fM M1 M) (hr : roS M1 (M 6) H G lim q (fun _ _ => True)) (hno : ∀ s, ¬ allR (M 6) H G lim q s) : ∀ k s, s + k = 2 ^ H → ∀ u, k < u → f_X7_cover_31 N u M1 a1 (-1000000) (nI s) = some (-1000000, M1) := by
  obtain ⟨_, _, _, ⟨s7, hH⟩, ⟨s8, hG⟩, _⟩ := id hV
  have hp8 := p8 hH
  obtain ⟨c, c1, c2, c3⟩ := tocome_v hN hV hf
  intro k
  induction k with
  | zero =>
    intro s hp u hu
    obtain ⟨u, rfl⟩ : ∃ t, u = t + 1 := ⟨u - 1, by omega⟩
    have hlt : nI (2 ^ H - 1) < nI s := by rw [nI_ltI (by omega) (by omega)]; omega
    unfold f_X7_cover_31 f_X7_cover_104
    rw [allM_v hH (by rw [hf 6 (by decide) (by decide), s7])]
    simp only [zB1_s]
    rw [if_pos hlt]
    simp only [eq_self_iff_true, if_true]
  | succ k ih =>
    intro s hp u hu
    obtain ⟨u, rfl⟩ : ∃ t, u = t + 1 := ⟨u - 1, by omega⟩
    have hlt : ¬ nI (2 ^ H - 1) < nI s := by rw [nI_ltI (by omega) (by omega)]; omega
    have hs : s < 256 := by omega
    have hro := ro_eq hr (show s < 2 ^ H by omega) hG c1 c3
    unfold f_X7_cover_31 f_X7_cover_73 f_X7_cover_74 f_X7_cover_86
    rw [allM_v hH (by rw [hf 6 (by decide) (by decide), s7]), c2]
    simp only [zB1_s]
    rw [if_neg hlt, zGd_n _ hs (by decide), nI_cl s (by omega), if_neg (fun z => hno s (hro.mp z))]
    simp only [zLet, nIp, if_true]
    exact ih (s + 1) (by omega) u (by omega)
theorem op_cover {N : Nat} (hN : 40000 ≤ N) : zOp_cover N Sim := by
  intro X M hS a1
  obtain ⟨lim, q, w, H, G, ev, hV, hC⟩ := hS.2.2.2.2.1
  obtain ⟨_, _, _, ⟨s7, hH⟩, ⟨s8, hG⟩, _⟩ := id hV
  unfold f_X6_cover f_X7_cover
  rcases castle_v hV hC with ⟨_, e1, e2⟩ | ⟨_, e1, e2⟩
  · simp only [e1, e2, zLet, zB1_s, zB2_s, z10, eq_self_iff_true, if_true, if_false]
    exact ⟨_, X, M, rfl, rfl, hS⟩
  simp only [e1, e2, zLet, zB1_s, zB2_s, z10, eq_self_iff_true, if_true, if_false]
  rcases rg a1 2 (by decide) with ⟨k, hk, rfl⟩ | h1
  rotate_left
  · simp only [bel2_f h1, in2_f h1, zLet, zB1_s, zB2_s, z10, eq_self_iff_true, if_true, if_false]
    exact ⟨_, X, M, rfl, rfl, hS⟩
  simp only [bel2_t hk, in2_t hk, zLet, zB1_s, zB2_s, z10, eq_self_iff_true, if_true, if_false]
  have hp8 := p8 hH
  have x4 : X 7 4 = nI H := hC.1.2.2.2.2.2.2.2.1.trans s7
  obtain ⟨M1, l1, l2, l3⟩ := lays_v hN hV
  obtain ⟨T, t1, t2, t3⟩ := wanted_v hN hV hC
  obtain ⟨X1, r, r1, r2, r3⟩ := haveR_v hN (s := 2 ^ H - 1) hV hC (by omega) t1 t3
  unfold f_X3_fewestForAll f_X2_allHints
  rw [x4, allH H (by omega), t2, l1]
  simp only [zB1_s]
  rw [r1]
  simp only [zB1_s, zB2_s]
  have hsim : ∀ X2, fX X2 X → Sim X2 M1 := fun X2 h2 => sim_scr hS h2 (fun c _ c2 c3 _ => l2 c c2 c3)
  rcases r3 with ⟨y1, y2⟩ | ⟨y1, y2⟩
  · rw [y1, if_neg (by decide)]
    obtain ⟨r', X2, b1, b2, b3⟩ := cov_v hN (a1 := nI k) hV hC t1 t3 l2 l3 (2 ^ H) 0 (by omega) N N (by omega) (by omega) (-1000000) X1 (Or.inl rfl) r2
    refine ⟨ans (nI k) r', X2, M1, ?_, b3, hsim X2 b2⟩
    rw [show (0 : Int32) = nI 0 from rfl, b1]
    simp only [zB2_s]
    unfold ans f_X6_cover_47
    by_cases c : r' = -1000000
    · rw [if_pos c, if_pos c]
    · rw [if_neg c, if_neg c]
      by_cases d : nI k = 1
      · rw [if_pos d, if_pos d]
      · rw [if_neg d, if_neg d]
  · rw [y1, if_pos rfl]
    have b3 := cov_no hN (a1 := nI k) hV l2 l3 (fun s hs => y2 (fun g hg => rt_mono (hs g hg) (fun i hi _ => by rw [tpow1, decide_eq_true_iff]; exact hi))) (2 ^ H) 0 (by omega) N (by omega)
    refine ⟨-1000000, X1, M1, ?_, b3, hsim X1 r2⟩
    simp only [zB2_s]
    unfold f_X6_cover_47
    simp only [eq_self_iff_true, if_true]
theorem tcw_v {N : Nat} (hN : 40000 ≤ N) {X : KX} {S : Nat → Int32} {lim q w H G ev s d b : Nat} (hV : cV S lim q w H G ev) (hC : CK X 7 S H G) (hd : d < 256) (hdb : ∀ t, t < 8 → (d.testBit t = true ↔ lE (ld S) H t s q lim)) (hb : b < 64) (hbb : ∀ g, g < 6 → (b.testBit g = true ↔ True ∧ tcm S G g ∧ rt S H lim q s g)) : f_X2_toComeWith N X (nI d) = some (nI (pc b)) := by
  obtain ⟨_, _, _, ⟨s7, hH⟩, ⟨s8, hG⟩, _, _, _, _, hhs, hgs, hes⟩ := id hV
  have x5 : X 7 5 = nI G := hC.1.2.2.2.2.2.2.2.2.trans s8
  unfold f_X2_toComeWith
  have hz : ∀ i, G ≤ i → b.testBit i = false := by
    intro i hi
    cases c : b.testBit i with
    | false => rfl
    | true =>
      by_cases c6 : i < 6
      · have := ((hbb i c6).mp c).2.1.1; omega
      · have p : 2 ^ 6 ≤ 2 ^ i := Nat.pow_le_pow_right (by decide) (by omega)
        rw [Nat.testBit_lt_two_pow (Nat.lt_of_lt_of_le hb p)] at c
        exact absurd c (by decide)
  have key : ∀ k g, g + k = G → ∀ t, k < t → f_X2_toComeWith_4 N X t (nI d) (nI (pcn b g)) (nI g) = some (nI (pc b)) := by
    intro k
    induction k with
    | zero =>
      intro g hg t ht
      obtain ⟨t, rfl⟩ : ∃ u, t = u + 1 := ⟨t - 1, by omega⟩
      have e : g = G := by omega
      subst e
      unfold f_X2_toComeWith_4
      rw [x5, if_pos (by rw [le_n (by omega) (by omega)]; omega)]
      have : ∀ j, pcn b (g + j) = pcn b g := by
        intro j
        induction j with
        | zero => rfl
        | succ j ih => rw [← Nat.add_assoc, pcn_s, hz (g + j) (by omega), ih]; rfl
      rw [← pcn8 b (by omega), show 8 = g + (8 - g) by omega, this]
    | succ k ih =>
      intro g hg t ht
      obtain ⟨t, rfl⟩ : ∃ u, t = u + 1 := ⟨t - 1, by omega⟩
      have gG : g < G := by omega
      have g6 : g < 6 := by omega
      obtain ⟨f1, f2⟩ := mi_v (hgs g gG)
      have y12 : X 12 g = nI (mi S g) := (hC.2.2.1 g gG).1.trans f1
      have n0 := ih (g + 1) (by omega) t (by omega)
      rw [pcn_s] at n0
      unfold f_X2_toComeWith_4 f_X2_toComeWith_36
      rw [x5, if_neg (by rw [le_n (by omega) (by omega)]; omega), stateOf_v hC hG gG (hgs g gG) hes, zGd_n _ g6 (by decide), nI_cl g (by omega), y12, has_tb d hd _ f2]
      simp only [zLet, nIp]
      by_cases c0 : S (44 + 5 * g) = 0
      · rw [if_pos c0]
        cases c1 : d.testBit (mi S g) with
        | false =>
          simp only [Bool.false_eq_true, if_false, if_true]
          have : b.testBit g = false := by
            cases c2 : b.testBit g with
            | false => rfl
            | true =>
              have := (hdb _ f2).mpr ((hbb g g6).mp c2).2.2
              rw [c1] at this; exact absurd this (by decide)
          rw [this] at n0
          exact n0
        | true =>
          simp only [if_true, z10, if_false]
          have : b.testBit g = true := (hbb g g6).mpr ⟨trivial, ⟨gG, c0⟩, (hdb _ f2).mp c1⟩
          rw [this] at n0
          exact n0
      · rw [if_neg c0]
        have : b.testBit g = false := by
          cases c2 : b.testBit g with
          | false => rfl
          | true => exact absurd ((hbb g g6).mp c2).2.1.2 c0
        rw [this] at n0
        exact n0
  exact key G 0 (by omega) N (by omega)
theorem allx : ∀ H, H < 9 → ∀ h, h < 8 → H ≤ h ∨ nI (2 ^ H - 1) &&& ((zShl 1 (nI h)) ^^^ (-1)) = nI (2 ^ H - 1 - 2 ^ h) := by decide +kernel
theorem spo_v {N : Nat} (hN : 40000 ≤ N) {X M M1 : KX} {lim q w H G ev : Nat} {a1 a2 : Int32} (hV : cV (M 6) lim q w H G ev) (hC : CK X 7 (M 6) H G) (hf : fM M1 M) (hr : roS M1 (M 6) H G lim q (fun _ _ => True)) (hw : (a1 = 0 ∧ a2 = 1) ∨ (a1 = 1 ∧ a2 = 0)) : ∀ k h, h + k = H → ∀ t u, k < t → k < u → ∀ (v1 v2 : Int32) (X1 : KX), fX X1 X → ∃ (r : Int32) (X2 : KX), f_X3_mostMissed_10 N t X1 a2 v1 v2 (nI h) = some (r, X2) ∧ fX X2 X ∧ f_X7_spoilt_35 N u M1 a1 v1 v2 (nI h) = some (r, M1) := by
  obtain ⟨_, _, _, ⟨s7, hH⟩, ⟨s8, hG⟩, _⟩ := id hV
  have hp8 := p8 hH
  have x4 : X 7 4 = nI H := hC.1.2.2.2.2.2.2.2.1.trans s7
  have m6 : M1 6 = M 6 := hf 6 (by decide) (by decide)
  intro k
  induction k with
  | zero =>
    intro h hp t u ht hu v1 v2 X1 h1
    obtain ⟨t, rfl⟩ : ∃ u, t = u + 1 := ⟨t - 1, by omega⟩
    obtain ⟨u, rfl⟩ : ∃ t, u = t + 1 := ⟨u - 1, by omega⟩
    have e : h = H := by omega
    subst e
    have hle : nI h ≤ nI h := by rw [le_n (by omega) (by omega)]; omega
    unfold f_X3_mostMissed_10 f_X7_spoilt_35
    simp only [z71_0, z71_1, z71_2, z71_3, z71_4, z71_5, z71_6, z71_7, z71_8, cl_0, cl_1, cl_2, cl_3, cl_4, cl_5, cl_6, cl_7, cl_8, m6, s7, h1 7 (by decide) (by decide), x4]
    rw [if_pos hle, if_pos hle]
    rcases hw with ⟨rfl, rfl⟩ | ⟨rfl, rfl⟩
    · exact ⟨v1, X1, rfl, h1, rfl⟩
    · exact ⟨v2, X1, rfl, h1, rfl⟩
  | succ k ih =>
    intro h hp t u ht hu v1 v2 X1 h1
    obtain ⟨t, rfl⟩ : ∃ u, t = u + 1 := ⟨t - 1, by omega⟩
    obtain ⟨u, rfl⟩ : ∃ t, u = t + 1 := ⟨u - 1, by omega⟩
    have hle : ¬ nI H ≤ nI h := by rw [le_n (by omega) (by omega)]; omega
    have hs : 2 ^ H - 1 - 2 ^ h < 2 ^ H := Nat.lt_of_le_of_lt (Nat.sub_le _ _) (show 2 ^ H - 1 < 2 ^ H by omega)
    have hs8 : 2 ^ H - 1 - 2 ^ h < 256 := Nat.lt_of_lt_of_le hs hp8.2
    obtain ⟨X2, d, d1, d2, d3, d4⟩ := withR_v hN (s := 2 ^ H - 1 - 2 ^ h) hV (CK_f h1 hC) hs8
    have h2 : fX X2 X := fun c c1 c2 => (d2 c c1 c2).trans (h1 c c1 c2)
    obtain ⟨b, b1, b2, b3⟩ := hr _ hs
    have tc := tcw_v hN hV (CK_f h2 hC) d3 d4 b1 b3
    have n0 := ih (h + 1) (by omega) t u (by omega) (by omega)
    unfold f_X3_mostMissed_10 f_X7_spoilt_35 f_X2_allHints f_X3_mostMissed_54 f_X3_mostMissed_61 f_X7_spoilt_80 f_X7_spoilt_86
    simp only [z71_0, z71_1, z71_2, z71_3, z71_4, z71_5, z71_6, z71_7, z71_8, cl_0, cl_1, cl_2, cl_3, cl_4, cl_5, cl_6, cl_7, cl_8, m6, s7, h1 7 (by decide) (by decide), x4, allH H (by omega)]
    rw [if_neg hle, if_neg hle, allM_v hH (by rw [m6, s7]), (allx H (by omega) h (by omega)).resolve_left (by omega), d1]
    simp only [zB1_s, zB2_s]
    rw [(allx H (by omega) h (by omega)).resolve_left (by omega), zGd_n _ hs8 (by decide), nI_cl _ (Nat.lt_of_lt_of_le hs8 (by decide)), b2, ones_v hN (show b < 256 by omega), tc]
    simp only [zB1_s, zLet, nIp]
    by_cases c1 : v1 = -1000000
    · rw [if_pos c1, if_pos c1]
      exact n0 (nI h) (nI (pc b)) X2 h2
    · rw [if_neg c1, if_neg c1]
      by_cases c2 : v2 ≤ nI (pc b)
      · rw [if_pos c2, if_pos c2]
        exact n0 v1 v2 X2 h2
      · rw [if_neg c2, if_neg c2]
        exact n0 (nI h) (nI (pc b)) X2 h2
theorem op_spoilt {N : Nat} (hN : 40000 ≤ N) : zOp_spoilt N Sim := by
  intro X M hS a1
  obtain ⟨lim, q, w, H, G, ev, hV, hC⟩ := hS.2.2.2.2.1
  obtain ⟨_, _, _, ⟨s7, hH⟩, ⟨s8, hG⟩, _⟩ := id hV
  unfold f_X6_spoilt f_X7_spoilt
  rcases castle_v hV hC with ⟨_, e1, e2⟩ | ⟨_, e1, e2⟩
  · simp only [e1, e2, zLet, zB1_s, zB2_s, z10, eq_self_iff_true, if_true, if_false]
    exact ⟨_, X, M, rfl, rfl, hS⟩
  simp only [e1, e2, zLet, zB1_s, zB2_s, z10, eq_self_iff_true, if_true, if_false]
  rcases rg a1 2 (by decide) with ⟨k, hk, rfl⟩ | h1
  rotate_left
  · simp only [bel2_f h1, in2_f h1, zLet, zB1_s, zB2_s, z10, eq_self_iff_true, if_true, if_false]
    exact ⟨_, X, M, rfl, rfl, hS⟩
  simp only [bel2_t hk, in2_t hk, zLet, zB1_s, zB2_s, z10, eq_self_iff_true, if_true, if_false]
  obtain ⟨M1, l1, l2, l3⟩ := lays_v hN hV
  unfold f_X6_spoilt_41 f_X3_mostMissed
  rw [l1]
  simp only [zB1_s]
  have hw : ∃ a2 : Int32, ((nI k = 0 ∧ a2 = 1) ∨ (nI k = 1 ∧ a2 = 0)) ∧ (if nI k = 0 then (zB2 (f_X3_mostMissed_10 N N X 1 (-1000000) (-1000000) 0) (fun r_1 X_2 => some (r_1, X_2))) else (zB2 (f_X3_mostMissed_10 N N X 0 (-1000000) (-1000000) 0) (fun r_1 X_2 => some (r_1, X_2)))) = zB2 (f_X3_mostMissed_10 N N X a2 (-1000000) (-1000000) 0) (fun r_1 X_2 => some (r_1, X_2)) := by
    match k, hk with
    | 0, _ => exact ⟨1, Or.inl ⟨rfl, rfl⟩, rfl⟩
    | 1, _ => exact ⟨0, Or.inr ⟨rfl, rfl⟩, rfl⟩
  obtain ⟨a2, w1, w2⟩ := hw
  obtain ⟨r, X2, b1, b2, b3⟩ := spo_v hN hV hC l2 l3 w1 H 0 (by omega) N N (by omega) (by omega) (-1000000) (-1000000) X (fun _ _ _ => rfl)
  refine ⟨r, X2, M1, ?_, b3, sim_scr hS b2 (fun c _ c2 c3 _ => l2 c c2 c3)⟩
  refine w2.trans ?_
  rw [show (0 : Int32) = nI 0 from rfl, b1]
  rfl
