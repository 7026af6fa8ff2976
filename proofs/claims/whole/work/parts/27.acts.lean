def aN (A : Nat) : Nat := if A = 24 then 23 else A
def fN (A f : Nat) : Nat := if A = 24 then (f + 1) % 24 else f
theorem notes49_v {n : Nat} (hn : 40000 ≤ n) (M : KX) {B : Nat} (hB : B ≤ 23) (h : M 0 16 = nI B) : ∃ M' : KX, f_X7_notes_49 n M = some M' ∧ (∀ c, c ≠ 0 → c ≠ 8 → M' c = M c) ∧ (∀ i, i ≠ 16 → M' 0 i = M 0 i) ∧ M' 0 16 = nI (B + 1) ∧ (∀ i, i < 71 → M' 8 (71 * B + i) = M 6 i) ∧ ∀ p, (p < 71 * B ∨ 71 * B + 71 ≤ p) → M' 8 p = M 8 p := by
  obtain ⟨Y, e, h1, h2, h3⟩ := copies_6_8_v hn M (s := 0) (d := 71 * B) (by omega) (by omega)
  unfold f_X7_notes_49
  rw [h, show (71 : Int32) * nI B = nI (71 * B) from by rw [show (71 : Int32) = nI 71 from rfl, pk_mul], show f_X7_copies_6_8 n M 0 (nI (71 * B)) = some Y from e]
  have y0 : Y 0 = M 0 := h1 0 (by decide)
  refine ⟨zU Y 0 16 (nI (B + 1)), ?_, fun c c0 c8 => by rw [zU_o _ _ _ c0]; exact h1 c c8, fun i hi => by rw [zU_s, up_o _ _ hi, y0], by rw [zU_s, up_s], fun i hi => ?_, fun p hp => ?_⟩
  · simp only [zB1_s, zLet]
    rw [y0, h, nIp]
  · rw [zU_o _ _ _ (by decide), h2 i hi, Nat.zero_add]
  · rw [zU_o _ _ _ (by decide), h3 p hp]
theorem notes_v {n : Nat} (hn : 40000 ≤ n) (M : KX) {A : Nat} (hA : A ≤ 24) (h : M 0 16 = nI A) : ∃ M' : KX, f_X7_notes n M = some M' ∧ (∀ c, c ≠ 0 → c ≠ 8 → M' c = M c) ∧ (∀ i, i ≠ 16 → M' 0 i = M 0 i) ∧ M' 0 16 = nI (aN A + 1) ∧ (∀ j i, j < aN A → i < 71 → M' 8 (71 * j + i) = M 8 (71 * (if A = 24 then j + 1 else j) + i)) ∧ ∀ i, i < 71 → M' 8 (71 * aN A + i) = M 6 i := by
  unfold f_X7_notes
  have e24 : (M 0 16 = (24 : Int32)) = (A = 24) := by rw [h]; exact nIe (b := 24) (by omega) (by omega)
  simp only [e24]
  by_cases c : A = 24
  · subst c
    rw [if_pos rfl]
    have key := loop_re (fun t i (Y : KX) => f_X7_notes_11 n t Y (nI i)) 1633 (fun i Y => (∀ c, c ≠ 8 → Y c = M c) ∧ (∀ p, p < i → Y 8 p = M 8 (p + 71)) ∧ ∀ p, i ≤ p → Y 8 p = M 8 p) (fun o => ∃ Y : KX, o = f_X7_notes_49 n (zU Y 0 16 (nI 23)) ∧ (∀ c, c ≠ 8 → Y c = M c) ∧ ∀ p, p < 1633 → Y 8 p = M 8 (p + 71)) ?_ ?_ 1633 0 M (by omega) ⟨fun _ _ => rfl, fun p hp => by omega, fun _ _ => rfl⟩ n (by omega)
    · obtain ⟨Y, e, h1, h2⟩ := key
      have e : f_X7_notes_11 n n M 0 = f_X7_notes_49 n (zU Y 0 16 (nI 23)) := e
      rw [e]
      obtain ⟨Z', e2, k1, k2, k3, k4, k5⟩ := notes49_v hn (zU Y 0 16 (nI 23)) (B := 23) (by omega) (by rw [zU_s, up_s])
      refine ⟨Z', e2, fun c c0 c8 => by rw [k1 c c0 c8, zU_o _ _ _ c0]; exact h1 c c8, fun i hi => by rw [k2 i hi, zU_s, up_o _ _ hi, h1 0 (by decide)], k3, fun j i hj hi => ?_, fun i hi => ?_⟩
      · have hj : j < 23 := hj
        rw [k5 _ (by omega), zU_o _ _ _ (by decide), h2 _ (by omega), if_pos rfl]
        congr 1
        omega
      · show Z' 8 (71 * 23 + i) = M 6 i
        rw [k4 i hi, zU_o _ _ _ (by decide), h1 6 (by decide)]
    · intro i Y hi ⟨h1, h2, h3⟩
      refine ⟨zU Y 8 i (M 8 (i + 71)), ⟨fun c hc => by rw [zU_o _ _ _ hc]; exact h1 c hc, fun p hp => ?_, fun p hp => ?_⟩, fun t => ?_⟩
      · rw [zU_s]
        by_cases e : p = i
        · rw [e, up_s]
        · rw [up_o _ _ e]; exact h2 p (by omega)
      · rw [zU_s, up_o _ _ (by omega)]; exact h3 p (by omega)
      · show f_X7_notes_11 n (t + 1) Y (nI i) = f_X7_notes_11 n t (zU Y 8 i (M 8 (i + 71))) (nI (i + 1))
        rw [f_X7_notes_11, if_neg (fun q => by have := (nI_leI (a := 1633) (by omega) (by omega)).mp q; omega), show nI i + 71 = nI (i + 71) from nI_add i 71, zGd_n _ (by omega) (by omega), zGd_n _ (by omega) (by omega), nI_cl _ (by omega), nI_cl _ (by omega), h3 (i + 71) (by omega)]
        simp only [zLet, nIp]
    · intro t Y ⟨h1, h2, h3⟩
      refine ⟨Y, ?_, h1, h2⟩
      show f_X7_notes_11 n (t + 1) Y (nI 1633) = _
      rw [f_X7_notes_11, if_pos (show (1633 : Int32) ≤ nI 1633 from Int32.le_refl _), h1 0 (by decide), h, nI_pred]
      rfl
  · rw [if_neg c]
    obtain ⟨Z', e2, k1, k2, k3, k4, k5⟩ := notes49_v hn M (B := A) (by omega) h
    have ea : aN A = A := if_neg c
    refine ⟨Z', e2, k1, k2, by rw [ea]; exact k3, fun j i hj hi => ?_, fun i hi => by rw [ea]; exact k4 i hi⟩
    rw [ea] at hj
    rw [if_neg c, k5 _ (by omega)]
theorem rem24 {a : Nat} (h : a < 2 ^ 31) : zRem (nI a) 24 = nI (a % 24) := pk_rem (d := 24) h (by decide) (by decide)
theorem keep_v (X : KX) {A f : Nat} (hA : A ≤ 24) (hf : f < 24) (h3 : X 43 3 = nI A) (h4 : X 43 4 = nI f) (a b c : Int32) : ∃ X' : KX, f_X0_keep X a b c = some X' ∧ (∀ k, (k < 43 ∨ 46 < k) → X' k = X k) ∧ X' 43 3 = nI (aN A + 1) ∧ X' 43 4 = nI (fN A f) ∧ X' 44 = upd (X 44) ((f + A) % 24) a ∧ X' 45 = upd (X 45) ((f + A) % 24) b ∧ X' 46 = upd (X 46) ((f + A) % 24) c := by
  unfold f_X0_keep
  rw [h3, h4, nI_add, rem24 (by omega)]
  have hp : (f + A) % 24 < 24 := Nat.mod_lt _ (by decide)
  generalize (f + A) % 24 = p at hp ⊢
  have G : ∀ (α : Type) (e : Option α), zGd (nI p) 24 e = e := fun _ e => zGd_n e hp (by decide)
  have cp : (nI p).toNatClampNeg = p := nI_cl p (by omega)
  simp only [G, cp, zLet]
  have q3 : (zU (zU (zU X 44 p a) 45 p b) 46 p c) 43 3 = nI A := h3
  have q4 : (zU (zU (zU X 44 p a) 45 p b) 46 p c) 43 4 = nI f := h4
  rw [q3, q4, nIp, nIp, rem24 (by omega)]
  have e24 : ((24 : Int32) ≤ nI A) = (24 ≤ A) := propext (nI_leI (a := 24) (by omega) (by omega))
  simp only [e24]
  by_cases c24 : A = 24
  · subst c24
    rw [if_pos (Nat.le_refl _)]
    exact ⟨_, rfl, fun k hk => by rw [zU_o _ _ _ (by omega), zU_o _ _ _ (by omega), zU_o _ _ _ (by omega), zU_o _ _ _ (by omega)], q3, rfl, rfl, rfl, rfl⟩
  · rw [if_neg (by omega)]
    refine ⟨_, rfl, fun k hk => by rw [zU_o _ _ _ (by omega), zU_o _ _ _ (by omega), zU_o _ _ _ (by omega), zU_o _ _ _ (by omega)], ?_, ?_, rfl, rfl, rfl⟩
    · rw [show aN A = A from if_neg c24]; rfl
    · rw [show fN A f = f from if_neg c24]; exact q4
theorem act_v {n : Nat} (hn : 40000 ≤ n) {X M : KX} (hS : acS X M) (a b c : Int32) : ∃ X1 M1 : KX, f_X0_keep X a b c = some X1 ∧ f_X7_notes n M = some M1 ∧ (∀ k, (k < 43 ∨ 46 < k) → X1 k = X k) ∧ (∀ k, k ≠ 0 → k ≠ 8 → M1 k = M k) ∧ (∀ i, i ≠ 16 → M1 0 i = M 0 i) ∧ ∀ X2 M2 : KX, X2 43 = X1 43 → X2 44 = X1 44 → X2 45 = X1 45 → X2 46 = X1 46 → M2 0 = M1 0 → M2 8 = M1 8 → cVx (M 6) → ¬ M 6 0 = 0 → lk a b c (M 6) (M2 6) → acS X2 M2 := by
  obtain ⟨A, f, hA, hf, h3, h16, h4, hj⟩ := hS
  obtain ⟨X1, e1, k1, k2, k3, k4, k5, k6⟩ := keep_v X hA hf h3 h4 a b c
  obtain ⟨M1, e2, m1, m2, m3, m4, m5⟩ := notes_v hn M hA h16
  refine ⟨X1, M1, e1, e2, k1, m1, m2, fun X2 M2 x3 x4 x5 x6 y0 y8 hcv hc0 hlk => ?_⟩
  have hA2 : aN A + 1 ≤ 24 := by unfold aN; split <;> omega
  have hf2 : fN A f < 24 := by unfold fN; split <;> omega
  refine ⟨aN A + 1, fN A f, hA2, hf2, by rw [x3]; exact k2, by rw [y0]; exact m3, by rw [x3]; exact k3, fun j hj2 => ?_⟩
  rw [x4, x5, x6, k4, k5, k6]
  have sT2 : ∀ j, j < aN A + 1 → sT M2 (aN A + 1) j = fun i => M1 8 (71 * j + i) := fun j hj => by
    unfold sT
    rw [if_pos hj, y8]
  by_cases c9 : j = aN A
  · have es : eS (M 6) (sT M2 (aN A + 1) j) := by
      rw [sT2 j hj2, c9]
      exact fun i hi => (m5 i hi).symm
    have et : sT M2 (aN A + 1) (j + 1) = M2 6 := by unfold sT; rw [if_neg (by omega)]
    have ep : (fN A f + j) % 24 = (f + A) % 24 := by
      rw [c9]
      unfold fN aN
      split <;> omega
    rw [ep, up_s, up_s, up_s, et]
    exact ⟨cVx_e es hcv, by rw [← es 0 (by decide)]; exact hc0, lk_e es (eS_rf _) hlk⟩
  · obtain ⟨j', hj', hjA⟩ : ∃ j', j' = (if A = 24 then j + 1 else j) ∧ j' < A := ⟨_, rfl, by unfold aN at hj2 c9; split at hj2 <;> split <;> split at c9 <;> omega⟩
    have hja : j < aN A := by omega
    obtain ⟨g1, g0, g2⟩ := hj j' hjA
    have es : eS (sT M A j') (sT M2 (aN A + 1) j) := by
      rw [sT2 j hj2]
      intro i hi
      unfold sT
      rw [if_pos hjA]
      show M 8 (71 * j' + i) = M1 8 (71 * j + i)
      rw [m4 j i hja hi, hj']
    have et : eS (sT M A (j' + 1)) (sT M2 (aN A + 1) (j + 1)) := by
      intro i hi
      rw [sT2 (j + 1) (by omega)]
      by_cases c8 : j + 1 = aN A
      · have : ¬ j' + 1 < A := by
          rw [hj']
          unfold aN at c8
          split at c8 <;> split <;> omega
        unfold sT
        rw [if_neg this]
        show M 6 i = M1 8 (71 * (j + 1) + i)
        rw [c8, m5 i hi]
      · have h8 : j + 1 < aN A := by omega
        have : j' + 1 < A := by
          rw [hj']
          unfold aN at h8
          split at h8 <;> split <;> omega
        unfold sT
        rw [if_pos this]
        show M 8 (71 * (j' + 1) + i) = M1 8 (71 * (j + 1) + i)
        rw [m4 (j + 1) i h8 hi, hj']
        congr 2
        split <;> omega
    have ep : (fN A f + j) % 24 = (f + j') % 24 := by
      rw [hj']
      unfold fN
      split <;> omega
    have en : (f + j') % 24 ≠ (f + A) % 24 := by
      have : 0 < j' ∨ A < 24 := by
        rw [hj']
        split <;> omega
      omega
    rw [ep, up_o _ _ en, up_o _ _ en, up_o _ _ en]
    exact ⟨cVx_e es g1, by rw [← es 0 (by decide)]; exact g0, lk_e es et g2⟩
theorem sim_act {X X' M M' : KX} (h : Sim X M) (hx : ∀ k, (k < 7 ∨ (16 ≤ k ∧ k < 43) ∨ 46 < k) → X' k = X k) (hm : ∀ c, c ≠ 0 → c ≠ 6 → c ≠ 8 → M' c = M c) (hm0 : ∀ i, i ≠ 16 → M' 0 i = M 0 i) (hn : nwS X' M') (ha : acS X' M') : Sim X' M' := by
  obtain ⟨hR, hT, hTr, hSt, hNw, hDr, ⟨hI0, hI1⟩, hA⟩ := h
  exact ⟨rwS_c (hx 2 (by omega)) (hx 3 (by omega)) (hx 4 (by omega)) (hm 1 (by decide) (by decide) (by decide)) (hm 2 (by decide) (by decide) (by decide)) (hm 3 (by decide) (by decide) (by decide)) hR, tpS_c (by rw [hx 5 (by omega)]) (hx 6 (by omega)) (hm0 6 (by decide)) (hm 5 (by decide) (by decide) (by decide)) hT, trS_c (by rw [hx 49 (by omega)]) (hx 50 (by omega)) (hm0 20 (by decide)) (hm 11 (by decide) (by decide) (by decide)) hTr, stS_c (by rw [hx 0 (by omega)]) (by rw [hx 0 (by omega)]) (hm0 4 (by decide)) (hm0 7 (by decide)) hSt, hn, drS_c (hx 16 (by omega)) (hx 20 (by omega)) (hx 24 (by omega)) hDr, ⟨imS_c (fun k h1 h2 => hx k (by omega)) (hm 10 (by decide) (by decide) (by decide)) (hm 9 (by decide) (by decide) (by decide)) hI0, imS_c (fun k h1 h2 => hx k (by omega)) (hm 10 (by decide) (by decide) (by decide)) (hm 9 (by decide) (by decide) (by decide)) hI1⟩, ha⟩
