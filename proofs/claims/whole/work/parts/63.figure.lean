theorem num92 {N : Nat} {X4 X : KX} {p : Nat} (hf : cF X4 X) (hx : X4 5 2 = nI p) : ∃ X' : KX, f_X5_tellsNumber_92 N X4 = some (0, X') ∧ cF X' X ∧ X' 5 2 = nI p ∧ X' 5 3 = 1 := ⟨zU X4 5 3 1, rfl, ⟨fun c hc => by rw [zU_o _ _ _ hc]; exact hf.1 c hc, by rw [zU_s, up_o _ _ (by decide)]; exact hf.2⟩, by rw [zU_s, up_o _ _ (by decide)]; exact hx, by rw [zU_s, up_s]⟩
theorem num122 {N : Nat} {X4 X : KX} {p : Nat} (hf : cF X4 X) (hx : X4 5 2 = nI p) : ∃ X' : KX, f_X5_tellsNumber_122 N X4 = some (0, X') ∧ cF X' X ∧ X' 5 2 = nI p ∧ X' 5 3 = 2 := ⟨zU X4 5 3 2, rfl, ⟨fun c hc => by rw [zU_o _ _ _ hc]; exact hf.1 c hc, by rw [zU_s, up_o _ _ (by decide)]; exact hf.2⟩, by rw [zU_s, up_o _ _ (by decide)]; exact hx, by rw [zU_s, up_s]⟩
/-- a number, on both sides -/
theorem fig_v {N : Nat} (hN : 40000 ≤ N) {X M : KX} {k p lo hi : Nat} {b : Nat → Nat} (h : wl X M k b p) (hlo : lo < 100) (hhi : hi < 100) : ∃ (X' M' : KX) (r : Int32), f_X7_figure N M (nI lo) (nI hi) = some (r, M') ∧ cF X' X ∧ bF M' M ∧ ((∃ v e, f_X5_tellsNumber N X (nI lo) (nI hi) (-1) = some (1, X') ∧ wl X' M' k b e ∧ r = nI v ∧ X' 5 4 = nI v ∧ lo ≤ v ∧ v ≤ hi) ∨ (∃ kd, f_X5_tellsNumber N X (nI lo) (nI hi) (-1) = some (0, X') ∧ flt X' M' p kd)) := by
  unfold f_X7_figure f_X7_figure_22
  rw [well_t h.2.2.1, if_neg (by decide)]
  rcases num_v hN h with ⟨v, e, X4, t1, t2, t3, t4, t5, t6, t7, t8, t9⟩ | ⟨t1, X4, t2, t3, t4⟩
  · rw [if_pos t1, t2, inr_v (by omega) (by omega) (by omega), t9]
    by_cases c : lo ≤ v ∧ v ≤ hi
    · rw [if_pos c, if_neg (by rw [nI_ltI (by omega) (by omega)]; omega), if_neg (by rw [nI_ltI (by omega) (by omega)]; omega), if_neg (m1_ne v (by omega))]
      obtain ⟨M', a1, a2, a3, a4⟩ := takes_yes hN (kd := 2) h t3 t4
      rw [a1]
      have cf : cF (zU X4 5 2 (nI e)) X := ⟨fun c hc => by rw [zU_o _ _ _ hc]; exact t6.1 c hc, by rw [zU_s, up_o _ _ (by decide)]; exact t6.2⟩
      exact ⟨_, M', M 0 12, rfl, cf, a2, Or.inl ⟨v, e, rfl, ⟨tpB_f h.1 cf a2, by rw [zU_s, up_s], a3, a4⟩, t2, by rw [zU_s, up_o _ _ (by decide)]; exact t8, c.1, c.2⟩⟩
    · rw [if_neg c]
      obtain ⟨M', a1, a2, a3, a4⟩ := takes_no (N := N) (kd := 2) h
      obtain ⟨X', b1, b2, b3, b4⟩ := num122 (N := N) t6 t7
      rw [a1]
      refine ⟨X', M', 0, rfl, b2, a2, Or.inr ⟨2, ?_, b3, b4, a3, a4⟩⟩
      by_cases d : v < lo
      · rw [if_pos (by rw [nI_ltI (by omega) (by omega)]; exact d)]; exact b1
      · rw [if_neg (by rw [nI_ltI (by omega) (by omega)]; exact d), if_pos (by rw [nI_ltI (by omega) (by omega)]; omega)]; exact b1
  · rw [if_neg t1, t4]
    obtain ⟨M', a1, a2, a3, a4⟩ := takes_no (N := N) (kd := 1) h
    obtain ⟨X', b1, b2, b3, b4⟩ := num92 (N := N) t2 t3
    rw [a1]
    exact ⟨X', M', 0, rfl, b2, a2, Or.inr ⟨1, b1, b3, b4, a3, a4⟩⟩
theorem figB_v {N : Nat} (hN : 40000 ≤ N) {X M : KX} {k p u : Nat} {b : Nat → Nat} (h : wl X M k b p) (hu : u < 8) : ∃ (X' M' : KX) (r : Int32), f_X7_figureBut N M 7 (nI u) = some (r, M') ∧ cF X' X ∧ bF M' M ∧ ((∃ v e, f_X5_tellsNumber N X 0 7 (nI u) = some (1, X') ∧ wl X' M' k b e ∧ r = nI v ∧ X' 5 4 = nI v ∧ v ≤ 7 ∧ v ≠ u) ∨ (∃ kd, f_X5_tellsNumber N X 0 7 (nI u) = some (0, X') ∧ flt X' M' p kd)) := by
  unfold f_X7_figureBut f_X7_figureBut_22 f_X7_figureBut_43 f_X7_figureBut_44
  rw [well_t h.2.2.1, if_neg (by decide)]
  rcases num_v hN h with ⟨v, e, X4, t1, t2, t3, t4, t5, t6, t7, t8, t9⟩ | ⟨t1, X4, t2, t3, t4⟩
  · rw [if_pos t1, t2, t9, if_neg (nI_lt0 v (by omega))]
    obtain ⟨M0, a1, a2, a3, a4⟩ := takes_no (N := N) (kd := 2) h
    obtain ⟨X', b1, b2, b3, b4⟩ := num122 (N := N) t6 t7
    by_cases c : 7 < v
    · have c' : (7 : Int32) < nI v := by rw [show (7 : Int32) = nI 7 from rfl, nI_ltI (by omega) (by omega)]; exact c
      rw [if_pos c', if_pos c', a1]
      exact ⟨X', M0, 0, rfl, b2, a2, Or.inr ⟨2, b1, b3, b4, a3, a4⟩⟩
    · have c' : ¬ (7 : Int32) < nI v := by rw [show (7 : Int32) = nI 7 from rfl, nI_ltI (by omega) (by omega)]; exact c
      rw [if_neg c', if_neg c']
      by_cases d : v = u
      · rw [if_pos (by rw [d]), if_pos (by rw [d]), a1]
        exact ⟨X', M0, 0, rfl, b2, a2, Or.inr ⟨2, b1, b3, b4, a3, a4⟩⟩
      · have d' : ¬ nI v = nI u := fun z => d (nI_inj (by omega) (by omega) z)
        rw [if_neg d', if_neg d']
        obtain ⟨M', a1, a2, a3, a4⟩ := takes_yes hN (kd := 2) h t3 t4
        rw [a1]
        have cf : cF (zU X4 5 2 (nI e)) X := ⟨fun c hc => by rw [zU_o _ _ _ hc]; exact t6.1 c hc, by rw [zU_s, up_o _ _ (by decide)]; exact t6.2⟩
        exact ⟨_, M', M 0 12, rfl, cf, a2, Or.inl ⟨v, e, rfl, ⟨tpB_f h.1 cf a2, by rw [zU_s, up_s], a3, a4⟩, t2, by rw [zU_s, up_o _ _ (by decide)]; exact t8, by omega, d⟩⟩
  · rw [if_neg t1, t4]
    obtain ⟨M', a1, a2, a3, a4⟩ := takes_no (N := N) (kd := 1) h
    obtain ⟨X', b1, b2, b3, b4⟩ := num92 (N := N) t2 t3
    rw [a1]
    exact ⟨X', M', 0, rfl, b2, a2, Or.inr ⟨1, b1, b3, b4, a3, a4⟩⟩
