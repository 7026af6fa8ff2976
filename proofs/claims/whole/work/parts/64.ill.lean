/-! after a fault the model's reading does nothing more -/
theorem ill {M : KX} {f : Nat} (h : M 0 8 = nI f) (hf : f ≤ 120) : f_X7_isWell M = 0 := by unfold f_X7_isWell; rw [h, if_pos (nI_pos' (by omega))]
theorem takes_i {N : Nat} {M : KX} {f : Nat} (h : M 0 8 = nI f) (hf : f ≤ 120) (a c : Int32) : f_X7_takes N M a c = some (0, M) := by unfold f_X7_takes; rw [ill h hf, if_pos rfl]
theorem fig_i {N : Nat} {M : KX} {f : Nat} (h : M 0 8 = nI f) (hf : f ≤ 120) (a c : Int32) : f_X7_figure N M a c = some (0, M) := by
  unfold f_X7_figure f_X7_figure_22
  rw [ill h hf, if_pos rfl, takes_i h hf]
  rfl
theorem figB_i {N : Nat} {M : KX} {f : Nat} (h : M 0 8 = nI f) (hf : f ≤ 120) (a c : Int32) : f_X7_figureBut N M a c = some (0, M) := by
  unfold f_X7_figureBut f_X7_figureBut_22 f_X7_figureBut_43 f_X7_figureBut_44
  rw [ill h hf, if_pos rfl, takes_i h hf, takes_i h hf]
  simp only [zB2_s]
  split
  · rfl
  · split <;> rfl
theorem h110_i {N : Nat} {M : KX} {f : Nat} (h : M 0 8 = nI f) (hf : f ≤ 120) (s a b c d : Int32) : f_X7_readsHint_110 N M s a b c d = some M := by
  unfold f_X7_readsHint_110
  rw [takes_i h hf]
  simp only [zB2_s]
  rw [ill h hf, if_pos rfl]
theorem h82_i {N : Nat} {M : KX} {f : Nat} (h : M 0 8 = nI f) (hf : f ≤ 120) (s a b c : Int32) : f_X7_readsHint_82 N M s a b c = some M := by
  unfold f_X7_readsHint_82
  rw [takes_i h hf]
  simp only [zB2_s]
  rw [figB_i h hf]
  simp only [zB2_s]
  rw [h110_i h hf, h110_i h hf]
  split <;> rfl
theorem h57_i {N : Nat} {M : KX} {f : Nat} (h : M 0 8 = nI f) (hf : f ≤ 120) (s a b c : Int32) : f_X7_readsHint_57 N M s a b c = some M := by
  unfold f_X7_readsHint_57
  simp only [zLet]
  rw [fig_i h hf]
  simp only [zB2_s]
  rw [h82_i h hf, h82_i h hf]
  split <;> rfl
theorem g129_i {N : Nat} {M : KX} {f : Nat} (h : M 0 8 = nI f) (hf : f ≤ 120) (s a b c d : Int32) : f_X7_readsGuest_129 N M s a b c d = some M := by
  unfold f_X7_readsGuest_129
  rw [takes_i h hf]
  simp only [zB2_s]
  rw [ill h hf, if_pos rfl]
theorem g101_i {N : Nat} {M : KX} {f : Nat} (h : M 0 8 = nI f) (hf : f ≤ 120) (s a b c : Int32) : f_X7_readsGuest_101 N M s a b c = some M := by
  unfold f_X7_readsGuest_101
  rw [takes_i h hf]
  simp only [zB2_s]
  rw [fig_i h hf]
  simp only [zB2_s]
  rw [g129_i h hf, g129_i h hf]
  split <;> rfl
theorem g74_i {N : Nat} {M : KX} {f : Nat} (h : M 0 8 = nI f) (hf : f ≤ 120) (s a b : Int32) : f_X7_readsGuest_74 N M s a b = some M := by
  unfold f_X7_readsGuest_74
  rw [takes_i h hf]
  simp only [zB2_s]
  rw [fig_i h hf]
  simp only [zB2_s]
  rw [g101_i h hf, g101_i h hf]
  split <;> rfl
theorem g49_i {N : Nat} {M : KX} {f : Nat} (h : M 0 8 = nI f) (hf : f ≤ 120) (s a b : Int32) : f_X7_readsGuest_49 N M s a b = some M := by
  unfold f_X7_readsGuest_49
  simp only [zLet]
  rw [fig_i h hf]
  simp only [zB2_s]
  rw [g74_i h hf, g74_i h hf]
  split <;> rfl
theorem c254_i {N : Nat} {M : KX} {f : Nat} (h : M 0 8 = nI f) (hf : f ≤ 120) : f_X7_castle_254 N M = some (-1000100 - nI f, zU M 0 6 0) := by
  have h' : (zU M 0 6 0) 0 8 = nI f := h
  unfold f_X7_castle_254
  simp only [zLet]
  rw [ill h' hf, if_pos rfl, h']
theorem c233_i {N : Nat} {M : KX} {f : Nat} (h : M 0 8 = nI f) (hf : f ≤ 120) : f_X7_castle_233 N M = some (-1000100 - nI f, zU M 0 6 0) := by
  unfold f_X7_castle_233
  rw [ill h hf, if_pos rfl, c254_i h hf]
theorem c202_i {N t : Nat} {M : KX} {f : Nat} (h : M 0 8 = nI f) (hf : f ≤ 120) (ht : 0 < t) : f_X7_castle_202 N t M = some (-1000100 - nI f, zU M 0 6 0) := by
  obtain ⟨t, rfl⟩ : ∃ u, t = u + 1 := ⟨t - 1, by omega⟩
  rw [f_X7_castle_202, ill h hf, if_pos rfl, c233_i h hf]
theorem c170_i {N t : Nat} {M : KX} {f : Nat} (h : M 0 8 = nI f) (hf : f ≤ 120) (ht : 0 < t) (hN : 0 < N) : f_X7_castle_170 N t M = some (-1000100 - nI f, zU M 0 6 0) := by
  obtain ⟨t, rfl⟩ : ∃ u, t = u + 1 := ⟨t - 1, by omega⟩
  rw [f_X7_castle_170, ill h hf, if_pos rfl, c202_i h hf hN]
/-- the model's answer after a fault, whatever the draft -/
def iF (N : Nat) (M : KX) (f : Nat) (o : Option (Int32 × KX)) : Prop := ∃ M' : KX, o = some (-1000100 - nI f, M') ∧ (∀ c, c ≠ 0 → c ≠ 7 → M' c = M c) ∧ (∀ i, i ≠ 6 → M' 0 i = M 0 i) ∧ M' 0 6 = 0
theorem c165_i {N : Nat} {M : KX} {f : Nat} (h : M 0 8 = nI f) (hf : f ≤ 120) (hN : 0 < N) (s : Int32) : iF N M f (f_X7_castle_165 N M s) := by
  unfold f_X7_castle_165
  rw [takes_i h hf]
  simp only [zB2_s]
  rw [c170_i h hf hN hN]
  exact ⟨_, rfl, fun c c0 _ => zU_o _ _ _ c0, fun i hi => by rw [zU_s, up_o _ _ hi], by rw [zU_s, up_s]⟩
theorem iF_7 {N : Nat} {M : KX} {f i : Nat} {v : Int32} {o : Option (Int32 × KX)} (h : iF N (zU M 7 i v) f o) : iF N M f o := by
  obtain ⟨M', h1, h2, h3, h4⟩ := h
  exact ⟨M', h1, fun c c0 c7 => by rw [h2 c c0 c7, zU_o _ _ _ c7], fun i hi => by rw [h3 i hi]; rfl, h4⟩
theorem c134_i {N : Nat} {M : KX} {f : Nat} (h : M 0 8 = nI f) (hf : f ≤ 120) (hN : 0 < N) (s : Int32) : iF N M f (f_X7_castle_134 N M s) := by
  unfold f_X7_castle_134
  rw [takes_i h hf]
  simp only [zB2_s]
  rw [fig_i h hf]
  simp only [zB2_s, z71_0, z71_1, z71_2, z71_3, z71_4, z71_5, z71_6, z71_7, z71_8, cl_0, cl_1, cl_2, cl_3, cl_4, cl_5, cl_6, cl_7, cl_8, zLet]
  have h' : (zU M 7 0 0) 0 8 = nI f := h
  split
  · exact iF_7 (c165_i h' hf hN 1)
  · exact iF_7 (c165_i h' hf hN 0)
theorem c97_i {N : Nat} {M : KX} {f : Nat} (h : M 0 8 = nI f) (hf : f ≤ 120) (hN : 0 < N) (s : Int32) : iF N M f (f_X7_castle_97 N M s) := by
  unfold f_X7_castle_97
  rw [takes_i h hf]
  simp only [zB2_s, z71_0, z71_1, z71_2, z71_3, z71_4, z71_5, z71_6, z71_7, z71_8, cl_0, cl_1, cl_2, cl_3, cl_4, cl_5, cl_6, cl_7, cl_8]
  rw [figB_i h hf]
  simp only [zB2_s, zLet]
  have h' : (zU M 7 2 0) 0 8 = nI f := h
  split
  · exact iF_7 (c134_i h' hf hN 1)
  · exact iF_7 (c134_i h' hf hN 0)
