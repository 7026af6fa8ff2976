/-! both worlds new -/
theorem in6 : ∀ i, i < 71 → i ≠ 3 → xM0 6 i = 0 := by decide +kernel
theorem in_b {c : Nat} (h15 : ∀ g, g < 6 → xK0 (c + 8) g = -1000000) (h0 : xK0 c 3 = 0 ∧ xK0 c 1 = 0 ∧ xK0 c 2 = 0 ∧ xK0 c 14 = -1 ∧ xK0 c 16 = 0 ∧ xK0 c 18 = 0 ∧ xK0 c 17 = 0 ∧ xK0 c 4 = 0 ∧ xK0 c 5 = 0) (h1 : xK0 c 15 = 0) (h2 : xK0 c 0 = 0) : CK xK0 c (xM0 6) 0 0 := by
  obtain ⟨a0, a1, a2, a3, a4, a5, a6, a7, a8⟩ := h0
  refine ⟨⟨?_, ?_, ?_, ?_, ?_, ?_, ?_, ?_, ?_⟩, fun h hh => by omega, fun h hh => by omega, ⟨0, by omega, by rw [h1]; rfl, fun g _ => ⟨fun z => absurd (z.symm.trans (Nat.zero_testBit g)) (by decide), fun z => by omega⟩⟩, ?_, fun g g6 _ => h15 g g6⟩
  · rw [a0, in6 0 (by decide) (by decide)]
  · rw [a1, in6 1 (by decide) (by decide)]
  · rw [a2, in6 2 (by decide) (by decide)]
  · rw [a3]; decide +kernel
  · rw [a4, in6 4 (by decide) (by decide)]
  · rw [a5, in6 5 (by decide) (by decide)]
  · rw [a6, in6 6 (by decide) (by decide)]
  · rw [a7, in6 7 (by decide) (by decide)]
  · rw [a8, in6 8 (by decide) (by decide)]
  · rw [h2, in6 0 (by decide) (by decide)]; rfl
theorem sim_0 : Sim xK0 xM0 := by
  refine ⟨?_, ⟨0, by omega, rfl, rfl, fun i hi => by omega⟩, ⟨0, by omega, rfl, rfl, fun i hi => by omega⟩, ⟨rfl, rfl⟩, ⟨0, 0, 0, 0, 0, 0, ⟨⟨?_, by omega⟩, ⟨?_, by omega⟩, ⟨?_, by omega⟩, ⟨?_, by omega⟩, ⟨?_, by omega⟩, ⟨?_, by omega, by rw [pc_0]; omega⟩, Or.inl ?_, fun _ => ⟨rfl, rfl⟩, fun z => by omega, fun h hh => by omega, fun h hh => by omega, Or.inl ⟨?_, ?_, fun h hh => by omega⟩⟩, in_b ?_ ?_ ?_ ?_⟩, ⟨?_, ?_, ?_, ?_, ?_, ?_, ?_, Or.inl ?_⟩, ⟨Or.inl ⟨rfl, rfl⟩, Or.inl ⟨rfl, rfl⟩⟩, ⟨0, 0, by omega, by omega, rfl, rfl, rfl, fun j hj => by omega⟩⟩
  · have h1 : ∀ r, r < 8 → xK0 4 r = -1 := by decide +kernel
    have h2 : ∀ r, r < 8 → xM0 1 r = -1000000 := by decide +kernel
    exact fun r hr => Or.inl ⟨h1 r hr, h2 r hr⟩
  · rw [in6 0 (by decide) (by decide)]; rfl
  · rw [in6 1 (by decide) (by decide)]; rfl
  · rw [in6 2 (by decide) (by decide)]; rfl
  · rw [in6 7 (by decide) (by decide)]; rfl
  · rw [in6 8 (by decide) (by decide)]; rfl
  · rw [in6 4 (by decide) (by decide)]; rfl
  · exact in6 5 (by decide) (by decide)
  · decide +kernel
  · exact in6 4 (by decide) (by decide)
  · decide +kernel
  · decide +kernel
  · decide +kernel
  · decide +kernel
  · decide +kernel
  · decide +kernel
  · decide +kernel
  · decide +kernel
  · decide +kernel
  · decide +kernel
  · decide +kernel
  · decide +kernel
