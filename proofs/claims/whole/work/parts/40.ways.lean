/-! ways of hints, as lists: the sums behind foretelling -/
def rc (g : Nat → Nat → Nat) (A sh : Nat → Prop) (q : Nat) : Nat → List Nat → Prop
  | t, [] => t = q ∧ ¬ sh t
  | t, h :: l => ¬ sh t ∧ A h ∧ rc g A sh q (g h t) l
theorem rc_app {g : Nat → Nat → Nat} {A sh : Nat → Prop} {q : Nat} : ∀ (m1 : List Nat) (t : Nat) (m : List Nat), rc g A sh q t (m1 ++ m) → ∃ b, rc g A sh q b m ∧ ∀ m', rc g A sh q b m' → rc g A sh q t (m1 ++ m') := by
  intro m1
  induction m1 with
  | nil => intro t m h; exact ⟨t, h, fun _ h => h⟩
  | cons a m1 ih =>
    intro t m h
    obtain ⟨h1, h2, h3⟩ := h
    obtain ⟨b, k1, k2⟩ := ih _ _ h3
    exact ⟨b, k1, fun m' hm => ⟨h1, h2, k2 m' hm⟩⟩
def pP (g : Nat → Nat → Nat) (A : Nat → Prop) : Prop := ∀ h, A h → ∀ a b, ¬ g h a = a → ¬ g h b = b → g h b = a ∨ g h b = g h a
theorem rc_short {g : Nat → Nat → Nat} {A sh : Nat → Prop} {q : Nat} (hP : pP g A) : ∀ (l : List Nat) (t : Nat), rc g A sh q t l → ¬ l.Nodup → ∃ l', rc g A sh q t l' ∧ l'.length < l.length := by
  intro l
  induction l with
  | nil => intro t _ h; exact absurd List.nodup_nil h
  | cons a l ih =>
    intro t h hn
    obtain ⟨h1, h2, h3⟩ := h
    by_cases c : a ∈ l
    · by_cases c1 : g a t = t
      · rw [c1] at h3
        exact ⟨l, h3, by simp⟩
      · obtain ⟨m1, m2, rfl⟩ := List.append_of_mem c
        obtain ⟨b, ⟨k1, _, k3⟩, k2⟩ := rc_app _ _ _ h3
        by_cases c2 : g a b = b
        · rw [c2] at k3
          refine ⟨a :: (m1 ++ m2), ⟨h1, h2, k2 _ k3⟩, by simp⟩
        · rcases hP a h2 t b c1 c2 with e | e
          · rw [e] at k3
            exact ⟨m2, k3, by simp; omega⟩
          · rw [e] at k3
            exact ⟨a :: m2, ⟨h1, h2, k3⟩, by simp; omega⟩
    · have : ¬ l.Nodup := fun z => hn (List.nodup_cons.mpr ⟨c, z⟩)
      obtain ⟨l', k1, k2⟩ := ih _ h3 this
      exact ⟨a :: l', ⟨h1, h2, k1⟩, by simp; omega⟩
theorem rc_nodup {g : Nat → Nat → Nat} {A sh : Nat → Prop} {q : Nat} (hP : pP g A) : ∀ (n : Nat) (l : List Nat) (t : Nat), l.length ≤ n → rc g A sh q t l → ∃ l', rc g A sh q t l' ∧ l'.length ≤ l.length ∧ l'.Nodup := by
  intro n
  induction n with
  | zero =>
    intro l t hl h
    have : l = [] := List.length_eq_zero_iff.mp (by omega)
    subst this
    exact ⟨[], h, Nat.le_refl _, List.nodup_nil⟩
  | succ n ih =>
    intro l t hl h
    by_cases c : l.Nodup
    · exact ⟨l, h, Nat.le_refl _, c⟩
    · obtain ⟨l', k1, k2⟩ := rc_short hP l t h c
      obtain ⟨l2, k3, k4, k5⟩ := ih l' t (by omega) k1
      exact ⟨l2, k3, by omega, k5⟩
def run (g : Nat → Nat → Nat) (t : Nat) (l : List Nat) : Nat := l.foldl (fun t h => g h t) t
theorem run_snoc (g : Nat → Nat → Nat) (t : Nat) (l : List Nat) (h : Nat) : run g t (l ++ [h]) = g h (run g t l) := by
  unfold run; rw [List.foldl_append]; rfl
theorem rc_run {g : Nat → Nat → Nat} {A : Nat → Prop} {q : Nat} : ∀ (l : List Nat) (t : Nat), rc g A (fun _ => False) q t l ↔ (∀ h, h ∈ l → A h) ∧ run g t l = q := by
  intro l
  induction l with
  | nil => intro t; exact ⟨fun h => ⟨fun _ z => absurd z List.not_mem_nil, h.1⟩, fun h => ⟨h.2, fun z => z⟩⟩
  | cons a l ih =>
    intro t
    constructor
    · intro ⟨_, h2, h3⟩
      obtain ⟨k1, k2⟩ := (ih _).mp h3
      refine ⟨fun h hh => ?_, k2⟩
      rcases List.mem_cons.mp hh with rfl | hh
      · exact h2
      · exact k1 h hh
    · intro ⟨h1, h2⟩
      exact ⟨fun z => z, h1 a (List.mem_cons_self), (ih _).mpr ⟨fun h hh => h1 h (List.mem_cons_of_mem _ hh), h2⟩⟩
/-- the thoughts after all hints of a set, each once, in some order -/
def Th (g : Nat → Nat → Nat) (H t0 p u : Nat) : Prop := ∃ l : List Nat, (∀ h, h ∈ l ↔ p.testBit h = true) ∧ (∀ h, h ∈ l → h < H) ∧ l.Nodup ∧ run g t0 l = u
theorem tb_or2 (p h i : Nat) : (p ||| 2 ^ h).testBit i = true ↔ p.testBit i = true ∨ i = h := by
  rw [Nat.testBit_or, Nat.testBit_two_pow, Bool.or_eq_true, decide_eq_true_iff]
  constructor
  · rintro (h | h)
    · exact Or.inl h
    · exact Or.inr h.symm
  · rintro (h | h)
    · exact Or.inl h
    · exact Or.inr h.symm
theorem snoc_cases (l : List Nat) : l = [] ∨ ∃ l' h, l = l' ++ [h] := by
  by_cases c : l = []
  · exact Or.inl c
  · exact Or.inr ⟨l.dropLast, l.getLast c, (List.dropLast_concat_getLast c).symm⟩
theorem nodup_snoc {l : List Nat} {h : Nat} : (l ++ [h]).Nodup ↔ l.Nodup ∧ h ∉ l := by
  rw [List.nodup_append]
  constructor
  · intro ⟨h1, _, h3⟩
    exact ⟨h1, fun z => h3 _ z _ (List.mem_singleton.mpr rfl) rfl⟩
  · intro ⟨h1, h2⟩
    refine ⟨h1, by simp, fun a ha b hb => ?_⟩
    rw [List.mem_singleton] at hb
    subst hb
    exact fun z => h2 (z ▸ ha)
theorem bits_0 {p : Nat} (h : ∀ i, p.testBit i = false) : p = 0 := Nat.eq_of_testBit_eq (fun i => by rw [h i, Nat.zero_testBit])
theorem bits_eq {a b : Nat} (h : ∀ i, a.testBit i = true ↔ b.testBit i = true) : a = b := Nat.eq_of_testBit_eq (fun i => Bool.eq_iff_iff.mpr (h i))
theorem Th_bit {g : Nat → Nat → Nat} {H t0 p u : Nat} (h : Th g H t0 p u) : ∀ i, p.testBit i = true → i < H := by
  obtain ⟨l, h1, h2, _⟩ := h
  exact fun i hi => h2 i ((h1 i).mpr hi)
theorem bit_ltp {H p : Nat} (h : ∀ i, p.testBit i = true → i < H) : p < 2 ^ H := Nat.lt_pow_two_of_testBit p (fun i hi => by
  cases c : p.testBit i with
  | false => rfl
  | true => exact absurd (h i c) (by omega))
theorem Th_lt {g : Nat → Nat → Nat} {H t0 p u : Nat} (h : Th g H t0 p u) : p < 2 ^ H := bit_ltp (Th_bit h)
def mkl (l : List Nat) : Nat := l.foldl (fun a h => a ||| 2 ^ h) 0
theorem mkl_tb : ∀ (l : List Nat) (a i : Nat), (l.foldl (fun a h => a ||| 2 ^ h) a).testBit i = true ↔ a.testBit i = true ∨ i ∈ l := by
  intro l
  induction l with
  | nil => intro a i; simp
  | cons b l ih =>
    intro a i
    rw [List.foldl_cons, ih, tb_or2, List.mem_cons, or_assoc]
theorem mkl_mem (l : List Nat) (i : Nat) : (mkl l).testBit i = true ↔ i ∈ l := by
  unfold mkl; rw [mkl_tb]; simp
theorem pc_len {H : Nat} (hH : H ≤ 8) : ∀ (n : Nat) (l : List Nat), l.length = n → (∀ h, h ∈ l → h < H) → l.Nodup → pc (mkl l) = n := by
  intro n
  induction n with
  | zero =>
    intro l hl _ _
    have : l = [] := List.length_eq_zero_iff.mp hl
    subst this
    rfl
  | succ n ih =>
    intro l hl ha hn
    rcases snoc_cases l with rfl | ⟨l', h, rfl⟩
    · exact absurd hl (by simp)
    obtain ⟨n1, n2⟩ := nodup_snoc.mp hn
    have k := ih l' (by simp at hl; omega) (fun h hh => ha h (List.mem_append.mpr (Or.inl hh))) n1
    have hh := ha h (List.mem_append.mpr (Or.inr (List.mem_singleton.mpr rfl)))
    have lt : mkl l' < 256 := lt8_v H hH _ (bit_ltp (fun i hi => ha i (List.mem_append.mpr (Or.inl ((mkl_mem l' i).mp hi)))))
    have e : mkl (l' ++ [h]) = mkl l' ||| 2 ^ h := by unfold mkl; rw [List.foldl_append]; rfl
    rw [e]
    rcases pc_or _ lt h (by omega) with e | e
    · exact absurd ((mkl_mem l' h).mp e) n2
    · rw [e, k]
theorem Th_pc {H p : Nat} {l : List Nat} (hH : H ≤ 8) (h1 : ∀ h, h ∈ l ↔ p.testBit h = true) (h2 : ∀ h, h ∈ l → h < H) (h3 : l.Nodup) : l.length = pc p := by
  have : p = mkl l := bits_eq (fun i => by rw [mkl_mem, h1])
  rw [this, pc_len hH _ l rfl h2 h3]
theorem Th_step {g : Nat → Nat → Nat} {H t0 p u : Nat} : Th g H t0 p u ↔ (p = 0 ∧ u = t0) ∨ ∃ p' h u', Th g H t0 p' u' ∧ h < H ∧ p'.testBit h = false ∧ p = p' ||| 2 ^ h ∧ u = g h u' := by
  constructor
  · intro ⟨l, h1, h2, h3, h4⟩
    rcases snoc_cases l with rfl | ⟨l', h, rfl⟩
    · refine Or.inl ⟨bits_0 fun i => ?_, h4.symm⟩
      cases c : p.testBit i with
      | false => rfl
      | true => exact absurd ((h1 i).mpr c) List.not_mem_nil
    · obtain ⟨n1, n2⟩ := nodup_snoc.mp h3
      refine Or.inr ⟨mkl l', h, run g t0 l', ⟨l', fun i => (mkl_mem l' i).symm, fun i hi => h2 i (List.mem_append.mpr (Or.inl hi)), n1, rfl⟩, h2 h (List.mem_append.mpr (Or.inr (List.mem_singleton.mpr rfl))), ?_, bits_eq fun i => ?_, ?_⟩
      · cases c : (mkl l').testBit h with
        | false => rfl
        | true => exact absurd ((mkl_mem l' h).mp c) n2
      · rw [← h1, tb_or2, mkl_mem, List.mem_append, List.mem_singleton]
      · rw [← h4, run_snoc]
  · rintro (⟨rfl, rfl⟩ | ⟨p', h, u', ⟨l, h1, h2, h3, h4⟩, hh, hb, rfl, rfl⟩)
    · exact ⟨[], fun i => by simp, fun i hi => absurd hi List.not_mem_nil, List.nodup_nil, rfl⟩
    · refine ⟨l ++ [h], fun i => ?_, fun i hi => ?_, nodup_snoc.mpr ⟨h3, fun z => ?_⟩, ?_⟩
      · rw [tb_or2, List.mem_append, h1 i, List.mem_singleton]
      · rcases List.mem_append.mp hi with hi | hi
        · exact h2 i hi
        · rw [List.mem_singleton] at hi; omega
      · rw [(h1 h).mp z] at hb; exact absurd hb (by decide)
      · rw [run_snoc, h4]
/-- a set that reaches: the model's way of counting -/
def sF (g : Nat → Nat → Nat) (H t0 a q n : Nat) : Prop := ∃ p, (∀ h, p.testBit h = true → a.testBit h = true) ∧ pc p = n ∧ Th g H t0 p q
def lE (g : Nat → Nat → Nat) (H t0 a q n : Nat) : Prop := ∃ l : List Nat, l.length ≤ n ∧ rc g (fun h => h < H ∧ a.testBit h = true) (fun _ => False) q t0 l
theorem sF_lE {g : Nat → Nat → Nat} {H t0 a q n : Nat} (hH : H ≤ 8) (h : sF g H t0 a q n) : lE g H t0 a q n := by
  obtain ⟨p, h1, h2, l, k1, k2, k3, k4⟩ := h
  exact ⟨l, by rw [Th_pc hH k1 k2 k3]; omega, (rc_run l t0).mpr ⟨fun h hh => ⟨k2 h hh, h1 h ((k1 h).mp hh)⟩, k4⟩⟩
theorem lE_sF {g : Nat → Nat → Nat} {H t0 a q n : Nat} (hH : H ≤ 8) (hP : pP g (fun h => h < H)) (h : lE g H t0 a q n) : ∃ m, m ≤ n ∧ sF g H t0 a q m := by
  obtain ⟨l, h1, h2⟩ := h
  obtain ⟨l', k1, k2, k3⟩ := rc_nodup (fun h hh => hP h hh.1) _ l t0 (Nat.le_refl _) h2
  obtain ⟨j1, j2⟩ := (rc_run l' t0).mp k1
  refine ⟨l'.length, by omega, mkl l', fun h hh => (j1 h ((mkl_mem l' h).mp hh)).2, pc_len hH _ l' rfl (fun h hh => (j1 h hh).1) k3, l', fun h => (mkl_mem l' h).symm, fun h hh => (j1 h hh).1, k3, j2⟩
