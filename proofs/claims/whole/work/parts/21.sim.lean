/-! a castle as a row of numbers (the reference's way), when it is in order; the class's castle at the cell c shows it -/
def hV (S : Nat → Int32) (h : Nat) : Prop := ∃ k f t : Nat, S (9 + 4 * h) = nI k ∧ 1 ≤ k ∧ k ≤ 5 ∧ S (10 + 4 * h) = nI f ∧ f < 8 ∧ S (11 + 4 * h) = nI t ∧ t < 8 ∧ f ≠ t
def gV (S : Nat → Int32) (g : Nat) : Prop := ∃ m fe bo ho : Nat, S (41 + 5 * g) = nI m ∧ m < 8 ∧ S (42 + 5 * g) = nI fe ∧ fe ≤ 20 ∧ S (43 + 5 * g) = nI bo ∧ bo ≤ 20 ∧ S (44 + 5 * g) = nI ho ∧ ho ≤ 2 ∧ (ho ≠ 2 → S (45 + 5 * g) = -1000000)
def eV (S : Nat → Int32) (G : Nat) : Prop := (S 3 = -1 ∧ S 4 = 0 ∧ ∀ g, g < G → ¬ S (44 + 5 * g) = 1) ∨ ∃ g0 : Nat, g0 < G ∧ S 3 = nI g0 ∧ S 5 = 0 ∧ ∀ g, g < G → (S (44 + 5 * g) = 1 ↔ g = g0)
def cV (S : Nat → Int32) (lim q w H G ev : Nat) : Prop := (S 0 = nI lim ∧ lim ≤ 5) ∧ (S 1 = nI q ∧ q < 8) ∧ (S 2 = nI w ∧ w < 8) ∧ (S 7 = nI H ∧ H ≤ 8) ∧ (S 8 = nI G ∧ G ≤ 6) ∧ (S 4 = nI ev ∧ ev < 2 ^ H ∧ pc ev ≤ lim) ∧ (S 5 = 0 ∨ S 5 = 1) ∧ (lim = 0 → H = 0 ∧ G = 0) ∧ (0 < lim → q ≠ w) ∧ (∀ h, h < H → hV S h) ∧ (∀ g, g < G → gV S g) ∧ eV S G
def cVx (S : Nat → Int32) : Prop := ∃ lim q w H G ev : Nat, cV S lim q w H G ev
def CK (X : KX) (c : Nat) (S : Nat → Int32) (H G : Nat) : Prop := (X c 3 = S 0 ∧ X c 1 = S 1 ∧ X c 2 = S 2 ∧ X c 14 = S 3 ∧ X c 16 = S 4 ∧ X c 18 = S 5 ∧ X c 17 = S 6 ∧ X c 4 = S 7 ∧ X c 5 = S 8) ∧
  (∀ h, h < H → X (c + 1) h = S (9 + 4 * h) ∧ X (c + 2) h = S (10 + 4 * h) ∧ X (c + 3) h = S (11 + 4 * h) ∧ X (c + 4) h = S (12 + 4 * h)) ∧
  (∀ g, g < G → X (c + 5) g = S (41 + 5 * g) ∧ X (c + 6) g = S (42 + 5 * g) ∧ X (c + 7) g = S (43 + 5 * g) ∧ X (c + 8) g = S (45 + 5 * g)) ∧
  (∃ b : Nat, b < 64 ∧ X c 15 = nI b ∧ ∀ g, g < 6 → (b.testBit g = true ↔ (g < G ∧ S (44 + 5 * g) = 2))) ∧
  X c 0 = (if S 0 = 0 then 0 else 1) ∧ (∀ g, g < 6 → G ≤ g → X (c + 8) g = -1000000)
/-- the castle of another row that is the same in its 71 places -/
def eS (S T : Nat → Int32) : Prop := ∀ j, j < 71 → S j = T j
/-! the two worlds show the same -/
def rwS (X M : KX) : Prop := ∀ r, r < 8 → (X 4 r = -1 ∧ M 1 r = -1000000) ∨ ∃ k l : Nat, X 4 r = nI k ∧ k ≤ 40 ∧ M 2 r = nI k ∧ X 3 r = nI l ∧ M 1 r = nI l ∧ l ≤ 2 ∧ ∀ i, i < k → X 2 (40 * r + i) = M 3 (40 * r + i)
def tpS (X M : KX) : Prop := ∃ k : Nat, k ≤ 120 ∧ X 5 1 = nI k ∧ M 0 6 = nI k ∧ ∀ i, i < k → ∃ b : Nat, b < 256 ∧ X 6 i = nI b ∧ M 5 i = nI b
def trS (X M : KX) : Prop := ∃ k : Nat, k ≤ 16 ∧ X 49 1 = nI k ∧ M 0 20 = nI k ∧ ∀ i, i < k → X 50 i = M 11 i
def stS (X M : KX) : Prop := X 0 10 = M 0 4 ∧ X 0 9 = M 0 7
def nwS (X M : KX) : Prop := ∃ lim q w H G ev : Nat, cV (M 6) lim q w H G ev ∧ CK X 7 (M 6) H G
def drS (X : KX) : Prop := (∀ h, h < 8 → X 20 h = 0) ∧ (∀ g, g < 6 → X 24 g = -1000000) ∧ X 16 14 = -1 ∧ X 16 15 = 0 ∧ X 16 16 = 0 ∧ X 16 17 = 0 ∧ X 16 18 = 0 ∧ (X 16 0 = 0 ∨ X 16 0 = 1)
def imS (X M : KX) (k : Nat) : Prop := (M 10 k = 0 ∧ X (25 + 9 * k) 0 = 0) ∨ (M 10 k = 1 ∧ X (25 + 9 * k) 0 = 1 ∧ ∃ lim q w H G ev : Nat, cV (fun j => M 9 (71 * k + j)) lim q w H G ev ∧ CK X (25 + 9 * k) (fun j => M 9 (71 * k + j)) H G)
/-- what an act of the class's says of the castle ahead of it and behind it -/
def lk (wt wo bf : Int32) (S T : Nat → Int32) : Prop :=
  (wt = 0 ∧ ∃ g G : Nat, S 8 = nI G ∧ g < G ∧ G ≤ 6 ∧ wo = nI g ∧ S 3 = -1 ∧ S 4 = 0 ∧ S (44 + 5 * g) = 0 ∧ eS T (upd (upd (upd S 3 (nI g)) 4 0) (44 + 5 * g) 1)) ∨
  (wt = 1 ∧ ∃ h g H G ev : Nat, S 7 = nI H ∧ h < H ∧ H ≤ 8 ∧ S 8 = nI G ∧ g < G ∧ G ≤ 6 ∧ S 4 = nI ev ∧ ev < 2 ^ H ∧ ev.testBit h = false ∧ wo = nI h ∧ S 3 = nI g ∧ bf = S (41 + 5 * g) ∧ ∃ m : Int32, eS T (upd (upd (upd S (41 + 5 * g) m) (12 + 4 * h) (S (12 + 4 * h) + 1)) 4 (nI (ev ||| 2 ^ h)))) ∨
  (wt = 2 ∧ ∃ g G : Nat, S 8 = nI G ∧ g < G ∧ G ≤ 6 ∧ wo = nI g ∧ S 3 = nI g ∧ S 5 = 0 ∧ S (44 + 5 * g) = 1 ∧ S (45 + 5 * g) = -1000000 ∧ bf = S 4 ∧ ∃ a he wv : Int32, wv = S 6 + (if a = S 2 then 1 else 0) ∧ eS T (upd (upd (upd (upd (upd (upd S 5 he) 6 wv) (44 + 5 * g) 2) (45 + 5 * g) a) 3 (-1)) 4 0)) ∨
  (wt = 3 ∧ ∃ g G : Nat, S 8 = nI G ∧ g < G ∧ G ≤ 6 ∧ wo = nI g ∧ bf = S (43 + 5 * g) ∧ ∃ v : Int32, eS T (upd S (43 + 5 * g) v))
def sT (M : KX) (A j : Nat) : Nat → Int32 := if j < A then (fun i => M 8 (71 * j + i)) else M 6
def acS (X M : KX) : Prop := ∃ A f : Nat, A ≤ 24 ∧ f < 24 ∧ X 43 3 = nI A ∧ M 0 16 = nI A ∧ X 43 4 = nI f ∧ (∀ j, j < A → cVx (sT M A j) ∧ ¬ (sT M A j) 0 = 0 ∧ lk (X 44 ((f + j) % 24)) (X 45 ((f + j) % 24)) (X 46 ((f + j) % 24)) (sT M A j) (sT M A (j + 1)))
def Sim (X M : KX) : Prop := rwS X M ∧ tpS X M ∧ trS X M ∧ stS X M ∧ nwS X M ∧ drS X ∧ (imS X M 0 ∧ imS X M 1) ∧ acS X M
/-! what each part looks at -/
theorem rwS_c {X X' M M' : KX} (a : X' 2 = X 2) (b : X' 3 = X 3) (c : X' 4 = X 4) (d : M' 1 = M 1) (e : M' 2 = M 2) (f : M' 3 = M 3) (h : rwS X M) : rwS X' M' := by
  unfold rwS at *
  simp only [a, b, c, d, e, f]
  exact h
theorem tpS_c {X X' M M' : KX} (a : X' 5 1 = X 5 1) (b : X' 6 = X 6) (c : M' 0 6 = M 0 6) (d : M' 5 = M 5) (h : tpS X M) : tpS X' M' := by
  unfold tpS at *
  simp only [a, b, c, d]
  exact h
theorem trS_c {X X' M M' : KX} (a : X' 49 1 = X 49 1) (b : X' 50 = X 50) (c : M' 0 20 = M 0 20) (d : M' 11 = M 11) (h : trS X M) : trS X' M' := by
  unfold trS at *
  simp only [a, b, c, d]
  exact h
theorem stS_c {X X' M M' : KX} (a : X' 0 10 = X 0 10) (b : X' 0 9 = X 0 9) (c : M' 0 4 = M 0 4) (d : M' 0 7 = M 0 7) (h : stS X M) : stS X' M' := by
  unfold stS at *
  rw [a, b, c, d]
  exact h
theorem CK_c {X X' : KX} {c : Nat} {S : Nat → Int32} {H G : Nat} (a0 : X' c = X c) (a1 : X' (c + 1) = X (c + 1)) (a2 : X' (c + 2) = X (c + 2)) (a3 : X' (c + 3) = X (c + 3)) (a4 : X' (c + 4) = X (c + 4)) (a5 : X' (c + 5) = X (c + 5)) (a6 : X' (c + 6) = X (c + 6)) (a7 : X' (c + 7) = X (c + 7)) (a8 : X' (c + 8) = X (c + 8)) (h : CK X c S H G) : CK X' c S H G := by
  unfold CK at *
  simp only [a0, a1, a2, a3, a4, a5, a6, a7, a8]
  exact h
theorem nwS_c {X X' M M' : KX} (a : ∀ k, 7 ≤ k → k < 16 → X' k = X k) (b : M' 6 = M 6) (h : nwS X M) : nwS X' M' := by
  obtain ⟨lim, q, w, H, G, ev, h1, h2⟩ := h
  refine ⟨lim, q, w, H, G, ev, by rw [b]; exact h1, ?_⟩
  rw [b]
  exact CK_c (a 7 (by omega) (by omega)) (a 8 (by omega) (by omega)) (a 9 (by omega) (by omega)) (a 10 (by omega) (by omega)) (a 11 (by omega) (by omega)) (a 12 (by omega) (by omega)) (a 13 (by omega) (by omega)) (a 14 (by omega) (by omega)) (a 15 (by omega) (by omega)) h2
theorem drS_c {X X' : KX} (a : X' 16 = X 16) (b : X' 20 = X 20) (c : X' 24 = X 24) (h : drS X) : drS X' := by
  unfold drS at *
  rw [a, b, c]
  exact h
theorem imS_c {X X' M M' : KX} {k : Nat} (a : ∀ j, 25 + 9 * k ≤ j → j < 34 + 9 * k → X' j = X j) (b : M' 10 = M 10) (c : M' 9 = M 9) (h : imS X M k) : imS X' M' k := by
  unfold imS at *
  rw [b, c, a (25 + 9 * k) (by omega) (by omega)]
  rcases h with h | ⟨h1, h2, lim, q, w, H, G, ev, h3, h4⟩
  · exact Or.inl h
  · exact Or.inr ⟨h1, h2, lim, q, w, H, G, ev, h3, CK_c (a _ (by omega) (by omega)) (a _ (by omega) (by omega)) (a _ (by omega) (by omega)) (a _ (by omega) (by omega)) (a _ (by omega) (by omega)) (a _ (by omega) (by omega)) (a _ (by omega) (by omega)) (a _ (by omega) (by omega)) (a _ (by omega) (by omega)) h4⟩
theorem acS_c {X X' M M' : KX} (a : X' 43 3 = X 43 3) (b : X' 43 4 = X 43 4) (c : X' 44 = X 44) (d : X' 45 = X 45) (e : X' 46 = X 46) (f : M' 0 16 = M 0 16) (g : M' 8 = M 8) (i : M' 6 = M 6) (h : acS X M) : acS X' M' := by
  unfold acS sT at *
  simp only [a, b, c, d, e, f, g, i]
  exact h
