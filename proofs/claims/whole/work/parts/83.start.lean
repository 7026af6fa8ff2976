def xK0 : KX := fun k => match k with
  | 4 => upd (upd (upd (upd (upd (upd (upd (upd (fun _ => 0) (0 : Int32).toNatClampNeg (-1)) (1 : Int32).toNatClampNeg (-1)) (2 : Int32).toNatClampNeg (-1)) (3 : Int32).toNatClampNeg (-1)) (4 : Int32).toNatClampNeg (-1)) (5 : Int32).toNatClampNeg (-1)) (6 : Int32).toNatClampNeg (-1)) (7 : Int32).toNatClampNeg (-1)
  | 7 => fun j => match j with | 14 => (-1) | _ => 0
  | 15 => upd (upd (upd (upd (upd (upd (fun _ => 0) (0 : Int32).toNatClampNeg (-1000000)) (1 : Int32).toNatClampNeg (-1000000)) (2 : Int32).toNatClampNeg (-1000000)) (3 : Int32).toNatClampNeg (-1000000)) (4 : Int32).toNatClampNeg (-1000000)) (5 : Int32).toNatClampNeg (-1000000)
  | 16 => fun j => match j with | 14 => (-1) | _ => 0
  | 24 => upd (upd (upd (upd (upd (upd (fun _ => 0) (0 : Int32).toNatClampNeg (-1000000)) (1 : Int32).toNatClampNeg (-1000000)) (2 : Int32).toNatClampNeg (-1000000)) (3 : Int32).toNatClampNeg (-1000000)) (4 : Int32).toNatClampNeg (-1000000)) (5 : Int32).toNatClampNeg (-1000000)
  | 25 => fun j => match j with | 14 => (-1) | _ => 0
  | 33 => upd (upd (upd (upd (upd (upd (fun _ => 0) (0 : Int32).toNatClampNeg (-1000000)) (1 : Int32).toNatClampNeg (-1000000)) (2 : Int32).toNatClampNeg (-1000000)) (3 : Int32).toNatClampNeg (-1000000)) (4 : Int32).toNatClampNeg (-1000000)) (5 : Int32).toNatClampNeg (-1000000)
  | 34 => fun j => match j with | 14 => (-1) | _ => 0
  | 42 => upd (upd (upd (upd (upd (upd (fun _ => 0) (0 : Int32).toNatClampNeg (-1000000)) (1 : Int32).toNatClampNeg (-1000000)) (2 : Int32).toNatClampNeg (-1000000)) (3 : Int32).toNatClampNeg (-1000000)) (4 : Int32).toNatClampNeg (-1000000)) (5 : Int32).toNatClampNeg (-1000000)
  | _ => fun _ => 0
def xM0 : KX := fun k => match k with
  | 1 => upd (upd (upd (upd (upd (upd (upd (upd (fun _ => 0) (0 : Int32).toNatClampNeg (-1000000)) (1 : Int32).toNatClampNeg (-1000000)) (2 : Int32).toNatClampNeg (-1000000)) (3 : Int32).toNatClampNeg (-1000000)) (4 : Int32).toNatClampNeg (-1000000)) (5 : Int32).toNatClampNeg (-1000000)) (6 : Int32).toNatClampNeg (-1000000)) (7 : Int32).toNatClampNeg (-1000000)
  | 6 => upd (fun _ => 0) (3 : Int32).toNatClampNeg (-1)
  | _ => fun _ => 0
def zAd (l : List Nat) : Nat → Nat := fun k => l.getD k 0
theorem st_fst {A : Nat → Prop} {ws : va_W} (h : va_D A ws) {l : List Nat} (hl : ws.map Prod.fst = l) : (∀ (i j a : Nat), l[i]? = some a → l[j]? = some a → i = j) ∧ ∀ (i a : Nat), l[i]? = some a → A a := by
  subst hl
  refine ⟨fun i j a hi hj => ?_, fun i a hi => ?_⟩
  · rw [List.getElem?_map] at hi hj
    cases h1 : ws[i]? with
    | none => rw [h1] at hi; cases hi
    | some p =>
      cases h2 : ws[j]? with
      | none => rw [h2] at hj; cases hj
      | some q =>
        rw [h1] at hi; rw [h2] at hj
        exact h.1 i j p q h1 h2 ((Option.some.inj hi).trans (Option.some.inj hj).symm)
  · rw [List.getElem?_map] at hi
    cases h1 : ws[i]? with
    | none => rw [h1] at hi; cases hi
    | some p =>
      rw [h1] at hi
      have e := Option.some.inj hi
      rw [← e]
      exact h.2 i p h1
theorem st_at {ws : va_W} {n : Nat} {ad : Nat → Nat} (hl : ws.map Prod.fst = (List.range n).map ad) {i : Nat} {p : Nat × va_E} (h : ws[i]? = some p) : i < n ∧ p.1 = ad i := by
  have h1 : (ws.map Prod.fst)[i]? = some p.1 := by rw [List.getElem?_map, h]; rfl
  rw [hl, List.getElem?_map] at h1
  by_cases hi : i < n
  · rw [List.getElem?_range hi] at h1
    exact ⟨hi, (Option.some.inj h1).symm⟩
  · rw [List.getElem?_eq_none (by rw [List.length_range]; omega)] at h1
    cases h1
theorem st_D {n : Nat} {ad : Nat → Nat} (hinj : ∀ i j, i < n → j < n → ad i = ad j → i = j) {ws : va_W} (hl : ws.map Prod.fst = (List.range n).map ad) : va_D (fun q => ∃ k, k < n ∧ q = ad k) ws := by
  refine ⟨fun i j p q hi hj he => ?_, fun k q hk => ?_⟩
  · obtain ⟨i1, i2⟩ := st_at hl hi
    obtain ⟨j1, j2⟩ := st_at hl hj
    exact hinj i j i1 j1 (by rw [← i2, ← j2]; exact he)
  · obtain ⟨i1, i2⟩ := st_at hl hk
    exact ⟨k, i1, i2⟩
theorem st_apart {n k : Nat} {ad ad2 : Nat → Nat} {A : Nat → Prop} {ws : va_W} (h : va_D A ws) (hl : ws.map Prod.fst = (List.range n).map ad ++ (List.range k).map ad2) : (∀ i j, i < n → j < n → ad i = ad j → i = j) ∧ (∀ i j, i < k → j < k → ad2 i = ad2 j → i = j) ∧ (∀ i j, i < n → j < k → ad i ≠ ad2 j) ∧ (∀ i, i < n → A (ad i)) ∧ ∀ j, j < k → A (ad2 j) := by
  obtain ⟨h1, h2⟩ := st_fst h hl
  have g1 : ∀ i, i < n → ((List.range n).map ad ++ (List.range k).map ad2)[i]? = some (ad i) := fun i hi => by
    rw [List.getElem?_append_left (by simpa using hi), List.getElem?_map, List.getElem?_range hi]; rfl
  have g2 : ∀ j, j < k → ((List.range n).map ad ++ (List.range k).map ad2)[n + j]? = some (ad2 j) := fun j hj => by
    rw [List.getElem?_append_right (by simp), List.length_map, List.length_range, Nat.add_sub_cancel_left, List.getElem?_map, List.getElem?_range hj]; rfl
  refine ⟨fun i j hi hj he => h1 i j (ad i) (g1 i hi) (by rw [he]; exact g1 j hj), fun i j hi hj he => ?_, fun i j hi hj he => ?_, fun i hi => h2 i _ (g1 i hi), fun j hj => h2 _ _ (g2 j hj)⟩
  · have := h1 (n + i) (n + j) (ad2 i) (g2 i hi) (by rw [he]; exact g2 j hj)
    omega
  · have := h1 i (n + j) (ad i) (g1 i hi) (by rw [he]; exact g2 j hj)
    omega
theorem st_wK (cI : ClassId) (ad : Nat → Nat) (X : KX) : (wK cI ad X).map Prod.fst = (List.range 51).map ad := rfl
theorem st_wM (cI cZ : ClassId) (ad : Nat → Nat) (M : KX) : (wM cI cZ ad M).map Prod.fst = (List.range 15).map ad := rfl
theorem st_arr {s : State} {args : Array Value} {ty : FieldType} (h : (Cond.arrayClass ty).before args s = true) (hn : (match ty with | .object _ => False | _ => True) = True) (hp : refKind ty = false) : ∃ cA : ClassId, ArrOfT s cA ty ∧ va_RA s cA ty := by
  obtain ⟨cA, kA, comp, h1, h2, h3⟩ := Cond.arrayClass_spec h
  refine ⟨cA, fun n z => ⟨fun k h => (by cases h), kA, h2, comp, h3⟩, ?_⟩
  cases ty with
  | object C => exact (hn.mpr trivial).elim
  | _ => exact h1

set_option maxHeartbeats 8000000 in
set_option maxRecDepth 100000 in
theorem v_start {p : Program} {e : Env} {s : State} {m : MethodId} {below : List Frame} {meth : Method} {c : Code} (l : Launch) {b L : Nat} {xs : Nat → Int32} {N : Nat} {Sim : KX → KX → Prop} (h_row : zOp_row N Sim) (h_set : zOp_set N Sim) (h_copy : zOp_copy N Sim) (h_drop : zOp_drop N Sim) (h_feed : zOp_feed N Sim) (h_castle : zOp_castle N Sim) (h_fault : zOp_fault N Sim) (h_invite : zOp_invite N Sim) (h_show : zOp_show N Sim) (h_speak : zOp_speak N Sim) (h_tale : zOp_tale N Sim) (h_undo : zOp_undo N Sim) (h_guest : zOp_guest N Sim) (h_hint : zOp_hint N Sim) (h_leads : zOp_leads N Sim) (h_route : zOp_route N Sim) (h_thinkable : zOp_thinkable N Sim) (h_chance : zOp_chance N Sim) (h_taught : zOp_taught N Sim) (h_bestGuest : zOp_bestGuest N Sim) (h_cover : zOp_cover N Sim) (h_spoilt : zOp_spoilt N Sim) (h_nearly : zOp_nearly N Sim) (h_image : zOp_image N Sim) (h_restore : zOp_restore N Sim) (h_kind : zOp_kind N Sim) (h_as : zOp_as N Sim) (h_ask : zOp_ask N Sim) (h_trace : zOp_trace N Sim) (h_count : zOp_count N Sim) (h_status : zOp_status N Sim) (h_init : Sim xK0 xM0) (hL : L ≤ 384) (C0 : lw_At p s m meth c b L xs) : W p l e room_1 s m #[Value.ref b] below meth c s.heap [] 0 0 (lw_Z below #[Value.ref b] s) (entryFrame m ([Value.ref b] : List Value).toArray 4) := by
  obtain ⟨hx, hb, hr, hml, hown, hts0, hX, hbl, hlocks, hgv⟩ := id C0
  have hts : ∀ w ∈ wsA, w.before #[Value.ref b] s = true := fun w h => hts0 w (wsA_tbl w h)
  have hA : ∀ q : Nat, s.heap.size ≤ q → (fun q : Nat => s.heap.size ≤ q) q := fun _ h => h
  obtain ⟨c0, i0, hKn0⟩ := u_known (C := RX0) (T := TX0) (N := 5) (n := 5) hts inX0A (hts0 (.instantiable RX0 5) (List.mem_of_getElem? (i := 221) rfl))
  obtain ⟨c1, i1, hKn1⟩ := u_known (C := RX1) (T := TX1) (N := 2) (n := 2) hts inX1A (hts0 (.instantiable RX1 2) (List.mem_of_getElem? (i := 260) rfl))
  obtain ⟨c2, i2, hKn2⟩ := u_known (C := RX2) (T := TX2) (N := 19) (n := 19) hts inX2A (hts0 (.instantiable RX2 19) (List.mem_of_getElem? (i := 117) rfl))
  obtain ⟨c3, i3, hKn3⟩ := u_known (C := RX3) (T := TX3) (N := 2) (n := 2) hts inX3A (hts0 (.instantiable RX3 2) (List.mem_of_getElem? (i := 247) rfl))
  obtain ⟨c4, i4, hKn4⟩ := u_known (C := RX4) (T := TX4) (N := 3) (n := 3) hts inX4A (hts0 (.instantiable RX4 3) (List.mem_of_getElem? (i := 75) rfl))
  obtain ⟨c5, i5, hKn5⟩ := u_known (C := RX5) (T := TX5) (N := 5) (n := 5) hts inX5A (hts0 (.instantiable RX5 5) (List.mem_of_getElem? (i := 92) rfl))
  obtain ⟨c6, i6, hKn6⟩ := u_known (C := RX6) (T := TX6) (N := 11) (n := 11) hts inX6A (hts0 (.instantiable RX6 11) (List.mem_of_getElem? (i := 67) rfl))
  obtain ⟨c7, i7, hKn7⟩ := u_known (C := RX7) (T := TX7) (N := 24) (n := 24) hts inX7A (hts0 (.instantiable RX7 24) (List.mem_of_getElem? (i := 756) rfl))
  obtain ⟨D, hKc⟩ : ∃ D : va_G, ∀ (k : Nat) (q : vw_C), vwCl[k]? = some q → u_Kn s q.1 q.2.1 q.2.2 (D.1 k) (D.2 k) := by
    refine ⟨(fun k => match k with | 0 => c0 | 1 => c1 | 2 => c2 | 3 => c3 | 4 => c4 | 5 => c5 | 6 => c6 | _ => c7, fun k => match k with | 0 => i0 | 1 => i1 | 2 => i2 | 3 => i3 | 4 => i4 | 5 => i5 | 6 => i6 | _ => i7), ?_⟩
    intro k q hq
    match k, hq with
    | 0, hq => cases hq; exact hKn0
    | 1, hq => cases hq; exact hKn1
    | 2, hq => cases hq; exact hKn2
    | 3, hq => cases hq; exact hKn3
    | 4, hq => cases hq; exact hKn4
    | 5, hq => cases hq; exact hKn5
    | 6, hq => cases hq; exact hKn6
    | 7, hq => cases hq; exact hKn7
    | k + 8, hq => simp [vwCl] at hq
  obtain ⟨cI, hI1, hI2⟩ := st_arr (hts0 (.arrayClass .int) (List.mem_of_getElem? (i := 90) rfl)) (by simp) rfl
  obtain ⟨cZ, hZ1, hZ2⟩ := st_arr (hts0 (.arrayClass .boolean) (List.mem_of_getElem? (i := 835) rfl)) (by simp) rfl
  have hK2 : va_K D vwCl [(cI, .int), (cZ, .boolean)] s := ⟨hKc, fun k q h => by
    match k, h with
    | 0, h => cases h; exact ⟨hI1, hI2⟩
    | 1, h => cases h; exact ⟨hZ1, hZ2⟩
    | k + 2, h => simp at h⟩
  have hK1 : va_K D vwCl [(cI, .int)] s := hK2.sub [0] rfl
  have nw : ∀ w ∈ lw_tbl, w.onTables = true → va_Nw w s := fun w h ho => va_Nw.of ho (hts0 w h)
  have hN : zN s := ⟨nw _ (List.mem_of_getElem? (i := 449) rfl) rfl, nw _ (List.mem_of_getElem? (i := 454) rfl) rfl, nw _ (List.mem_of_getElem? (i := 577) rfl) rfl, nw _ (List.mem_of_getElem? (i := 659) rfl) rfl, nw _ (List.mem_of_getElem? (i := 611) rfl) rfl⟩
  have hN2 : zN2 s := ⟨nw _ (List.mem_of_getElem? (i := 93) rfl) rfl, nw _ (List.mem_of_getElem? (i := 222) rfl) rfl, nw _ (List.mem_of_getElem? (i := 248) rfl) rfl, nw _ (List.mem_of_getElem? (i := 261) rfl) rfl⟩
  have hS : va_S (fun q : Nat => s.heap.size ≤ q) s.heap s.heap [] := va_S.rf
  have hP : va_P D vwCl [] s.heap := fun k q h => by simp at h
  have hD : va_D (fun q : Nat => s.heap.size ≤ q) [] := ⟨fun i j p q h => by simp at h, fun k q h => by simp at h⟩
  have hl := lv_entry ([.ref b]) (n := 4) (Nat.le_of_ble_eq_true rfl)
  rw [lg_entry_eq]
  generalize (lg_sl ([.ref b]) ++ List.replicate (4 - (lg_sl ([.ref b])).length) Slot.unset).toArray = ls at hl ⊢
  have hl : lv_has ls 4 [(0, .ref b)] := hl
  refine va_new (ci := 6) (fs := [.null, .null, .null, .null, .null, .null, .null, .null, .null, .int 0, .int 0]) (C := RX6) (T := TX6) (N := 11) hx hb hts inX6A tyX6 tyX6_ok hown (hts0 (.classLink R_law 7 RX6) (List.mem_of_getElem? (i := 66) rfl)) (hts0 (.instantiable RX6 11) (List.mem_of_getElem? (i := 67) rfl)) (hts0 (.initialized RX6) (List.mem_of_getElem? (i := 55) rfl)) hK2 hP hD hS hA rfl (fun j hj => by match j, hj with | 0, _ => rfl | 1, _ => rfl | 2, _ => rfl | 3, _ => rfl | 4, _ => rfl | 5, _ => rfl | 6, _ => rfl | 7, _ => rfl | 8, _ => rfl | 9, _ => rfl | 10, _ => rfl | j + 11, h => omega) (Nat.le_of_ble_eq_true rfl) (Nat.le_of_ble_eq_true rfl) dL_law_0 (fun k0 H hP hD hS => ?_)
  have hP : va_P D vwCl [(k0, .inr (6, [.null, .null, .null, .null, .null, .null, .null, .null, .null, .int 0, .int 0]))] H := hP
  have hD : va_D (fun q : Nat => s.heap.size ≤ q) [(k0, .inr (6, [.null, .null, .null, .null, .null, .null, .null, .null, .null, .int 0, .int 0]))] := hD
  refine W.widen (k := 1) (n := 11) (Nat.le_of_ble_eq_true rfl) (Nat.le_of_ble_eq_true rfl) ?_
  refine lv_dup hx hb dL_law_3 rfl ?_
  have hPc := hP.sub (ws' := [(k0, .inr (6, [.null, .null, .null, .null, .null, .null, .null, .null, .null, .int 0, .int 0]))]) [0] rfl
  have hDc := hD.sub (ws' := [(k0, .inr (6, [.null, .null, .null, .null, .null, .null, .null, .null, .null, .int 0, .int 0]))]) [0] (by decide) rfl
  have hFc := va_free (wc := [(k0, .inr (6, [.null, .null, .null, .null, .null, .null, .null, .null, .null, .int 0, .int 0]))]) hD hS hA [0] rfl
  refine va_callv (va_runI (As := []) (rest := [.ref k0]) ⟨hx, hb, hml, hown, hts⟩ (ct_X6 l D cI k0 H.size) (cwI 0 hts (ct_good (zW 70 rfl rfl)) rfl rfl rfl (hts0 (.initialized RX6) (List.mem_of_getElem? (i := 55) rfl)) (hts0 (.methodLink R_law 9 yX6_init) (List.mem_of_getElem? (i := 68) rfl)) (hts0 (.instanceMethod yX6_init) (List.mem_of_getElem? (i := 69) rfl)) rfl (by decide +kernel) ⟨Nat.le_of_ble_eq_true rfl, Nat.le_of_ble_eq_true rfl⟩) ⟨zI2.blind, fun U hU hW => ⟨rfl, zN2.warm hW hN2, by rw [hU], by rw [hU]; exact hPc, va_K.moved hW.alike hK1, hDc.weaken (fun _ _ _ _ => trivial)⟩⟩ rfl rfl hl.1 rfl (lv_room (Nat.le_of_ble_eq_true rfl)) dL_law_4 ⟨Nat.le_of_ble_eq_true rfl, Nat.le_of_ble_eq_true rfl⟩) hS (fun q _ h => hFc q h) hFc (fun u t H1 locs ht hvm _ hB hz1 hk1 hS => ?_)
  obtain ⟨q1, q2, q3, q4, q5, q6, q7, q8, q9, q10, q11, q12, q13, q14, q15, q16, q17, q18, q19, q20, q21, q22, q23, q24, q25, q26, q27, q28, q29, q30, q31, q32, q33, q34, q35, q36, q37, q38, q39, q40, q41, q42, q43, q44, q45, q46, q47, q48, q49, q50, hP1, hD1⟩ := hB
  rw [ht] at hP1
  obtain ⟨hP, hD⟩ := va_join (wr := []) hP hD [0] [] rfl rfl (by decide) (by decide) hk1 hFc hP1 hD1
  generalize H1 = H at hP hS ⊢
  have hex : ∃ ad : Nat → Nat, ad 0 = k0 ∧ va_P D vwCl (wK cI ad xK0) H ∧ va_D (fun q : Nat => s.heap.size ≤ q) (wK cI ad xK0) := ⟨zAd [k0, q1, q2, q3, q4, q5, q6, q7, q8, q9, q10, q11, q12, q13, q14, q15, q16, q17, q18, q19, q20, q21, q22, q23, q24, q25, q26, q27, q28, q29, q30, q31, q32, q33, q34, q35, q36, q37, q38, q39, q40, q41, q42, q43, q44, q45, q46, q47, q48, q49, q50], rfl, hP, hD⟩
  clear hP hD hPc hDc hFc hP1 hD1 hk1
  obtain ⟨ad, e0, hP, hD⟩ := hex
  rw [show k0 = ad 0 from e0.symm]
  refine W.widen (k := 51) (n := 878) (Nat.le_of_ble_eq_true rfl) (Nat.le_of_ble_eq_true rfl) ?_
  refine lv_astore_n (lv' := [(1, .ref (ad 0)), (0, .ref b)]) hx hb dL_law_7 rfl hl (by decide) rfl (fun ls hl => ?_)
  refine va_new (ci := 7) (fs := [.null, .null, .null, .null, .int 0, .null, .int 0, .int 0, .int 0, .int 0, .int 0, .int 0, .int 0, .null, .null, .null, .int 0, .null, .null, .null, .int 0, .null, .null, .null]) (C := RX7) (T := TX7) (N := 24) hx hb hts inX7A tyX7 tyX7_ok hown (hts0 (.classLink R_law 10 RX7) (List.mem_of_getElem? (i := 755) rfl)) (hts0 (.instantiable RX7 24) (List.mem_of_getElem? (i := 756) rfl)) (hts0 (.initialized RX7) (List.mem_of_getElem? (i := 62) rfl)) hK2 hP hD hS hA rfl (fun j hj => by match j, hj with | 0, _ => rfl | 1, _ => rfl | 2, _ => rfl | 3, _ => rfl | 4, _ => rfl | 5, _ => rfl | 6, _ => rfl | 7, _ => rfl | 8, _ => rfl | 9, _ => rfl | 10, _ => rfl | 11, _ => rfl | 12, _ => rfl | 13, _ => rfl | 14, _ => rfl | 15, _ => rfl | 16, _ => rfl | 17, _ => rfl | 18, _ => rfl | 19, _ => rfl | 20, _ => rfl | 21, _ => rfl | 22, _ => rfl | 23, _ => rfl | j + 24, h => omega) (Nat.le_of_ble_eq_true rfl) (Nat.le_of_ble_eq_true rfl) dL_law_8 (fun m0 H hP hD hS => ?_)
  have hP : va_P D vwCl (wK cI ad xK0 ++ [(m0, .inr (7, [.null, .null, .null, .null, .int 0, .null, .int 0, .int 0, .int 0, .int 0, .int 0, .int 0, .int 0, .null, .null, .null, .int 0, .null, .null, .null, .int 0, .null, .null, .null]))]) H := hP
  have hD : va_D (fun q : Nat => s.heap.size ≤ q) (wK cI ad xK0 ++ [(m0, .inr (7, [.null, .null, .null, .null, .int 0, .null, .int 0, .int 0, .int 0, .int 0, .int 0, .int 0, .int 0, .null, .null, .null, .int 0, .null, .null, .null, .int 0, .null, .null, .null]))]) := hD
  refine W.widen (k := 52) (n := 902) (Nat.le_of_ble_eq_true rfl) (Nat.le_of_ble_eq_true rfl) ?_
  refine lv_dup hx hb dL_law_11 rfl ?_
  have hPc := hP.sub (ws' := [(m0, .inr (7, [.null, .null, .null, .null, .int 0, .null, .int 0, .int 0, .int 0, .int 0, .int 0, .int 0, .int 0, .null, .null, .null, .int 0, .null, .null, .null, .int 0, .null, .null, .null]))]) [51] rfl
  have hDc := hD.sub (ws' := [(m0, .inr (7, [.null, .null, .null, .null, .int 0, .null, .int 0, .int 0, .int 0, .int 0, .int 0, .int 0, .int 0, .null, .null, .null, .int 0, .null, .null, .null, .int 0, .null, .null, .null]))]) [51] (by decide) rfl
  have hFc := va_free (wc := [(m0, .inr (7, [.null, .null, .null, .null, .int 0, .null, .int 0, .int 0, .int 0, .int 0, .int 0, .int 0, .int 0, .null, .null, .null, .int 0, .null, .null, .null, .int 0, .null, .null, .null]))]) hD hS hA [51] rfl
  refine va_callv (va_runI (As := []) (rest := [.ref m0]) ⟨hx, hb, hml, hown, hts⟩ (ct_X7 l D cI cZ m0 H.size) (cwI 0 hts (ct_good (zW 759 rfl rfl)) rfl rfl rfl (hts0 (.initialized RX7) (List.mem_of_getElem? (i := 62) rfl)) (hts0 (.methodLink R_law 12 yX7_init) (List.mem_of_getElem? (i := 757) rfl)) (hts0 (.instanceMethod yX7_init) (List.mem_of_getElem? (i := 758) rfl)) rfl (by decide +kernel) ⟨Nat.le_of_ble_eq_true rfl, Nat.le_of_ble_eq_true rfl⟩) ⟨zI.blind, fun U hU hW => ⟨rfl, by rw [hU], by rw [hU]; exact hPc, va_K.moved hW.alike hK2, hDc.weaken (fun _ _ _ _ => trivial)⟩⟩ rfl rfl hl.1 rfl (lv_room (Nat.le_of_ble_eq_true rfl)) dL_law_12 ⟨Nat.le_of_ble_eq_true rfl, Nat.le_of_ble_eq_true rfl⟩) hS (fun q _ h => hFc q h) hFc (fun u t H1 locs ht hvm _ hB hz1 hk1 hS => ?_)
  obtain ⟨r1, r2, r3, r4, r5, r6, r7, r8, r9, r10, r11, r12, r13, r14, hP1, hD1⟩ := hB
  rw [ht] at hP1
  obtain ⟨hP, hD⟩ := va_join (wr := wK cI ad xK0) hP hD [51] [0, 1, 2, 3, 4, 5, 6, 7, 8, 9, 10, 11, 12, 13, 14, 15, 16, 17, 18, 19, 20, 21, 22, 23, 24, 25, 26, 27, 28, 29, 30, 31, 32, 33, 34, 35, 36, 37, 38, 39, 40, 41, 42, 43, 44, 45, 46, 47, 48, 49, 50] rfl rfl (by decide) (by decide) hk1 hFc hP1 hD1
  generalize H1 = H at hP hS ⊢
  have hex : ∃ ad2 : Nat → Nat, ad2 0 = m0 ∧ va_P D vwCl (wK cI ad xK0 ++ wM cI cZ ad2 xM0) H ∧ va_D (fun q : Nat => s.heap.size ≤ q) (wK cI ad xK0 ++ wM cI cZ ad2 xM0) := ⟨zAd [m0, r1, r2, r3, r4, r5, r6, r7, r8, r9, r10, r11, r12, r13, r14], rfl, hP, hD⟩
  clear hP hD hPc hDc hFc hP1 hD1 hk1
  obtain ⟨ad2, e0, hP, hD⟩ := hex
  rw [show m0 = ad2 0 from e0.symm]
  refine W.widen (k := 66) (n := 3924) (Nat.le_of_ble_eq_true rfl) (Nat.le_of_ble_eq_true rfl) ?_
  refine lv_astore_n (lv' := [(2, .ref (ad2 0)), (1, .ref (ad 0)), (0, .ref b)]) hx hb dL_law_15 rfl hl (by decide) rfl (fun ls hl => ?_)
  refine lv_iconst (v := 0) hx hb dL_law_16 (by decide +kernel) ?_
  refine lv_istore_n (lv' := [(3, .int 0), (2, .ref (ad2 0)), (1, .ref (ad 0)), (0, .ref b)]) hx hb dL_law_17 rfl hl (by decide) rfl (fun ls hl => ?_)
  obtain ⟨a1, a2, a3, a4, a5⟩ := st_apart (n := 51) (k := 15) (ad := ad) (ad2 := ad2) hD (by rw [List.map_append, st_wK, st_wM])
  have F : VF (p, l, e, s, m, b, below, meth, c) (D, cI, cZ, ad, ad2) L xs := ⟨⟨hx, hb, hown, hml, hts, hr, hlocks, hK1, hN, Nat.le_of_ble_eq_true rfl, Nat.le_of_ble_eq_true rfl⟩, hK2, fun X => st_D a1 (st_wK cI ad X), fun M => st_D a2 (st_wM cI cZ ad2 M), fun q ⟨k, h1, h2⟩ => by rw [h2]; exact a4 k h1, fun q ⟨k, h1, h2⟩ => by rw [h2]; exact a5 k h1, fun q ⟨k, h1, h2⟩ ⟨j, h3, h4⟩ => a3 k j h1 h3 (by rw [← h2, h4]), hX, hbl⟩
  exact law_loop F hL h_row h_set h_copy h_drop h_feed h_castle h_fault h_invite h_show h_speak h_tale h_undo h_guest h_hint h_leads h_route h_thinkable h_chance h_taught h_bestGuest h_cover h_spoilt h_nearly h_image h_restore h_kind h_as h_ask h_trace h_count h_status (L + 1) 0 xK0 xM0 (by omega) (by omega) h_init H _ ls (hP.sub [0, 1, 2, 3, 4, 5, 6, 7, 8, 9, 10, 11, 12, 13, 14, 15, 16, 17, 18, 19, 20, 21, 22, 23, 24, 25, 26, 27, 28, 29, 30, 31, 32, 33, 34, 35, 36, 37, 38, 39, 40, 41, 42, 43, 44, 45, 46, 47, 48, 49, 50] rfl) (hP.sub [51, 52, 53, 54, 55, 56, 57, 58, 59, 60, 61, 62, 63, 64, 65] rfl) hS hl
