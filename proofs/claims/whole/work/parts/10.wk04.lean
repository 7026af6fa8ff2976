set_option maxHeartbeats 4000000 in
set_option maxRecDepth 100000 in
theorem z_X3_fewestForAll {z : ZC} {D : va_G} {cI : ClassId} {ad : Nat → Nat} {R : Int32 × KX} (F : ZF z (yK D cI ad) cX3_fewestForAll RX3 6 (some .int) 6) (n : Nat) (X : KX)  (hf : f_X3_fewestForAll n X = some R) : Z z (yK D cI ad) 6 (zQI z (yK D cI ad) R) X 0 [(0, .ref (ad 47)), (1, .ref (ad 7))] [] := by
  unfold f_X3_fewestForAll at hf
  refine z_aload_n F dX3_fewestForAll_0 1 rfl rfl ?_
  refine k_X2_thoughtsToCome F (by decide) wm_646 (Nat.le_of_ble_eq_true rfl) hf dX3_fewestForAll_1 (fun r_1 hf => ?_)
  refine z_istore_n (L' := [(2, .int r_1), (0, .ref (ad 47)), (1, .ref (ad 7))]) F dX3_fewestForAll_4 rfl (Nat.le_of_ble_eq_true rfl) rfl ?_
  refine z_ldc F wm_589 dX3_fewestForAll_5 ?_
  refine z_istore_n (L' := [(3, .int (-1000000)), (2, .int r_1), (0, .ref (ad 47)), (1, .ref (ad 7))]) F dX3_fewestForAll_7 rfl (Nat.le_of_ble_eq_true rfl) rfl ?_
  refine z_aload_n F dX3_fewestForAll_8 2 rfl rfl ?_
  refine z_aload_n F dX3_fewestForAll_9 3 rfl rfl ?_
  refine z_iload_n F dX3_fewestForAll_10 1 rfl rfl ?_
  refine z_aload_n F dX3_fewestForAll_11 3 rfl rfl ?_
  refine k_X2_allHints F (by decide) wm_633 (Nat.le_of_ble_eq_true rfl) dX3_fewestForAll_12 ?_
  refine k_X3_haveRoute F (by decide) wm_651 (Nat.le_of_ble_eq_true rfl) hf dX3_fewestForAll_15 (fun r_2 X_3 hf => ?_)
  refine z_if_ne (tgt := 24) F hf dX3_fewestForAll_18 (by decide) (fun hf => ?_) (fun hf => ?_)
  · refine z_iconst (v := 0) F dX3_fewestForAll_24 (by decide +kernel) ?_
    refine z_istore (L' := [(4, .int 0), (3, .int (-1000000)), (2, .int r_1), (0, .ref (ad 47)), (1, .ref (ad 7))]) F dX3_fewestForAll_25 (Nat.le_of_ble_eq_true rfl) rfl ?_
    exact z_sub [3, 4, 2, 1, 0] rfl (z_X3_fewestForAll_27 F n n X_3 r_1 (-1000000) 0 hf)
  · refine z_ldc F wm_589 dX3_fewestForAll_21 ?_
    exact z_iret F dX3_fewestForAll_23 (Option.some.inj hf)
theorem c_X3_fewestForAll {D : va_G} {cI : ClassId} {ad : Nat → Nat} {R : Int32 × KX} (n : Nat) (X : KX)  (hf : f_X3_fewestForAll n X = some R) : zMI (yK D cI ad) yX3_fewestForAll cX3_fewestForAll 6 (some .int) 6 [.ref (ad 47), .ref (ad 7)] X R := zMI_of (by decide +kernel) (Nat.le_of_ble_eq_true rfl) (fun z F => z_sub [0, 1] rfl (z_X3_fewestForAll F n X hf))
theorem k_X3_fewestForAll {z : ZC} {D : va_G} {cI : ClassId} {ad : Nat → Nat} {cc : ByteArray} {own : String} {nL d pc index : Nat} {ret : Option FieldType} {Q : State → Prop} {X : KX} {L : List (Nat × Value)} {rest : List Value} {n : Nat} (F : ZF z (yK D cI ad) cc own nL ret d) (hd : 6 + 1 ≤ d) (hw : Cond.methodLink own index yX3_fewestForAll ∈ wsA) (hst : (rest.map fun v => v.category).sum ≤ 8) {β : Type} {e : Int32 → KX → Option β} {r : β} (hf : zB2 (f_X3_fewestForAll n X) e = some r) (hdg : decode cc pc = .ok (.invokevirtual index, 3)) (kk : ∀ (v : Int32) (X2 : KX), e v X2 = some r → Z z (yK D cI ad) nL Q X2 (pc + 3) L (.int v :: rest)) : Z z (yK D cI ad) nL Q X pc L (.ref (ad 7) :: .ref (ad 47) :: rest) := by
  obtain ⟨v, X2, h1, h2⟩ := zB2_some hf
  exact z_cVI (As := [.ref (ad 7)]) F (c_X3_fewestForAll n X h1) kn_X3_fewestForAll kv_X3_fewestForAll hw (q0 := 47) rfl rfl hd rfl hst hdg rfl (kk v X2 h2)
theorem kv_X6_cover : zKv yX6_cover := ⟨wm_639, wm_640⟩
theorem kn_X6_cover : zKn yX6_cover cX6_cover 3 (some .int) 1 := ⟨wm_641, wm_55, by decide +kernel, by decide⟩
set_option maxHeartbeats 4000000 in
set_option maxRecDepth 100000 in
theorem z_X6_cover_47 {z : ZC} {D : va_G} {cI : ClassId} {ad : Nat → Nat} {R : Int32 × KX} (F : ZF z (yK D cI ad) cX6_cover RX6 3 (some .int) 7) (n : Nat) (X : KX) (v2 : Int32) (hf : f_X6_cover_47 n X v2 = some R) : Z z (yK D cI ad) 3 (zQI z (yK D cI ad) R) X 47 [(2, .int v2)] [] := by
  unfold f_X6_cover_47 at hf
  refine z_iload_n F dX6_cover_47 0 rfl rfl ?_
  refine z_goto (tgt := 55) F dX6_cover_48 (by decide) ?_
  exact z_iret F dX6_cover_55 (Option.some.inj hf)
set_option maxHeartbeats 4000000 in
set_option maxRecDepth 100000 in
theorem z_X6_cover {z : ZC} {D : va_G} {cI : ClassId} {ad : Nat → Nat} {R : Int32 × KX} (F : ZF z (yK D cI ad) cX6_cover RX6 3 (some .int) 7) (n : Nat) (X : KX) (a1 : Int32) (hf : f_X6_cover n X a1 = some R) : Z z (yK D cI ad) 3 (zQI z (yK D cI ad) R) X 0 [(0, .ref (ad 0)), (1, .int a1)] [] := by
  unfold f_X6_cover at hf
  refine z_aload_n F dX6_cover_0 0 rfl rfl ?_
  refine gK_0_2 F wm_276 dX6_cover_1 ?_
  refine gK_7_0 F wm_124 dX6_cover_4 ?_
  refine z_if_ne (tgt := 13) F hf dX6_cover_7 (by decide) (fun hf => ?_) (fun hf => ?_)
  · refine z_iload_n F dX6_cover_13 1 rfl rfl ?_
    refine z_iconst (v := 2) F dX6_cover_14 (by decide +kernel) ?_
    refine k_X6_isBelow F (by decide) wm_312 (Nat.le_of_ble_eq_true rfl) dX6_cover_15 ?_
    refine z_if_ne (tgt := 24) F hf dX6_cover_18 (by decide) (fun hf => ?_) (fun hf => ?_)
    · refine z_aload_n F dX6_cover_24 0 rfl rfl ?_
      refine gK_0_7 F wm_281 dX6_cover_25 ?_
      refine z_aload_n F dX6_cover_28 0 rfl rfl ?_
      refine gK_0_2 F wm_276 dX6_cover_29 ?_
      refine k_X3_fewestForAll F (by decide) wm_642 (Nat.le_of_ble_eq_true rfl) hf dX6_cover_32 (fun r_1 X_2 hf => ?_)
      refine z_istore_n (L' := [(2, .int r_1), (0, .ref (ad 0)), (1, .int a1)]) F dX6_cover_35 rfl (Nat.le_of_ble_eq_true rfl) rfl ?_
      refine z_iload_n F dX6_cover_36 0 rfl rfl ?_
      refine z_ldc F wm_590 dX6_cover_37 ?_
      refine z_icmp_eq (tgt := 47) F hf dX6_cover_39 (by decide) (fun hf => ?_) (fun hf => ?_)
      · exact z_sub [0] rfl (z_X6_cover_47 F n X_2 r_1 hf)
      · refine z_iload_n F dX6_cover_42 2 rfl rfl ?_
        refine z_iconst (v := 1) F dX6_cover_43 (by decide +kernel) ?_
        refine z_icmp_ne (tgt := 51) F hf dX6_cover_44 (by decide) (fun hf => ?_) (fun hf => ?_)
        · refine z_iload_n F dX6_cover_51 0 rfl rfl ?_
          refine k_J6_bitCount_0f7a4 F (by decide) wm_475 (Nat.le_of_ble_eq_true rfl) dX6_cover_52 ?_
          exact z_iret F dX6_cover_55 (Option.some.inj hf)
        · exact z_sub [0] rfl (z_X6_cover_47 F n X_2 r_1 hf)
    · refine z_ldc F wm_315 dX6_cover_21 ?_
      exact z_iret F dX6_cover_23 (Option.some.inj hf)
  · refine z_ldc F wm_457 dX6_cover_10 ?_
    exact z_iret F dX6_cover_12 (Option.some.inj hf)
theorem c_X6_cover {D : va_G} {cI : ClassId} {ad : Nat → Nat} {R : Int32 × KX} (n : Nat) (X : KX) (a1 : Int32) (hf : f_X6_cover n X a1 = some R) : zMI (yK D cI ad) yX6_cover cX6_cover 3 (some .int) 7 [.ref (ad 0), .int a1] X R := zMI_of (by decide +kernel) (Nat.le_of_ble_eq_true rfl) (fun z F => z_sub [0, 1] rfl (z_X6_cover F n X a1 hf))
theorem k_X6_cover {z : ZC} {D : va_G} {cI : ClassId} {ad : Nat → Nat} {cc : ByteArray} {own : String} {nL d pc index : Nat} {ret : Option FieldType} {Q : State → Prop} {X : KX} {L : List (Nat × Value)} {rest : List Value} {n : Nat} {a1 : Int32} (F : ZF z (yK D cI ad) cc own nL ret d) (hd : 7 + 1 ≤ d) (hw : Cond.methodLink own index yX6_cover ∈ wsA) (hst : (rest.map fun v => v.category).sum ≤ 8) {β : Type} {e : Int32 → KX → Option β} {r : β} (hf : zB2 (f_X6_cover n X a1) e = some r) (hdg : decode cc pc = .ok (.invokevirtual index, 3)) (kk : ∀ (v : Int32) (X2 : KX), e v X2 = some r → Z z (yK D cI ad) nL Q X2 (pc + 3) L (.int v :: rest)) : Z z (yK D cI ad) nL Q X pc L (.int a1 :: .ref (ad 0) :: rest) := by
  obtain ⟨v, X2, h1, h2⟩ := zB2_some hf
  exact z_cVI (As := [.int a1]) F (c_X6_cover n X a1 h1) kn_X6_cover kv_X6_cover hw (q0 := 0) rfl rfl hd rfl hst hdg rfl (kk v X2 h2)
theorem kv_X2_toComeWith : zKv yX2_toComeWith := ⟨wm_670, wm_671⟩
theorem kn_X2_toComeWith : zKn yX2_toComeWith cX2_toComeWith 4 (some .int) 1 := ⟨wm_672, wm_58, by decide +kernel, by decide⟩
set_option maxHeartbeats 4000000 in
set_option maxRecDepth 100000 in
theorem z_X2_toComeWith_36 {z : ZC} {D : va_G} {cI : ClassId} {ad : Nat → Nat} {r : Int32} {k4 : Int32 → Int32 → Int32 → Option Int32} (F : ZF z (yK D cI ad) cX2_toComeWith RX2 4 (some .int) 3) (n : Nat) (X : KX) (hk4 : ∀ (v1 : Int32) (v2 : Int32) (v3 : Int32), k4 v1 v2 v3 = some r → Z z (yK D cI ad) 4 (zQI z (yK D cI ad) (r, X)) X 4 [(0, .ref (ad 7)), (1, .int v1), (2, .int v2), (3, .int v3)] []) (v1 : Int32) (v2 : Int32) (v3 : Int32) (hf : f_X2_toComeWith_36 n X k4 v1 v2 v3 = some r) : Z z (yK D cI ad) 4 (zQI z (yK D cI ad) (r, X)) X 36 [(0, .ref (ad 7)), (1, .int v1), (2, .int v2), (3, .int v3)] [] := by
  unfold f_X2_toComeWith_36 at hf
  refine z_iinc (w := 1) (L' := fun v3_1 => [(3, .int v3_1), (0, .ref (ad 7)), (1, .int v1), (2, .int v2)]) F hf dX2_toComeWith_36 3 rfl (by decide +kernel) (Nat.le_of_ble_eq_true rfl) (fun _ => rfl) (fun v3_1 hf => ?_)
  refine z_goto (tgt := 4) F dX2_toComeWith_39 (by decide) ?_
  exact z_sub [1, 2, 3, 0] rfl (hk4 v1 v2 v3_1 hf)
set_option maxHeartbeats 4000000 in
set_option maxRecDepth 100000 in
theorem z_X2_toComeWith_4 {z : ZC} {D : va_G} {cI : ClassId} {ad : Nat → Nat} {r : Int32} (F : ZF z (yK D cI ad) cX2_toComeWith RX2 4 (some .int) 3) (n : Nat) (X : KX) : ∀ (t : Nat) (v1 : Int32) (v2 : Int32) (v3 : Int32), f_X2_toComeWith_4 n X t v1 v2 v3 = some r → Z z (yK D cI ad) 4 (zQI z (yK D cI ad) (r, X)) X 4 [(0, .ref (ad 7)), (1, .int v1), (2, .int v2), (3, .int v3)] [] := by
  intro t
  induction t with
  | zero => intro v1 v2 v3 hf; rw [f_X2_toComeWith_4] at hf; exact zNone hf
  | succ t ih =>
    intro v1 v2 v3 hf
    rw [f_X2_toComeWith_4] at hf
    refine z_iload_n F dX2_toComeWith_4 3 rfl rfl ?_
    refine z_aload_n F dX2_toComeWith_5 0 rfl rfl ?_
    refine gK_7_5 F wm_139 dX2_toComeWith_6 ?_
    refine z_icmp_ge (tgt := 42) F hf dX2_toComeWith_9 (by decide) (fun hf => ?_) (fun hf => ?_)
    · refine z_iload_n F dX2_toComeWith_42 2 rfl rfl ?_
      exact z_iret F dX2_toComeWith_43 (Prod.ext (Option.some.inj hf) rfl)
    · refine z_aload_n F dX2_toComeWith_12 0 rfl rfl ?_
      refine z_iload_n F dX2_toComeWith_13 3 rfl rfl ?_
      refine k_X2_stateOf F (by decide) wm_650 (Nat.le_of_ble_eq_true rfl) dX2_toComeWith_14 ?_
      refine z_if_ne (tgt := 36) F hf dX2_toComeWith_17 (by decide) (fun hf => ?_) (fun hf => ?_)
      · exact z_sub [0, 1, 2, 3] rfl (z_X2_toComeWith_36 F n X ih v1 v2 v3 hf)
      · refine z_iload_n F dX2_toComeWith_20 1 rfl rfl ?_
        refine z_aload_n F dX2_toComeWith_21 0 rfl rfl ?_
        refine gK_7_10 F wm_160 dX2_toComeWith_22 ?_
        refine z_iload_n F dX2_toComeWith_25 3 rfl rfl ?_
        refine lK_12 F hf dX2_toComeWith_26 (fun hf => ?_)
        refine k_X6_hasN F (by decide) (fun _ h => h.2.1) (Nat.le_of_ble_eq_true rfl) dX2_toComeWith_27 ?_
        refine z_if_eq (tgt := 36) F hf dX2_toComeWith_30 (by decide) (fun hf => ?_) (fun hf => ?_)
        · exact z_sub [0, 1, 2, 3] rfl (z_X2_toComeWith_36 F n X ih v1 v2 v3 hf)
        · refine z_iinc (w := 1) (L' := fun v2_1 => [(2, .int v2_1), (0, .ref (ad 7)), (1, .int v1), (3, .int v3)]) F hf dX2_toComeWith_33 2 rfl (by decide +kernel) (Nat.le_of_ble_eq_true rfl) (fun _ => rfl) (fun v2_1 hf => ?_)
          exact z_sub [1, 2, 0, 3] rfl (z_X2_toComeWith_36 F n X ih v1 v2_1 v3 hf)
set_option maxHeartbeats 4000000 in
set_option maxRecDepth 100000 in
theorem z_X2_toComeWith {z : ZC} {D : va_G} {cI : ClassId} {ad : Nat → Nat} {r : Int32} (F : ZF z (yK D cI ad) cX2_toComeWith RX2 4 (some .int) 3) (n : Nat) (X : KX) (a1 : Int32) (hf : f_X2_toComeWith n X a1 = some r) : Z z (yK D cI ad) 4 (zQI z (yK D cI ad) (r, X)) X 0 [(0, .ref (ad 7)), (1, .int a1)] [] := by
  unfold f_X2_toComeWith at hf
  refine z_iconst (v := 0) F dX2_toComeWith_0 (by decide +kernel) ?_
  refine z_istore_n (L' := [(2, .int 0), (0, .ref (ad 7)), (1, .int a1)]) F dX2_toComeWith_1 rfl (Nat.le_of_ble_eq_true rfl) rfl ?_
  refine z_iconst (v := 0) F dX2_toComeWith_2 (by decide +kernel) ?_
  refine z_istore_n (L' := [(3, .int 0), (2, .int 0), (0, .ref (ad 7)), (1, .int a1)]) F dX2_toComeWith_3 rfl (Nat.le_of_ble_eq_true rfl) rfl ?_
  exact z_sub [2, 3, 1, 0] rfl (z_X2_toComeWith_4 F n X n a1 0 0 hf)
theorem c_X2_toComeWith {D : va_G} {cI : ClassId} {ad : Nat → Nat} {r : Int32} (n : Nat) (X : KX) (a1 : Int32) (hf : f_X2_toComeWith n X a1 = some r) : zMI (yK D cI ad) yX2_toComeWith cX2_toComeWith 4 (some .int) 3 [.ref (ad 7), .int a1] X (r, X) := zMI_of (by decide +kernel) (Nat.le_of_ble_eq_true rfl) (fun z F => z_sub [0, 1] rfl (z_X2_toComeWith F n X a1 hf))
theorem k_X2_toComeWith {z : ZC} {D : va_G} {cI : ClassId} {ad : Nat → Nat} {cc : ByteArray} {own : String} {nL d pc index : Nat} {ret : Option FieldType} {Q : State → Prop} {X : KX} {L : List (Nat × Value)} {rest : List Value} {n : Nat} {a1 : Int32} (F : ZF z (yK D cI ad) cc own nL ret d) (hd : 3 + 1 ≤ d) (hw : Cond.methodLink own index yX2_toComeWith ∈ wsA) (hst : (rest.map fun v => v.category).sum ≤ 8) {β : Type} {e : Int32 → Option β} {r : β} (hf : zB1 (f_X2_toComeWith n X a1) e = some r) (hdg : decode cc pc = .ok (.invokevirtual index, 3)) (kk : ∀ v : Int32, e v = some r → Z z (yK D cI ad) nL Q X (pc + 3) L (.int v :: rest)) : Z z (yK D cI ad) nL Q X pc L (.int a1 :: .ref (ad 7) :: rest) := by
  obtain ⟨v, h1, h2⟩ := zB1_some hf
  exact z_cVI (As := [.int a1]) F (c_X2_toComeWith n X a1 h1) kn_X2_toComeWith kv_X2_toComeWith hw (q0 := 7) rfl rfl hd rfl hst hdg rfl (kk v h2)
theorem kv_X3_mostMissed : zKv yX3_mostMissed := ⟨wm_666, wm_667⟩
theorem kn_X3_mostMissed : zKn yX3_mostMissed cX3_mostMissed 7 (some .int) 2 := ⟨wm_668, wm_60, by decide +kernel, by decide⟩
set_option maxHeartbeats 4000000 in
set_option maxRecDepth 100000 in
theorem z_X3_mostMissed_61 {z : ZC} {D : va_G} {cI : ClassId} {ad : Nat → Nat} {R : Int32 × KX} {k10 : KX → Int32 → Int32 → Int32 → Int32 → Option (Int32 × KX)} (F : ZF z (yK D cI ad) cX3_mostMissed RX3 7 (some .int) 5) (n : Nat) (hk10 : ∀ (X : KX) (v2 : Int32) (v3 : Int32) (v4 : Int32) (v5 : Int32), k10 X v2 v3 v4 v5 = some R → Z z (yK D cI ad) 7 (zQI z (yK D cI ad) R) X 10 [(0, .ref (ad 47)), (1, .ref (ad 7)), (2, .int v2), (3, .int v3), (4, .int v4), (5, .int v5)] []) (X : KX) (v2 : Int32) (v3 : Int32) (v4 : Int32) (v5 : Int32) (hf : f_X3_mostMissed_61 n k10 X v2 v3 v4 v5 = some R) : Z z (yK D cI ad) 7 (zQI z (yK D cI ad) R) X 61 [(0, .ref (ad 47)), (1, .ref (ad 7)), (2, .int v2), (3, .int v3), (4, .int v4), (5, .int v5)] [] := by
  unfold f_X3_mostMissed_61 at hf
  refine z_iinc (w := 1) (L' := fun v5_1 => [(5, .int v5_1), (0, .ref (ad 47)), (1, .ref (ad 7)), (2, .int v2), (3, .int v3), (4, .int v4)]) F hf dX3_mostMissed_61 5 rfl (by decide +kernel) (Nat.le_of_ble_eq_true rfl) (fun _ => rfl) (fun v5_1 hf => ?_)
  refine z_goto (tgt := 10) F dX3_mostMissed_64 (by decide) ?_
  exact z_sub [1, 2, 3, 4, 5, 0] rfl (hk10 X v2 v3 v4 v5_1 hf)
set_option maxHeartbeats 4000000 in
set_option maxRecDepth 100000 in
theorem z_X3_mostMissed_54 {z : ZC} {D : va_G} {cI : ClassId} {ad : Nat → Nat} {R : Int32 × KX} {k10 : KX → Int32 → Int32 → Int32 → Int32 → Option (Int32 × KX)} (F : ZF z (yK D cI ad) cX3_mostMissed RX3 7 (some .int) 5) (n : Nat) (hk10 : ∀ (X : KX) (v2 : Int32) (v3 : Int32) (v4 : Int32) (v5 : Int32), k10 X v2 v3 v4 v5 = some R → Z z (yK D cI ad) 7 (zQI z (yK D cI ad) R) X 10 [(0, .ref (ad 47)), (1, .ref (ad 7)), (2, .int v2), (3, .int v3), (4, .int v4), (5, .int v5)] []) (X : KX) (v2 : Int32) (v5 : Int32) (v6 : Int32) (hf : f_X3_mostMissed_54 n k10 X v2 v5 v6 = some R) : Z z (yK D cI ad) 7 (zQI z (yK D cI ad) R) X 54 [(0, .ref (ad 47)), (1, .ref (ad 7)), (2, .int v2), (5, .int v5), (6, .int v6)] [] := by
  unfold f_X3_mostMissed_54 at hf
  refine z_iload F dX3_mostMissed_54 3 rfl ?_
  refine z_istore_n (L' := [(3, .int v5), (0, .ref (ad 47)), (1, .ref (ad 7)), (2, .int v2), (5, .int v5), (6, .int v6)]) F dX3_mostMissed_56 rfl (Nat.le_of_ble_eq_true rfl) rfl ?_
  refine z_iload F dX3_mostMissed_57 5 rfl ?_
  refine z_istore (L' := [(4, .int v6), (3, .int v5), (0, .ref (ad 47)), (1, .ref (ad 7)), (2, .int v2), (5, .int v5), (6, .int v6)]) F dX3_mostMissed_59 (Nat.le_of_ble_eq_true rfl) rfl ?_
  exact z_sub [2, 3, 4, 1, 0, 5] rfl (z_X3_mostMissed_61 F n hk10 X v2 v5 v6 v5 hf)
set_option maxHeartbeats 4000000 in
set_option maxRecDepth 100000 in
theorem z_X3_mostMissed_10 {z : ZC} {D : va_G} {cI : ClassId} {ad : Nat → Nat} {R : Int32 × KX} (F : ZF z (yK D cI ad) cX3_mostMissed RX3 7 (some .int) 5) (n : Nat) : ∀ (t : Nat) (X : KX) (v2 : Int32) (v3 : Int32) (v4 : Int32) (v5 : Int32), f_X3_mostMissed_10 n t X v2 v3 v4 v5 = some R → Z z (yK D cI ad) 7 (zQI z (yK D cI ad) R) X 10 [(0, .ref (ad 47)), (1, .ref (ad 7)), (2, .int v2), (3, .int v3), (4, .int v4), (5, .int v5)] [] := by
  intro t
  induction t with
  | zero => intro X v2 v3 v4 v5 hf; rw [f_X3_mostMissed_10] at hf; exact zNone hf
  | succ t ih =>
    intro X v2 v3 v4 v5 hf
    rw [f_X3_mostMissed_10] at hf
    refine z_iload F dX3_mostMissed_10 5 rfl ?_
    refine z_aload_n F dX3_mostMissed_12 1 rfl rfl ?_
    refine gK_7_4 F wm_136 dX3_mostMissed_13 ?_
    refine z_icmp_ge (tgt := 67) F hf dX3_mostMissed_16 (by decide) (fun hf => ?_) (fun hf => ?_)
    · refine z_iload_n F dX3_mostMissed_67 2 rfl rfl ?_
      refine z_if_eq (tgt := 75) F hf dX3_mostMissed_68 (by decide) (fun hf => ?_) (fun hf => ?_)
      · refine z_iload F dX3_mostMissed_75 4 rfl ?_
        exact z_iret F dX3_mostMissed_77 (Option.some.inj hf)
      · refine z_iload_n F dX3_mostMissed_71 3 rfl rfl ?_
        refine z_goto (tgt := 77) F dX3_mostMissed_72 (by decide) ?_
        exact z_iret F dX3_mostMissed_77 (Option.some.inj hf)
    · refine z_aload_n F dX3_mostMissed_19 1 rfl rfl ?_
      refine z_aload_n F dX3_mostMissed_20 0 rfl rfl ?_
      refine z_aload_n F dX3_mostMissed_21 1 rfl rfl ?_
      refine z_aload_n F dX3_mostMissed_22 1 rfl rfl ?_
      refine k_X2_allHints F (by decide) wm_633 (Nat.le_of_ble_eq_true rfl) dX3_mostMissed_23 ?_
      refine z_iconst (v := 1) F dX3_mostMissed_26 (by decide +kernel) ?_
      refine z_iload F dX3_mostMissed_27 5 rfl ?_
      refine z_ishl F dX3_mostMissed_29 ?_
      refine z_iconst (v := (-1)) F dX3_mostMissed_30 (by decide +kernel) ?_
      refine z_ixor F dX3_mostMissed_31 ?_
      refine z_iand F dX3_mostMissed_32 ?_
      refine k_X3_thoughtsWithRoute F (by decide) wm_655 (Nat.le_of_ble_eq_true rfl) hf dX3_mostMissed_33 (fun r_1 X_2 hf => ?_)
      refine k_X2_toComeWith F (by decide) wm_669 (Nat.le_of_ble_eq_true rfl) hf dX3_mostMissed_36 (fun r_3 hf => ?_)
      refine z_istore (L' := [(6, .int r_3), (0, .ref (ad 47)), (1, .ref (ad 7)), (2, .int v2), (3, .int v3), (4, .int v4), (5, .int v5)]) F dX3_mostMissed_39 (Nat.le_of_ble_eq_true rfl) rfl ?_
      refine z_iload_n F dX3_mostMissed_41 4 rfl rfl ?_
      refine z_ldc F wm_589 dX3_mostMissed_42 ?_
      refine z_icmp_eq (tgt := 54) F hf dX3_mostMissed_44 (by decide) (fun hf => ?_) (fun hf => ?_)
      · exact z_sub [1, 2, 3, 6, 0] rfl (z_X3_mostMissed_54 F n ih X_2 v2 v5 r_3 hf)
      · refine z_iload F dX3_mostMissed_47 0 rfl ?_
        refine z_iload F dX3_mostMissed_49 5 rfl ?_
        refine z_icmp_ge (tgt := 61) F hf dX3_mostMissed_51 (by decide) (fun hf => ?_) (fun hf => ?_)
        · exact z_sub [1, 2, 3, 4, 5, 6] rfl (z_X3_mostMissed_61 F n ih X_2 v2 v3 v4 v5 hf)
        · exact z_sub [1, 2, 3, 6, 0] rfl (z_X3_mostMissed_54 F n ih X_2 v2 v5 r_3 hf)
set_option maxHeartbeats 4000000 in
set_option maxRecDepth 100000 in
theorem z_X3_mostMissed {z : ZC} {D : va_G} {cI : ClassId} {ad : Nat → Nat} {R : Int32 × KX} (F : ZF z (yK D cI ad) cX3_mostMissed RX3 7 (some .int) 5) (n : Nat) (X : KX) (a2 : Int32) (hf : f_X3_mostMissed n X a2 = some R) : Z z (yK D cI ad) 7 (zQI z (yK D cI ad) R) X 0 [(0, .ref (ad 47)), (1, .ref (ad 7)), (2, .int a2)] [] := by
  unfold f_X3_mostMissed at hf
  refine z_ldc F wm_589 dX3_mostMissed_0 ?_
  refine z_istore_n (L' := [(3, .int (-1000000)), (0, .ref (ad 47)), (1, .ref (ad 7)), (2, .int a2)]) F dX3_mostMissed_2 rfl (Nat.le_of_ble_eq_true rfl) rfl ?_
  refine z_ldc F wm_589 dX3_mostMissed_3 ?_
  refine z_istore (L' := [(4, .int (-1000000)), (3, .int (-1000000)), (0, .ref (ad 47)), (1, .ref (ad 7)), (2, .int a2)]) F dX3_mostMissed_5 (Nat.le_of_ble_eq_true rfl) rfl ?_
  refine z_iconst (v := 0) F dX3_mostMissed_7 (by decide +kernel) ?_
  refine z_istore (L' := [(5, .int 0), (4, .int (-1000000)), (3, .int (-1000000)), (0, .ref (ad 47)), (1, .ref (ad 7)), (2, .int a2)]) F dX3_mostMissed_8 (Nat.le_of_ble_eq_true rfl) rfl ?_
  exact z_sub [3, 4, 5, 2, 1, 0] rfl (z_X3_mostMissed_10 F n n X a2 (-1000000) (-1000000) 0 hf)
theorem c_X3_mostMissed {D : va_G} {cI : ClassId} {ad : Nat → Nat} {R : Int32 × KX} (n : Nat) (X : KX) (a2 : Int32) (hf : f_X3_mostMissed n X a2 = some R) : zMI (yK D cI ad) yX3_mostMissed cX3_mostMissed 7 (some .int) 5 [.ref (ad 47), .ref (ad 7), .int a2] X R := zMI_of (by decide +kernel) (Nat.le_of_ble_eq_true rfl) (fun z F => z_sub [0, 1, 2] rfl (z_X3_mostMissed F n X a2 hf))
theorem k_X3_mostMissed {z : ZC} {D : va_G} {cI : ClassId} {ad : Nat → Nat} {cc : ByteArray} {own : String} {nL d pc index : Nat} {ret : Option FieldType} {Q : State → Prop} {X : KX} {L : List (Nat × Value)} {rest : List Value} {n : Nat} {a2 : Int32} (F : ZF z (yK D cI ad) cc own nL ret d) (hd : 5 + 1 ≤ d) (hw : Cond.methodLink own index yX3_mostMissed ∈ wsA) (hst : (rest.map fun v => v.category).sum ≤ 8) {β : Type} {e : Int32 → KX → Option β} {r : β} (hf : zB2 (f_X3_mostMissed n X a2) e = some r) (hdg : decode cc pc = .ok (.invokevirtual index, 3)) (kk : ∀ (v : Int32) (X2 : KX), e v X2 = some r → Z z (yK D cI ad) nL Q X2 (pc + 3) L (.int v :: rest)) : Z z (yK D cI ad) nL Q X pc L (.int a2 :: .ref (ad 7) :: .ref (ad 47) :: rest) := by
  obtain ⟨v, X2, h1, h2⟩ := zB2_some hf
  exact z_cVI (As := [.ref (ad 7), .int a2]) F (c_X3_mostMissed n X a2 h1) kn_X3_mostMissed kv_X3_mostMissed hw (q0 := 47) rfl rfl hd rfl hst hdg rfl (kk v X2 h2)
theorem kv_X6_spoilt : zKv yX6_spoilt := ⟨wm_662, wm_663⟩
theorem kn_X6_spoilt : zKn yX6_spoilt cX6_spoilt 2 (some .int) 1 := ⟨wm_664, wm_55, by decide +kernel, by decide⟩
set_option maxHeartbeats 4000000 in
set_option maxRecDepth 100000 in
theorem z_X6_spoilt_41 {z : ZC} {D : va_G} {cI : ClassId} {ad : Nat → Nat} {R : Int32 × KX} (F : ZF z (yK D cI ad) cX6_spoilt RX6 2 (some .int) 6) (n : Nat) (X : KX) (s0 : Int32) (hf : f_X6_spoilt_41 n X s0 = some R) : Z z (yK D cI ad) 2 (zQI z (yK D cI ad) R) X 41 [] [.int s0, .ref (ad 7), .ref (ad 47)] := by
  unfold f_X6_spoilt_41 at hf
  refine k_X3_mostMissed F (by decide) wm_665 (Nat.le_of_ble_eq_true rfl) hf dX6_spoilt_41 (fun r_1 X_2 hf => ?_)
  exact z_iret F dX6_spoilt_44 (Option.some.inj hf)
set_option maxHeartbeats 4000000 in
set_option maxRecDepth 100000 in
theorem z_X6_spoilt {z : ZC} {D : va_G} {cI : ClassId} {ad : Nat → Nat} {R : Int32 × KX} (F : ZF z (yK D cI ad) cX6_spoilt RX6 2 (some .int) 6) (n : Nat) (X : KX) (a1 : Int32) (hf : f_X6_spoilt n X a1 = some R) : Z z (yK D cI ad) 2 (zQI z (yK D cI ad) R) X 0 [(0, .ref (ad 0)), (1, .int a1)] [] := by
  unfold f_X6_spoilt at hf
  refine z_aload_n F dX6_spoilt_0 0 rfl rfl ?_
  refine gK_0_2 F wm_276 dX6_spoilt_1 ?_
  refine gK_7_0 F wm_124 dX6_spoilt_4 ?_
  refine z_if_ne (tgt := 13) F hf dX6_spoilt_7 (by decide) (fun hf => ?_) (fun hf => ?_)
  · refine z_iload_n F dX6_spoilt_13 1 rfl rfl ?_
    refine z_iconst (v := 2) F dX6_spoilt_14 (by decide +kernel) ?_
    refine k_X6_isBelow F (by decide) wm_312 (Nat.le_of_ble_eq_true rfl) dX6_spoilt_15 ?_
    refine z_if_ne (tgt := 24) F hf dX6_spoilt_18 (by decide) (fun hf => ?_) (fun hf => ?_)
    · refine z_aload_n F dX6_spoilt_24 0 rfl rfl ?_
      refine gK_0_7 F wm_281 dX6_spoilt_25 ?_
      refine z_aload_n F dX6_spoilt_28 0 rfl rfl ?_
      refine gK_0_2 F wm_276 dX6_spoilt_29 ?_
      refine z_iload_n F dX6_spoilt_32 1 rfl rfl ?_
      refine z_if_ne (tgt := 40) F hf dX6_spoilt_33 (by decide) (fun hf => ?_) (fun hf => ?_)
      · refine z_iconst (v := 0) F dX6_spoilt_40 (by decide +kernel) ?_
        exact z_sub [] rfl (z_X6_spoilt_41 F n X 0 hf)
      · refine z_iconst (v := 1) F dX6_spoilt_36 (by decide +kernel) ?_
        refine z_goto (tgt := 41) F dX6_spoilt_37 (by decide) ?_
        exact z_sub [] rfl (z_X6_spoilt_41 F n X 1 hf)
    · refine z_ldc F wm_315 dX6_spoilt_21 ?_
      exact z_iret F dX6_spoilt_23 (Option.some.inj hf)
  · refine z_ldc F wm_457 dX6_spoilt_10 ?_
    exact z_iret F dX6_spoilt_12 (Option.some.inj hf)
theorem c_X6_spoilt {D : va_G} {cI : ClassId} {ad : Nat → Nat} {R : Int32 × KX} (n : Nat) (X : KX) (a1 : Int32) (hf : f_X6_spoilt n X a1 = some R) : zMI (yK D cI ad) yX6_spoilt cX6_spoilt 2 (some .int) 6 [.ref (ad 0), .int a1] X R := zMI_of (by decide +kernel) (Nat.le_of_ble_eq_true rfl) (fun z F => z_sub [0, 1] rfl (z_X6_spoilt F n X a1 hf))
theorem k_X6_spoilt {z : ZC} {D : va_G} {cI : ClassId} {ad : Nat → Nat} {cc : ByteArray} {own : String} {nL d pc index : Nat} {ret : Option FieldType} {Q : State → Prop} {X : KX} {L : List (Nat × Value)} {rest : List Value} {n : Nat} {a1 : Int32} (F : ZF z (yK D cI ad) cc own nL ret d) (hd : 6 + 1 ≤ d) (hw : Cond.methodLink own index yX6_spoilt ∈ wsA) (hst : (rest.map fun v => v.category).sum ≤ 8) {β : Type} {e : Int32 → KX → Option β} {r : β} (hf : zB2 (f_X6_spoilt n X a1) e = some r) (hdg : decode cc pc = .ok (.invokevirtual index, 3)) (kk : ∀ (v : Int32) (X2 : KX), e v X2 = some r → Z z (yK D cI ad) nL Q X2 (pc + 3) L (.int v :: rest)) : Z z (yK D cI ad) nL Q X pc L (.int a1 :: .ref (ad 0) :: rest) := by
  obtain ⟨v, X2, h1, h2⟩ := zB2_some hf
  exact z_cVI (As := [.int a1]) F (c_X6_spoilt n X a1 h1) kn_X6_spoilt kv_X6_spoilt hw (q0 := 0) rfl rfl hd rfl hst hdg rfl (kk v X2 h2)
theorem kv_X4_itemOf : zKv yX4_itemOf := ⟨wm_678, wm_679⟩
theorem kn_X4_itemOf : zKn yX4_itemOf cX4_itemOf 3 (some .int) 2 := ⟨wm_680, wm_56, by decide +kernel, by decide⟩
set_option maxHeartbeats 4000000 in
set_option maxRecDepth 100000 in
theorem z_X4_itemOf {z : ZC} {D : va_G} {cI : ClassId} {ad : Nat → Nat} {r : Int32} (F : ZF z (yK D cI ad) cX4_itemOf RX4 3 (some .int) 1) (X : KX) (a1 : Int32) (a2 : Int32) (hf : f_X4_itemOf X a1 a2 = some r) : Z z (yK D cI ad) 3 (zQI z (yK D cI ad) (r, X)) X 0 [(0, .ref (ad 1)), (1, .int a1), (2, .int a2)] [] := by
  unfold f_X4_itemOf at hf
  refine z_aload_n F dX4_itemOf_0 0 rfl rfl ?_
  refine gK_1_0 F wm_80 dX4_itemOf_1 ?_
  refine z_iload_n F dX4_itemOf_4 1 rfl rfl ?_
  refine z_bipush (v := 40) F dX4_itemOf_5 (by decide +kernel) ?_
  refine z_imul F dX4_itemOf_7 ?_
  refine z_iload_n F dX4_itemOf_8 2 rfl rfl ?_
  refine z_iadd F dX4_itemOf_9 ?_
  refine lK_2 F hf dX4_itemOf_10 (fun hf => ?_)
  exact z_iret F dX4_itemOf_11 (Prod.ext (Option.some.inj hf) rfl)
theorem c_X4_itemOf {D : va_G} {cI : ClassId} {ad : Nat → Nat} {r : Int32} (X : KX) (a1 : Int32) (a2 : Int32) (hf : f_X4_itemOf X a1 a2 = some r) : zMI (yK D cI ad) yX4_itemOf cX4_itemOf 3 (some .int) 1 [.ref (ad 1), .int a1, .int a2] X (r, X) := zMI_of (by decide +kernel) (Nat.le_of_ble_eq_true rfl) (fun z F => z_sub [0, 1, 2] rfl (z_X4_itemOf F X a1 a2 hf))
theorem k_X4_itemOf {z : ZC} {D : va_G} {cI : ClassId} {ad : Nat → Nat} {cc : ByteArray} {own : String} {nL d pc index : Nat} {ret : Option FieldType} {Q : State → Prop} {X : KX} {L : List (Nat × Value)} {rest : List Value} {a1 a2 : Int32} (F : ZF z (yK D cI ad) cc own nL ret d) (hd : 1 + 1 ≤ d) (hw : Cond.methodLink own index yX4_itemOf ∈ wsA) (hst : (rest.map fun v => v.category).sum ≤ 8) {β : Type} {e : Int32 → Option β} {r : β} (hf : zB1 (f_X4_itemOf X a1 a2) e = some r) (hdg : decode cc pc = .ok (.invokevirtual index, 3)) (kk : ∀ v : Int32, e v = some r → Z z (yK D cI ad) nL Q X (pc + 3) L (.int v :: rest)) : Z z (yK D cI ad) nL Q X pc L (.int a2 :: .int a1 :: .ref (ad 1) :: rest) := by
  obtain ⟨v, h1, h2⟩ := zB1_some hf
  exact z_cVI (As := [.int a1, .int a2]) F (c_X4_itemOf X a1 a2 h1) kn_X4_itemOf kv_X4_itemOf hw (q0 := 1) rfl rfl hd rfl hst hdg rfl (kk v h2)
theorem kv_X3_timesAhead : Cond.static yX3_timesAhead ∈ wsA := wm_689
theorem kn_X3_timesAhead : zKn yX3_timesAhead cX3_timesAhead 6 (some .int) 4 := ⟨wm_690, wm_60, by decide +kernel, by decide⟩
set_option maxHeartbeats 4000000 in
set_option maxRecDepth 100000 in
theorem z_X3_timesAhead_39 {z : ZC} {D : va_G} {cI : ClassId} {ad : Nat → Nat} {r : Int32} {k6 : Int32 → Int32 → Int32 → Int32 → Int32 → Option Int32} (F : ZF z (yK D cI ad) cX3_timesAhead RX3 6 (some .int) 2) (n : Nat) (X : KX) (hk6 : ∀ (v1 : Int32) (v2 : Int32) (v3 : Int32) (v4 : Int32) (v5 : Int32), k6 v1 v2 v3 v4 v5 = some r → Z z (yK D cI ad) 6 (zQI z (yK D cI ad) (r, X)) X 6 [(0, .ref (ad 1)), (1, .int v1), (2, .int v2), (3, .int v3), (4, .int v4), (5, .int v5)] []) (s0 : Int32) (s1 : Int32) (v1 : Int32) (v2 : Int32) (v3 : Int32) (v5 : Int32) (hf : f_X3_timesAhead_39 n X k6 s0 s1 v1 v2 v3 v5 = some r) : Z z (yK D cI ad) 6 (zQI z (yK D cI ad) (r, X)) X 39 [(0, .ref (ad 1)), (1, .int v1), (2, .int v2), (3, .int v3), (5, .int v5)] [.int s0, .int s1] := by
  unfold f_X3_timesAhead_39 at hf
  refine z_iadd F dX3_timesAhead_39 ?_
  refine z_top hf (fun v4_1 hf => ?_)
  refine z_istore (L' := [(4, .int v4_1), (0, .ref (ad 1)), (1, .int v1), (2, .int v2), (3, .int v3), (5, .int v5)]) F dX3_timesAhead_40 (Nat.le_of_ble_eq_true rfl) rfl ?_
  refine z_iinc (w := 1) (L' := fun v5_2 => [(5, .int v5_2), (4, .int v4_1), (0, .ref (ad 1)), (1, .int v1), (2, .int v2), (3, .int v3)]) F hf dX3_timesAhead_42 5 rfl (by decide +kernel) (Nat.le_of_ble_eq_true rfl) (fun _ => rfl) (fun v5_2 hf => ?_)
  refine z_goto (tgt := 6) F dX3_timesAhead_45 (by decide) ?_
  exact z_sub [2, 3, 4, 5, 1, 0] rfl (hk6 v1 v2 v3 v4_1 v5_2 hf)
set_option maxHeartbeats 4000000 in
set_option maxRecDepth 100000 in
theorem z_X3_timesAhead_6 {z : ZC} {D : va_G} {cI : ClassId} {ad : Nat → Nat} {r : Int32} (F : ZF z (yK D cI ad) cX3_timesAhead RX3 6 (some .int) 2) (n : Nat) (X : KX) : ∀ (t : Nat) (v1 : Int32) (v2 : Int32) (v3 : Int32) (v4 : Int32) (v5 : Int32), f_X3_timesAhead_6 n X t v1 v2 v3 v4 v5 = some r → Z z (yK D cI ad) 6 (zQI z (yK D cI ad) (r, X)) X 6 [(0, .ref (ad 1)), (1, .int v1), (2, .int v2), (3, .int v3), (4, .int v4), (5, .int v5)] [] := by
  intro t
  induction t with
  | zero => intro v1 v2 v3 v4 v5 hf; rw [f_X3_timesAhead_6] at hf; exact zNone hf
  | succ t ih =>
    intro v1 v2 v3 v4 v5 hf
    rw [f_X3_timesAhead_6] at hf
    refine z_iload F dX3_timesAhead_6 5 rfl ?_
    refine z_iload_n F dX3_timesAhead_8 3 rfl rfl ?_
    refine z_icmp_ge (tgt := 48) F hf dX3_timesAhead_9 (by decide) (fun hf => ?_) (fun hf => ?_)
    · refine z_iload F dX3_timesAhead_48 4 rfl ?_
      exact z_iret F dX3_timesAhead_50 (Prod.ext (Option.some.inj hf) rfl)
    · refine z_iload F dX3_timesAhead_12 4 rfl ?_
      refine z_aload_n F dX3_timesAhead_14 0 rfl rfl ?_
      refine z_iload_n F dX3_timesAhead_15 1 rfl rfl ?_
      refine z_iload_n F dX3_timesAhead_16 2 rfl rfl ?_
      refine z_iload F dX3_timesAhead_17 5 rfl ?_
      refine z_iadd F dX3_timesAhead_19 ?_
      refine k_X4_itemOf F (by decide) wm_687 (Nat.le_of_ble_eq_true rfl) hf dX3_timesAhead_20 (fun r_1 hf => ?_)
      refine z_aload_n F dX3_timesAhead_23 0 rfl rfl ?_
      refine z_iload_n F dX3_timesAhead_24 1 rfl rfl ?_
      refine z_iload_n F dX3_timesAhead_25 2 rfl rfl ?_
      refine z_iload_n F dX3_timesAhead_26 3 rfl rfl ?_
      refine z_iadd F dX3_timesAhead_27 ?_
      refine k_X4_itemOf F (by decide) wm_687 (Nat.le_of_ble_eq_true rfl) hf dX3_timesAhead_28 (fun r_2 hf => ?_)
      refine z_icmp_ne (tgt := 38) F hf dX3_timesAhead_31 (by decide) (fun hf => ?_) (fun hf => ?_)
      · refine z_iconst (v := 0) F dX3_timesAhead_38 (by decide +kernel) ?_
        exact z_sub [0, 1, 2, 3, 5] rfl (z_X3_timesAhead_39 F n X ih 0 v4 v1 v2 v3 v5 hf)
      · refine z_iconst (v := 1) F dX3_timesAhead_34 (by decide +kernel) ?_
        refine z_goto (tgt := 39) F dX3_timesAhead_35 (by decide) ?_
        exact z_sub [0, 1, 2, 3, 5] rfl (z_X3_timesAhead_39 F n X ih 1 v4 v1 v2 v3 v5 hf)
set_option maxHeartbeats 4000000 in
set_option maxRecDepth 100000 in
theorem z_X3_timesAhead {z : ZC} {D : va_G} {cI : ClassId} {ad : Nat → Nat} {r : Int32} (F : ZF z (yK D cI ad) cX3_timesAhead RX3 6 (some .int) 2) (n : Nat) (X : KX) (a1 : Int32) (a2 : Int32) (a3 : Int32) (hf : f_X3_timesAhead n X a1 a2 a3 = some r) : Z z (yK D cI ad) 6 (zQI z (yK D cI ad) (r, X)) X 0 [(0, .ref (ad 1)), (1, .int a1), (2, .int a2), (3, .int a3)] [] := by
  unfold f_X3_timesAhead at hf
  refine z_iconst (v := 0) F dX3_timesAhead_0 (by decide +kernel) ?_
  refine z_istore (L' := [(4, .int 0), (0, .ref (ad 1)), (1, .int a1), (2, .int a2), (3, .int a3)]) F dX3_timesAhead_1 (Nat.le_of_ble_eq_true rfl) rfl ?_
  refine z_iconst (v := 0) F dX3_timesAhead_3 (by decide +kernel) ?_
  refine z_istore (L' := [(5, .int 0), (4, .int 0), (0, .ref (ad 1)), (1, .int a1), (2, .int a2), (3, .int a3)]) F dX3_timesAhead_4 (Nat.le_of_ble_eq_true rfl) rfl ?_
  exact z_sub [2, 3, 4, 5, 1, 0] rfl (z_X3_timesAhead_6 F n X n a1 a2 a3 0 0 hf)
theorem c_X3_timesAhead {D : va_G} {cI : ClassId} {ad : Nat → Nat} {r : Int32} (n : Nat) (X : KX) (a1 : Int32) (a2 : Int32) (a3 : Int32) (hf : f_X3_timesAhead n X a1 a2 a3 = some r) : zMI (yK D cI ad) yX3_timesAhead cX3_timesAhead 6 (some .int) 2 [.ref (ad 1), .int a1, .int a2, .int a3] X (r, X) := zMI_of (by decide +kernel) (Nat.le_of_ble_eq_true rfl) (fun z F => z_sub [0, 1, 2, 3] rfl (z_X3_timesAhead F n X a1 a2 a3 hf))
theorem k_X3_timesAhead {z : ZC} {D : va_G} {cI : ClassId} {ad : Nat → Nat} {cc : ByteArray} {own : String} {nL d pc index : Nat} {ret : Option FieldType} {Q : State → Prop} {X : KX} {L : List (Nat × Value)} {rest : List Value} {n : Nat} {a1 a2 a3 : Int32} (F : ZF z (yK D cI ad) cc own nL ret d) (hd : 2 + 1 ≤ d) (hw : Cond.methodLink own index yX3_timesAhead ∈ wsA) (hst : (rest.map fun v => v.category).sum ≤ 8) {β : Type} {e : Int32 → Option β} {r : β} (hf : zB1 (f_X3_timesAhead n X a1 a2 a3) e = some r) (hdg : decode cc pc = .ok (.invokestatic index, 3)) (kk : ∀ v : Int32, e v = some r → Z z (yK D cI ad) nL Q X (pc + 3) L (.int v :: rest)) : Z z (yK D cI ad) nL Q X pc L (.int a3 :: .int a2 :: .int a1 :: .ref (ad 1) :: rest) := by
  obtain ⟨v, h1, h2⟩ := zB1_some hf
  exact z_cSI (As := [.ref (ad 1), .int a1, .int a2, .int a3]) F (c_X3_timesAhead n X a1 a2 a3 h1) kn_X3_timesAhead kv_X3_timesAhead hw hd rfl hst hdg rfl (kk v h2)
theorem k_X3_timesAheadN {z : ZC} {D : va_G} {cI : ClassId} {ad : Nat → Nat} {cc : ByteArray} {own : String} {nL d pc index : Nat} {ret : Option FieldType} {Q : State → Prop} {X : KX} {L : List (Nat × Value)} {rest : List Value} {n : Nat} {a1 a2 a3 : Int32} (F : ZF z (yK D cI ad) cc own nL ret d) (hd : 2 + 1 ≤ d) (hw : ∀ s, zN s → va_Nw (.methodLinkNest own index yX3_timesAhead "AilingKing") s) (hst : (rest.map fun v => v.category).sum ≤ 8) {β : Type} {e : Int32 → Option β} {r : β} (hf : zB1 (f_X3_timesAhead n X a1 a2 a3) e = some r) (hdg : decode cc pc = .ok (.invokestatic index, 3)) (kk : ∀ v : Int32, e v = some r → Z z (yK D cI ad) nL Q X (pc + 3) L (.int v :: rest)) : Z z (yK D cI ad) nL Q X pc L (.int a3 :: .int a2 :: .int a1 :: .ref (ad 1) :: rest) := by
  obtain ⟨v, h1, h2⟩ := zB1_some hf
  exact z_cNI (As := [.ref (ad 1), .int a1, .int a2, .int a3]) F (c_X3_timesAhead n X a1 a2 a3 h1) kn_X3_timesAhead kv_X3_timesAhead hw hd rfl hst hdg rfl (kk v h2)
theorem kv_X3_afterRow : Cond.static yX3_afterRow ∈ wsA := wm_685
theorem kn_X3_afterRow : zKn yX3_afterRow cX3_afterRow 9 (some .int) 6 := ⟨wm_686, wm_60, by decide +kernel, by decide⟩
set_option maxHeartbeats 4000000 in
set_option maxRecDepth 100000 in
theorem z_X3_afterRow_6 {z : ZC} {D : va_G} {cI : ClassId} {ad : Nat → Nat} {r : Int32} (F : ZF z (yK D cI ad) cX3_afterRow RX3 9 (some .int) 3) (n : Nat) (X : KX) : ∀ (t : Nat) (v3 : Int32) (v4 : Int32) (v5 : Int32) (v6 : Int32) (v7 : Int32), f_X3_afterRow_6 n X t v3 v4 v5 v6 v7 = some r → Z z (yK D cI ad) 9 (zQI z (yK D cI ad) (r, X)) X 6 [(0, .ref (ad 7)), (2, .ref (ad 1)), (3, .int v3), (4, .int v4), (5, .int v5), (6, .int v6), (7, .int v7)] [] := by
  intro t
  induction t with
  | zero => intro v3 v4 v5 v6 v7 hf; rw [f_X3_afterRow_6] at hf; exact zNone hf
  | succ t ih =>
    intro v3 v4 v5 v6 v7 hf
    rw [f_X3_afterRow_6] at hf
    refine z_iload F dX3_afterRow_6 6 rfl ?_
    refine z_iload F dX3_afterRow_8 4 rfl ?_
    refine z_icmp_ge (tgt := 58) F hf dX3_afterRow_10 (by decide) (fun hf => ?_) (fun hf => ?_)
    · refine z_iload F dX3_afterRow_58 5 rfl ?_
      exact z_iret F dX3_afterRow_60 (Prod.ext (Option.some.inj hf) rfl)
    · refine z_aload_n F dX3_afterRow_13 1 rfl rfl ?_
      refine z_iload_n F dX3_afterRow_14 2 rfl rfl ?_
      refine z_iload F dX3_afterRow_15 3 rfl ?_
      refine z_iload F dX3_afterRow_17 6 rfl ?_
      refine z_iadd F dX3_afterRow_19 ?_
      refine k_X4_itemOf F (by decide) wm_687 (Nat.le_of_ble_eq_true rfl) hf dX3_afterRow_20 (fun r_1 hf => ?_)
      refine z_istore (L' := [(8, .int r_1), (0, .ref (ad 7)), (2, .ref (ad 1)), (3, .int v3), (4, .int v4), (5, .int v5), (6, .int v6), (7, .int v7)]) F dX3_afterRow_23 (Nat.le_of_ble_eq_true rfl) rfl ?_
      refine z_aload_n F dX3_afterRow_25 1 rfl rfl ?_
      refine z_iload F dX3_afterRow_26 6 rfl ?_
      refine z_iload F dX3_afterRow_28 0 rfl ?_
      refine z_aload_n F dX3_afterRow_30 1 rfl rfl ?_
      refine gK_7_9 F wm_157 dX3_afterRow_31 ?_
      refine z_iload F dX3_afterRow_34 0 rfl ?_
      refine lK_11 F hf dX3_afterRow_36 (fun hf => ?_)
      refine z_aload_n F dX3_afterRow_37 2 rfl rfl ?_
      refine z_iload_n F dX3_afterRow_38 3 rfl rfl ?_
      refine z_iload F dX3_afterRow_39 4 rfl ?_
      refine z_iload F dX3_afterRow_41 7 rfl ?_
      refine k_X3_timesAhead F (by decide) wm_688 (Nat.le_of_ble_eq_true rfl) hf dX3_afterRow_43 (fun r_2 hf => ?_)
      refine z_iadd F dX3_afterRow_46 ?_
      refine k_X2_ledFrom F (by decide) wm_599 (Nat.le_of_ble_eq_true rfl) hf dX3_afterRow_47 (fun r_3 hf => ?_)
      refine z_istore (L' := [(6, .int r_3), (8, .int r_1), (0, .ref (ad 7)), (2, .ref (ad 1)), (3, .int v3), (4, .int v4), (5, .int v5), (7, .int v7)]) F dX3_afterRow_50 (Nat.le_of_ble_eq_true rfl) rfl ?_
      refine z_iinc (w := 1) (L' := fun v7_4 => [(7, .int v7_4), (6, .int r_3), (8, .int r_1), (0, .ref (ad 7)), (2, .ref (ad 1)), (3, .int v3), (4, .int v4), (5, .int v5)]) F hf dX3_afterRow_52 7 rfl (by decide +kernel) (Nat.le_of_ble_eq_true rfl) (fun _ => rfl) (fun v7_4 hf => ?_)
      refine z_goto (tgt := 6) F dX3_afterRow_55 (by decide) ?_
      exact z_sub [3, 4, 5, 6, 7, 1, 0] rfl (ih v3 v4 v5 r_3 v7_4 hf)
set_option maxHeartbeats 4000000 in
set_option maxRecDepth 100000 in
theorem z_X3_afterRow {z : ZC} {D : va_G} {cI : ClassId} {ad : Nat → Nat} {r : Int32} (F : ZF z (yK D cI ad) cX3_afterRow RX3 9 (some .int) 3) (n : Nat) (X : KX) (a1 : Int32) (a3 : Int32) (a4 : Int32) (a5 : Int32) (hf : f_X3_afterRow n X a1 a3 a4 a5 = some r) : Z z (yK D cI ad) 9 (zQI z (yK D cI ad) (r, X)) X 0 [(0, .ref (ad 7)), (1, .int a1), (2, .ref (ad 1)), (3, .int a3), (4, .int a4), (5, .int a5)] [] := by
  unfold f_X3_afterRow at hf
  refine z_iload_n F dX3_afterRow_0 1 rfl rfl ?_
  refine z_istore (L' := [(6, .int a1), (0, .ref (ad 7)), (1, .int a1), (2, .ref (ad 1)), (3, .int a3), (4, .int a4), (5, .int a5)]) F dX3_afterRow_1 (Nat.le_of_ble_eq_true rfl) rfl ?_
  refine z_iconst (v := 0) F dX3_afterRow_3 (by decide +kernel) ?_
  refine z_istore (L' := [(7, .int 0), (6, .int a1), (0, .ref (ad 7)), (1, .int a1), (2, .ref (ad 1)), (3, .int a3), (4, .int a4), (5, .int a5)]) F dX3_afterRow_4 (Nat.le_of_ble_eq_true rfl) rfl ?_
  exact z_sub [2, 4, 5, 6, 7, 1, 0] rfl (z_X3_afterRow_6 F n X n a3 a4 a5 a1 0 hf)
theorem c_X3_afterRow {D : va_G} {cI : ClassId} {ad : Nat → Nat} {r : Int32} (n : Nat) (X : KX) (a1 : Int32) (a3 : Int32) (a4 : Int32) (a5 : Int32) (hf : f_X3_afterRow n X a1 a3 a4 a5 = some r) : zMI (yK D cI ad) yX3_afterRow cX3_afterRow 9 (some .int) 3 [.ref (ad 7), .int a1, .ref (ad 1), .int a3, .int a4, .int a5] X (r, X) := zMI_of (by decide +kernel) (Nat.le_of_ble_eq_true rfl) (fun z F => z_sub [0, 1, 2, 3, 4, 5] rfl (z_X3_afterRow F n X a1 a3 a4 a5 hf))
theorem k_X3_afterRow {z : ZC} {D : va_G} {cI : ClassId} {ad : Nat → Nat} {cc : ByteArray} {own : String} {nL d pc index : Nat} {ret : Option FieldType} {Q : State → Prop} {X : KX} {L : List (Nat × Value)} {rest : List Value} {n : Nat} {a1 a3 a4 a5 : Int32} (F : ZF z (yK D cI ad) cc own nL ret d) (hd : 3 + 1 ≤ d) (hw : Cond.methodLink own index yX3_afterRow ∈ wsA) (hst : (rest.map fun v => v.category).sum ≤ 8) {β : Type} {e : Int32 → Option β} {r : β} (hf : zB1 (f_X3_afterRow n X a1 a3 a4 a5) e = some r) (hdg : decode cc pc = .ok (.invokestatic index, 3)) (kk : ∀ v : Int32, e v = some r → Z z (yK D cI ad) nL Q X (pc + 3) L (.int v :: rest)) : Z z (yK D cI ad) nL Q X pc L (.int a5 :: .int a4 :: .int a3 :: .ref (ad 1) :: .int a1 :: .ref (ad 7) :: rest) := by
  obtain ⟨v, h1, h2⟩ := zB1_some hf
  exact z_cSI (As := [.ref (ad 7), .int a1, .ref (ad 1), .int a3, .int a4, .int a5]) F (c_X3_afterRow n X a1 a3 a4 a5 h1) kn_X3_afterRow kv_X3_afterRow hw hd rfl hst hdg rfl (kk v h2)
theorem k_X3_afterRowN {z : ZC} {D : va_G} {cI : ClassId} {ad : Nat → Nat} {cc : ByteArray} {own : String} {nL d pc index : Nat} {ret : Option FieldType} {Q : State → Prop} {X : KX} {L : List (Nat × Value)} {rest : List Value} {n : Nat} {a1 a3 a4 a5 : Int32} (F : ZF z (yK D cI ad) cc own nL ret d) (hd : 3 + 1 ≤ d) (hw : ∀ s, zN s → va_Nw (.methodLinkNest own index yX3_afterRow "AilingKing") s) (hst : (rest.map fun v => v.category).sum ≤ 8) {β : Type} {e : Int32 → Option β} {r : β} (hf : zB1 (f_X3_afterRow n X a1 a3 a4 a5) e = some r) (hdg : decode cc pc = .ok (.invokestatic index, 3)) (kk : ∀ v : Int32, e v = some r → Z z (yK D cI ad) nL Q X (pc + 3) L (.int v :: rest)) : Z z (yK D cI ad) nL Q X pc L (.int a5 :: .int a4 :: .int a3 :: .ref (ad 1) :: .int a1 :: .ref (ad 7) :: rest) := by
  obtain ⟨v, h1, h2⟩ := zB1_some hf
  exact z_cNI (As := [.ref (ad 7), .int a1, .ref (ad 1), .int a3, .int a4, .int a5]) F (c_X3_afterRow n X a1 a3 a4 a5 h1) kn_X3_afterRow kv_X3_afterRow hw hd rfl hst hdg rfl (kk v h2)
theorem kv_X3_wouldAskButFear : Cond.static yX3_wouldAskButFear ∈ wsA := wm_682
theorem kn_X3_wouldAskButFear : zKn yX3_wouldAskButFear cX3_wouldAskButFear 7 (some .int) 5 := ⟨wm_683, wm_60, by decide +kernel, by decide⟩
set_option maxHeartbeats 4000000 in
set_option maxRecDepth 100000 in
theorem z_X3_wouldAskButFear_65 {z : ZC} {D : va_G} {cI : ClassId} {ad : Nat → Nat} {r : Int32} {k6 : Int32 → Int32 → Int32 → Int32 → Int32 → Option Int32} (F : ZF z (yK D cI ad) cX3_wouldAskButFear RX3 7 (some .int) 4) (n : Nat) (X : KX) (hk6 : ∀ (v2 : Int32) (v3 : Int32) (v4 : Int32) (v5 : Int32) (v6 : Int32), k6 v2 v3 v4 v5 v6 = some r → Z z (yK D cI ad) 7 (zQI z (yK D cI ad) (r, X)) X 6 [(0, .ref (ad 7)), (1, .ref (ad 1)), (2, .int v2), (3, .int v3), (4, .int v4), (5, .int v5), (6, .int v6)] []) (v2 : Int32) (v3 : Int32) (v4 : Int32) (v5 : Int32) (v6 : Int32) (hf : f_X3_wouldAskButFear_65 n X k6 v2 v3 v4 v5 v6 = some r) : Z z (yK D cI ad) 7 (zQI z (yK D cI ad) (r, X)) X 65 [(0, .ref (ad 7)), (1, .ref (ad 1)), (2, .int v2), (3, .int v3), (4, .int v4), (5, .int v5), (6, .int v6)] [] := by
  unfold f_X3_wouldAskButFear_65 at hf
  refine z_iinc (w := 1) (L' := fun v6_1 => [(6, .int v6_1), (0, .ref (ad 7)), (1, .ref (ad 1)), (2, .int v2), (3, .int v3), (4, .int v4), (5, .int v5)]) F hf dX3_wouldAskButFear_65 6 rfl (by decide +kernel) (Nat.le_of_ble_eq_true rfl) (fun _ => rfl) (fun v6_1 hf => ?_)
  refine z_goto (tgt := 6) F dX3_wouldAskButFear_68 (by decide) ?_
  exact z_sub [1, 2, 3, 4, 5, 6, 0] rfl (hk6 v2 v3 v4 v5 v6_1 hf)
set_option maxHeartbeats 4000000 in
set_option maxRecDepth 100000 in
theorem z_X3_wouldAskButFear_6 {z : ZC} {D : va_G} {cI : ClassId} {ad : Nat → Nat} {r : Int32} (F : ZF z (yK D cI ad) cX3_wouldAskButFear RX3 7 (some .int) 4) (n : Nat) (X : KX) : ∀ (t : Nat) (v2 : Int32) (v3 : Int32) (v4 : Int32) (v5 : Int32) (v6 : Int32), f_X3_wouldAskButFear_6 n X t v2 v3 v4 v5 v6 = some r → Z z (yK D cI ad) 7 (zQI z (yK D cI ad) (r, X)) X 6 [(0, .ref (ad 7)), (1, .ref (ad 1)), (2, .int v2), (3, .int v3), (4, .int v4), (5, .int v5), (6, .int v6)] [] := by
  intro t
  induction t with
  | zero => intro v2 v3 v4 v5 v6 hf; rw [f_X3_wouldAskButFear_6] at hf; exact zNone hf
  | succ t ih =>
    intro v2 v3 v4 v5 v6 hf
    rw [f_X3_wouldAskButFear_6] at hf
    refine z_iload F dX3_wouldAskButFear_6 6 rfl ?_
    refine z_aload_n F dX3_wouldAskButFear_8 0 rfl rfl ?_
    refine gK_7_5 F wm_142 dX3_wouldAskButFear_9 ?_
    refine z_icmp_ge (tgt := 71) F hf dX3_wouldAskButFear_12 (by decide) (fun hf => ?_) (fun hf => ?_)
    · refine z_iload F dX3_wouldAskButFear_71 5 rfl ?_
      exact z_iret F dX3_wouldAskButFear_73 (Prod.ext (Option.some.inj hf) rfl)
    · refine z_aload_n F dX3_wouldAskButFear_15 0 rfl rfl ?_
      refine z_iload F dX3_wouldAskButFear_16 6 rfl ?_
      refine k_X2_stateOf F (by decide) wm_636 (Nat.le_of_ble_eq_true rfl) dX3_wouldAskButFear_18 ?_
      refine z_if_ne (tgt := 65) F hf dX3_wouldAskButFear_21 (by decide) (fun hf => ?_) (fun hf => ?_)
      · exact z_sub [0, 1, 2, 3, 4, 5, 6] rfl (z_X3_wouldAskButFear_65 F n X ih v2 v3 v4 v5 v6 hf)
      · refine z_aload_n F dX3_wouldAskButFear_24 0 rfl rfl ?_
        refine z_iload F dX3_wouldAskButFear_25 6 rfl ?_
        refine k_X2_dares F (by decide) wm_637 (Nat.le_of_ble_eq_true rfl) hf dX3_wouldAskButFear_27 (fun r_1 hf => ?_)
        refine z_if_ne (tgt := 65) F hf dX3_wouldAskButFear_30 (by decide) (fun hf => ?_) (fun hf => ?_)
        · exact z_sub [0, 1, 2, 3, 4, 5, 6] rfl (z_X3_wouldAskButFear_65 F n X ih v2 v3 v4 v5 v6 hf)
        · refine z_aload_n F dX3_wouldAskButFear_33 0 rfl rfl ?_
          refine z_aload_n F dX3_wouldAskButFear_34 0 rfl rfl ?_
          refine gK_7_10 F wm_161 dX3_wouldAskButFear_35 ?_
          refine z_iload F dX3_wouldAskButFear_38 6 rfl ?_
          refine lK_12 F hf dX3_wouldAskButFear_40 (fun hf => ?_)
          refine z_aload_n F dX3_wouldAskButFear_41 1 rfl rfl ?_
          refine z_iload_n F dX3_wouldAskButFear_42 2 rfl rfl ?_
          refine z_iload_n F dX3_wouldAskButFear_43 3 rfl rfl ?_
          refine z_iload F dX3_wouldAskButFear_44 4 rfl ?_
          refine k_X3_afterRow F (by decide) wm_684 (Nat.le_of_ble_eq_true rfl) hf dX3_wouldAskButFear_46 (fun r_2 hf => ?_)
          refine z_aload_n F dX3_wouldAskButFear_49 0 rfl rfl ?_
          refine gK_7_1 F wm_126 dX3_wouldAskButFear_50 ?_
          refine z_icmp_ne (tgt := 65) F hf dX3_wouldAskButFear_53 (by decide) (fun hf => ?_) (fun hf => ?_)
          · exact z_sub [0, 1, 2, 3, 4, 5, 6] rfl (z_X3_wouldAskButFear_65 F n X ih v2 v3 v4 v5 v6 hf)
          · refine z_iload F dX3_wouldAskButFear_56 5 rfl ?_
            refine z_iconst (v := 1) F dX3_wouldAskButFear_58 (by decide +kernel) ?_
            refine z_iload F dX3_wouldAskButFear_59 6 rfl ?_
            refine z_ishl F dX3_wouldAskButFear_61 ?_
            refine z_ior F dX3_wouldAskButFear_62 ?_
            refine z_top hf (fun v5_3 hf => ?_)
            refine z_istore (L' := [(5, .int v5_3), (0, .ref (ad 7)), (1, .ref (ad 1)), (2, .int v2), (3, .int v3), (4, .int v4), (6, .int v6)]) F dX3_wouldAskButFear_63 (Nat.le_of_ble_eq_true rfl) rfl ?_
            exact z_sub [1, 2, 3, 4, 5, 0, 6] rfl (z_X3_wouldAskButFear_65 F n X ih v2 v3 v4 v5_3 v6 hf)
set_option maxHeartbeats 4000000 in
set_option maxRecDepth 100000 in
theorem z_X3_wouldAskButFear {z : ZC} {D : va_G} {cI : ClassId} {ad : Nat → Nat} {r : Int32} (F : ZF z (yK D cI ad) cX3_wouldAskButFear RX3 7 (some .int) 4) (n : Nat) (X : KX) (a2 : Int32) (a3 : Int32) (a4 : Int32) (hf : f_X3_wouldAskButFear n X a2 a3 a4 = some r) : Z z (yK D cI ad) 7 (zQI z (yK D cI ad) (r, X)) X 0 [(0, .ref (ad 7)), (1, .ref (ad 1)), (2, .int a2), (3, .int a3), (4, .int a4)] [] := by
  unfold f_X3_wouldAskButFear at hf
  refine z_iconst (v := 0) F dX3_wouldAskButFear_0 (by decide +kernel) ?_
  refine z_istore (L' := [(5, .int 0), (0, .ref (ad 7)), (1, .ref (ad 1)), (2, .int a2), (3, .int a3), (4, .int a4)]) F dX3_wouldAskButFear_1 (Nat.le_of_ble_eq_true rfl) rfl ?_
  refine z_iconst (v := 0) F dX3_wouldAskButFear_3 (by decide +kernel) ?_
  refine z_istore (L' := [(6, .int 0), (5, .int 0), (0, .ref (ad 7)), (1, .ref (ad 1)), (2, .int a2), (3, .int a3), (4, .int a4)]) F dX3_wouldAskButFear_4 (Nat.le_of_ble_eq_true rfl) rfl ?_
  exact z_sub [2, 3, 4, 5, 6, 1, 0] rfl (z_X3_wouldAskButFear_6 F n X n a2 a3 a4 0 0 hf)
theorem c_X3_wouldAskButFear {D : va_G} {cI : ClassId} {ad : Nat → Nat} {r : Int32} (n : Nat) (X : KX) (a2 : Int32) (a3 : Int32) (a4 : Int32) (hf : f_X3_wouldAskButFear n X a2 a3 a4 = some r) : zMI (yK D cI ad) yX3_wouldAskButFear cX3_wouldAskButFear 7 (some .int) 4 [.ref (ad 7), .ref (ad 1), .int a2, .int a3, .int a4] X (r, X) := zMI_of (by decide +kernel) (Nat.le_of_ble_eq_true rfl) (fun z F => z_sub [0, 1, 2, 3, 4] rfl (z_X3_wouldAskButFear F n X a2 a3 a4 hf))
theorem k_X3_wouldAskButFear {z : ZC} {D : va_G} {cI : ClassId} {ad : Nat → Nat} {cc : ByteArray} {own : String} {nL d pc index : Nat} {ret : Option FieldType} {Q : State → Prop} {X : KX} {L : List (Nat × Value)} {rest : List Value} {n : Nat} {a2 a3 a4 : Int32} (F : ZF z (yK D cI ad) cc own nL ret d) (hd : 4 + 1 ≤ d) (hw : Cond.methodLink own index yX3_wouldAskButFear ∈ wsA) (hst : (rest.map fun v => v.category).sum ≤ 8) {β : Type} {e : Int32 → Option β} {r : β} (hf : zB1 (f_X3_wouldAskButFear n X a2 a3 a4) e = some r) (hdg : decode cc pc = .ok (.invokestatic index, 3)) (kk : ∀ v : Int32, e v = some r → Z z (yK D cI ad) nL Q X (pc + 3) L (.int v :: rest)) : Z z (yK D cI ad) nL Q X pc L (.int a4 :: .int a3 :: .int a2 :: .ref (ad 1) :: .ref (ad 7) :: rest) := by
  obtain ⟨v, h1, h2⟩ := zB1_some hf
  exact z_cSI (As := [.ref (ad 7), .ref (ad 1), .int a2, .int a3, .int a4]) F (c_X3_wouldAskButFear n X a2 a3 a4 h1) kn_X3_wouldAskButFear kv_X3_wouldAskButFear hw hd rfl hst hdg rfl (kk v h2)
theorem k_X3_wouldAskButFearN {z : ZC} {D : va_G} {cI : ClassId} {ad : Nat → Nat} {cc : ByteArray} {own : String} {nL d pc index : Nat} {ret : Option FieldType} {Q : State → Prop} {X : KX} {L : List (Nat × Value)} {rest : List Value} {n : Nat} {a2 a3 a4 : Int32} (F : ZF z (yK D cI ad) cc own nL ret d) (hd : 4 + 1 ≤ d) (hw : ∀ s, zN s → va_Nw (.methodLinkNest own index yX3_wouldAskButFear "AilingKing") s) (hst : (rest.map fun v => v.category).sum ≤ 8) {β : Type} {e : Int32 → Option β} {r : β} (hf : zB1 (f_X3_wouldAskButFear n X a2 a3 a4) e = some r) (hdg : decode cc pc = .ok (.invokestatic index, 3)) (kk : ∀ v : Int32, e v = some r → Z z (yK D cI ad) nL Q X (pc + 3) L (.int v :: rest)) : Z z (yK D cI ad) nL Q X pc L (.int a4 :: .int a3 :: .int a2 :: .ref (ad 1) :: .ref (ad 7) :: rest) := by
  obtain ⟨v, h1, h2⟩ := zB1_some hf
  exact z_cNI (As := [.ref (ad 7), .ref (ad 1), .int a2, .int a3, .int a4]) F (c_X3_wouldAskButFear n X a2 a3 a4 h1) kn_X3_wouldAskButFear kv_X3_wouldAskButFear hw hd rfl hst hdg rfl (kk v h2)
theorem kv_X6_nearly : zKv yX6_nearly := ⟨wm_674, wm_675⟩
theorem kn_X6_nearly : zKn yX6_nearly cX6_nearly 5 (some .int) 3 := ⟨wm_676, wm_55, by decide +kernel, by decide⟩
set_option maxHeartbeats 4000000 in
set_option maxRecDepth 100000 in
theorem z_X6_nearly_73 {z : ZC} {D : va_G} {cI : ClassId} {ad : Nat → Nat} {R : Int32 × KX} (F : ZF z (yK D cI ad) cX6_nearly RX6 5 (some .int) 5) (n : Nat) : ∀ (t : Nat) (X : KX) (v1 : Int32) (v2 : Int32) (v3 : Int32) (v4 : Int32), f_X6_nearly_73 n t X v1 v2 v3 v4 = some R → Z z (yK D cI ad) 5 (zQI z (yK D cI ad) R) X 73 [(0, .ref (ad 0)), (1, .int v1), (2, .int v2), (3, .int v3), (4, .int v4)] [] := by
  intro t
  induction t with
  | zero => intro X v1 v2 v3 v4 hf; rw [f_X6_nearly_73] at hf; exact zNone hf
  | succ t ih =>
    intro X v1 v2 v3 v4 hf
    rw [f_X6_nearly_73] at hf
    refine z_iload F dX6_nearly_73 4 rfl ?_
    refine z_iload_n F dX6_nearly_75 3 rfl rfl ?_
    refine z_icmp_ge (tgt := 110) F hf dX6_nearly_76 (by decide) (fun hf => ?_) (fun hf => ?_)
    · refine z_aload_n F dX6_nearly_110 0 rfl rfl ?_
      refine z_aload_n F dX6_nearly_111 0 rfl rfl ?_
      refine gK_0_2 F wm_276 dX6_nearly_112 ?_
      refine z_aload_n F dX6_nearly_115 0 rfl rfl ?_
      refine gK_0_0 F wm_274 dX6_nearly_116 ?_
      refine z_iload_n F dX6_nearly_119 1 rfl rfl ?_
      refine z_iload_n F dX6_nearly_120 2 rfl rfl ?_
      refine z_iload_n F dX6_nearly_121 3 rfl rfl ?_
      refine k_X3_wouldAskButFear F (by decide) wm_681 (Nat.le_of_ble_eq_true rfl) hf dX6_nearly_122 (fun r_1 hf => ?_)
      refine k_X6_foundNothing F (by decide) wm_325 (Nat.le_of_ble_eq_true rfl) hf dX6_nearly_125 (fun r_2 X_3 hf => ?_)
      exact z_iret F dX6_nearly_128 (Option.some.inj hf)
    · refine z_aload_n F dX6_nearly_79 0 rfl rfl ?_
      refine gK_0_2 F wm_276 dX6_nearly_80 ?_
      refine z_aload_n F dX6_nearly_83 0 rfl rfl ?_
      refine gK_0_0 F wm_274 dX6_nearly_84 ?_
      refine z_iload_n F dX6_nearly_87 1 rfl rfl ?_
      refine z_iload_n F dX6_nearly_88 2 rfl rfl ?_
      refine z_iload F dX6_nearly_89 4 rfl ?_
      refine z_iadd F dX6_nearly_91 ?_
      refine k_X4_itemOf F (by decide) wm_677 (Nat.le_of_ble_eq_true rfl) hf dX6_nearly_92 (fun r_4 hf => ?_)
      refine k_X2_isHint F (by decide) wm_470 (Nat.le_of_ble_eq_true rfl) dX6_nearly_95 ?_
      refine z_if_ne (tgt := 104) F hf dX6_nearly_98 (by decide) (fun hf => ?_) (fun hf => ?_)
      · refine z_iinc (w := 1) (L' := fun v4_5 => [(4, .int v4_5), (0, .ref (ad 0)), (1, .int v1), (2, .int v2), (3, .int v3)]) F hf dX6_nearly_104 4 rfl (by decide +kernel) (Nat.le_of_ble_eq_true rfl) (fun _ => rfl) (fun v4_5 hf => ?_)
        refine z_goto (tgt := 73) F dX6_nearly_107 (by decide) ?_
        exact z_sub [1, 2, 3, 4, 0] rfl (ih X v1 v2 v3 v4_5 hf)
      · refine z_ldc F wm_315 dX6_nearly_101 ?_
        exact z_iret F dX6_nearly_103 (Option.some.inj hf)
set_option maxHeartbeats 4000000 in
set_option maxRecDepth 100000 in
theorem z_X6_nearly {z : ZC} {D : va_G} {cI : ClassId} {ad : Nat → Nat} {R : Int32 × KX} (F : ZF z (yK D cI ad) cX6_nearly RX6 5 (some .int) 5) (n : Nat) (X : KX) (a1 : Int32) (a2 : Int32) (a3 : Int32) (hf : f_X6_nearly n X a1 a2 a3 = some R) : Z z (yK D cI ad) 5 (zQI z (yK D cI ad) R) X 0 [(0, .ref (ad 0)), (1, .int a1), (2, .int a2), (3, .int a3)] [] := by
  unfold f_X6_nearly at hf
  refine z_aload_n F dX6_nearly_0 0 rfl rfl ?_
  refine gK_0_2 F wm_276 dX6_nearly_1 ?_
  refine gK_7_0 F wm_124 dX6_nearly_4 ?_
  refine z_if_ne (tgt := 13) F hf dX6_nearly_7 (by decide) (fun hf => ?_) (fun hf => ?_)
  · refine z_iload_n F dX6_nearly_13 1 rfl rfl ?_
    refine z_bipush (v := 8) F dX6_nearly_14 (by decide +kernel) ?_
    refine k_X6_isBelow F (by decide) wm_312 (Nat.le_of_ble_eq_true rfl) dX6_nearly_16 ?_
    refine z_if_eq (tgt := 31) F hf dX6_nearly_19 (by decide) (fun hf => ?_) (fun hf => ?_)
    · refine z_ldc F wm_315 dX6_nearly_31 ?_
      exact z_iret F dX6_nearly_33 (Option.some.inj hf)
    · refine z_iload_n F dX6_nearly_22 3 rfl rfl ?_
      refine z_bipush (v := 9) F dX6_nearly_23 (by decide +kernel) ?_
      refine k_X6_isBelow F (by decide) wm_312 (Nat.le_of_ble_eq_true rfl) dX6_nearly_25 ?_
      refine z_if_ne (tgt := 34) F hf dX6_nearly_28 (by decide) (fun hf => ?_) (fun hf => ?_)
      · refine z_aload_n F dX6_nearly_34 0 rfl rfl ?_
        refine gK_0_0 F wm_274 dX6_nearly_35 ?_
        refine z_iload_n F dX6_nearly_38 1 rfl rfl ?_
        refine k_X4_isMissing F (by decide) wm_333 (Nat.le_of_ble_eq_true rfl) hf dX6_nearly_39 (fun r_1 hf => ?_)
        refine z_if_eq (tgt := 51) F hf dX6_nearly_42 (by decide) (fun hf => ?_) (fun hf => ?_)
        · refine z_aload_n F dX6_nearly_51 0 rfl rfl ?_
          refine gK_0_0 F wm_274 dX6_nearly_52 ?_
          refine z_iload_n F dX6_nearly_55 1 rfl rfl ?_
          refine z_iload_n F dX6_nearly_56 2 rfl rfl ?_
          refine z_iload_n F dX6_nearly_57 3 rfl rfl ?_
          refine k_X4_holds F (by decide) wm_337 (Nat.le_of_ble_eq_true rfl) hf dX6_nearly_58 (fun r_2 hf => ?_)
          refine z_if_ne (tgt := 70) F hf dX6_nearly_61 (by decide) (fun hf => ?_) (fun hf => ?_)
          · refine z_iconst (v := 0) F dX6_nearly_70 (by decide +kernel) ?_
            refine z_istore (L' := [(4, .int 0), (0, .ref (ad 0)), (1, .int a1), (2, .int a2), (3, .int a3)]) F dX6_nearly_71 (Nat.le_of_ble_eq_true rfl) rfl ?_
            exact z_sub [1, 2, 3, 4, 0] rfl (z_X6_nearly_73 F n n X a1 a2 a3 0 hf)
          · refine z_aload_n F dX6_nearly_64 0 rfl rfl ?_
            refine z_iconst (v := 2) F dX6_nearly_65 (by decide +kernel) ?_
            refine k_X6_found F (by decide) wm_316 (Nat.le_of_ble_eq_true rfl) hf dX6_nearly_66 (fun r_3 X_4 hf => ?_)
            exact z_iret F dX6_nearly_69 (Option.some.inj hf)
        · refine z_aload_n F dX6_nearly_45 0 rfl rfl ?_
          refine z_iconst (v := 1) F dX6_nearly_46 (by decide +kernel) ?_
          refine k_X6_found F (by decide) wm_316 (Nat.le_of_ble_eq_true rfl) hf dX6_nearly_47 (fun r_5 X_6 hf => ?_)
          exact z_iret F dX6_nearly_50 (Option.some.inj hf)
      · refine z_ldc F wm_315 dX6_nearly_31 ?_
        exact z_iret F dX6_nearly_33 (Option.some.inj hf)
  · refine z_ldc F wm_457 dX6_nearly_10 ?_
    exact z_iret F dX6_nearly_12 (Option.some.inj hf)
theorem c_X6_nearly {D : va_G} {cI : ClassId} {ad : Nat → Nat} {R : Int32 × KX} (n : Nat) (X : KX) (a1 : Int32) (a2 : Int32) (a3 : Int32) (hf : f_X6_nearly n X a1 a2 a3 = some R) : zMI (yK D cI ad) yX6_nearly cX6_nearly 5 (some .int) 5 [.ref (ad 0), .int a1, .int a2, .int a3] X R := zMI_of (by decide +kernel) (Nat.le_of_ble_eq_true rfl) (fun z F => z_sub [0, 1, 2, 3] rfl (z_X6_nearly F n X a1 a2 a3 hf))
theorem k_X6_nearly {z : ZC} {D : va_G} {cI : ClassId} {ad : Nat → Nat} {cc : ByteArray} {own : String} {nL d pc index : Nat} {ret : Option FieldType} {Q : State → Prop} {X : KX} {L : List (Nat × Value)} {rest : List Value} {n : Nat} {a1 a2 a3 : Int32} (F : ZF z (yK D cI ad) cc own nL ret d) (hd : 5 + 1 ≤ d) (hw : Cond.methodLink own index yX6_nearly ∈ wsA) (hst : (rest.map fun v => v.category).sum ≤ 8) {β : Type} {e : Int32 → KX → Option β} {r : β} (hf : zB2 (f_X6_nearly n X a1 a2 a3) e = some r) (hdg : decode cc pc = .ok (.invokevirtual index, 3)) (kk : ∀ (v : Int32) (X2 : KX), e v X2 = some r → Z z (yK D cI ad) nL Q X2 (pc + 3) L (.int v :: rest)) : Z z (yK D cI ad) nL Q X pc L (.int a3 :: .int a2 :: .int a1 :: .ref (ad 0) :: rest) := by
  obtain ⟨v, X2, h1, h2⟩ := zB2_some hf
  exact z_cVI (As := [.int a1, .int a2, .int a3]) F (c_X6_nearly n X a1 a2 a3 h1) kn_X6_nearly kv_X6_nearly hw (q0 := 0) rfl rfl hd rfl hst hdg rfl (kk v X2 h2)
theorem kv_X2_become_25_7 : zKv yX2_become := ⟨wm_429, wm_430⟩
theorem kn_X2_become_25_7 : zKn yX2_become cX2_become 2 none 1 := ⟨wm_431, wm_58, by decide +kernel, by decide⟩
set_option maxHeartbeats 4000000 in
set_option maxRecDepth 100000 in
theorem z_X2_become_25_7 {z : ZC} {D : va_G} {cI : ClassId} {ad : Nat → Nat} {R : KX} (F : ZF z (yK D cI ad) cX2_become RX2 2 none 1) (X : KX)  (hf : f_X2_become_25_7 X = some R) : Z z (yK D cI ad) 2 (zQV z (yK D cI ad) R) X 0 [(0, .ref (ad 25)), (1, .ref (ad 7))] [] := by
  unfold f_X2_become_25_7 at hf
  refine z_aload_n F dX2_become_0 0 rfl rfl ?_
  refine z_aload_n F dX2_become_1 1 rfl rfl ?_
  refine gK_7_0 F wm_123 dX2_become_2 ?_
  refine pK_25_0 F hf wm_123 dX2_become_5 (fun X_1 hf => ?_)
  refine z_aload_n F dX2_become_8 0 rfl rfl ?_
  refine z_aload_n F dX2_become_9 1 rfl rfl ?_
  refine gK_7_1 F wm_125 dX2_become_10 ?_
  refine pK_25_1 F hf wm_125 dX2_become_13 (fun X_2 hf => ?_)
  refine z_aload_n F dX2_become_16 0 rfl rfl ?_
  refine z_aload_n F dX2_become_17 1 rfl rfl ?_
  refine gK_7_2 F wm_129 dX2_become_18 ?_
  refine pK_25_2 F hf wm_129 dX2_become_21 (fun X_3 hf => ?_)
  refine z_aload_n F dX2_become_24 0 rfl rfl ?_
  refine z_aload_n F dX2_become_25 1 rfl rfl ?_
  refine gK_7_3 F wm_131 dX2_become_26 ?_
  refine pK_25_3 F hf wm_131 dX2_become_29 (fun X_4 hf => ?_)
  refine z_aload_n F dX2_become_32 0 rfl rfl ?_
  refine z_aload_n F dX2_become_33 1 rfl rfl ?_
  refine gK_7_4 F wm_135 dX2_become_34 ?_
  refine pK_25_4 F hf wm_135 dX2_become_37 (fun X_5 hf => ?_)
  refine z_aload_n F dX2_become_40 0 rfl rfl ?_
  refine z_aload_n F dX2_become_41 1 rfl rfl ?_
  refine gK_7_5 F wm_139 dX2_become_42 ?_
  refine pK_25_5 F hf wm_139 dX2_become_45 (fun X_6 hf => ?_)
  refine z_aload_n F dX2_become_48 0 rfl rfl ?_
  refine z_aload_n F dX2_become_49 1 rfl rfl ?_
  refine gK_7_14 F wm_172 dX2_become_50 ?_
  refine pK_25_14 F hf wm_172 dX2_become_53 (fun X_7 hf => ?_)
  refine z_aload_n F dX2_become_56 0 rfl rfl ?_
  refine z_aload_n F dX2_become_57 1 rfl rfl ?_
  refine gK_7_15 F wm_174 dX2_become_58 ?_
  refine pK_25_15 F hf wm_174 dX2_become_61 (fun X_8 hf => ?_)
  refine z_aload_n F dX2_become_64 0 rfl rfl ?_
  refine z_aload_n F dX2_become_65 1 rfl rfl ?_
  refine gK_7_16 F wm_175 dX2_become_66 ?_
  refine pK_25_16 F hf wm_175 dX2_become_69 (fun X_9 hf => ?_)
  refine z_aload_n F dX2_become_72 0 rfl rfl ?_
  refine z_aload_n F dX2_become_73 1 rfl rfl ?_
  refine gK_7_17 F wm_177 dX2_become_74 ?_
  refine pK_25_17 F hf wm_177 dX2_become_77 (fun X_10 hf => ?_)
  refine z_aload_n F dX2_become_80 0 rfl rfl ?_
  refine z_aload_n F dX2_become_81 1 rfl rfl ?_
  refine gK_7_18 F wm_179 dX2_become_82 ?_
  refine pK_25_18 F hf wm_179 dX2_become_85 (fun X_11 hf => ?_)
  refine z_aload_n F dX2_become_88 1 rfl rfl ?_
  refine gK_7_6 F wm_143 dX2_become_89 ?_
  refine z_iconst (v := 0) F dX2_become_92 (by decide +kernel) ?_
  refine z_aload_n F dX2_become_93 0 rfl rfl ?_
  refine gK_25_6 F wm_143 dX2_become_94 ?_
  refine z_iconst (v := 0) F dX2_become_97 (by decide +kernel) ?_
  refine z_bipush (v := 8) F dX2_become_98 (by decide +kernel) ?_
  refine yK_8_26 F (by decide) wm_432 wm_359 wm_358 wm_63 hf (Nat.le_of_ble_eq_true rfl) dX2_become_100 (fun X_12 hf => ?_)
  refine z_aload_n F dX2_become_103 1 rfl rfl ?_
  refine gK_7_7 F wm_147 dX2_become_104 ?_
  refine z_iconst (v := 0) F dX2_become_107 (by decide +kernel) ?_
  refine z_aload_n F dX2_become_108 0 rfl rfl ?_
  refine gK_25_7 F wm_147 dX2_become_109 ?_
  refine z_iconst (v := 0) F dX2_become_112 (by decide +kernel) ?_
  refine z_bipush (v := 8) F dX2_become_113 (by decide +kernel) ?_
  refine yK_9_27 F (by decide) wm_432 wm_359 wm_358 wm_63 hf (Nat.le_of_ble_eq_true rfl) dX2_become_115 (fun X_13 hf => ?_)
  refine z_aload_n F dX2_become_118 1 rfl rfl ?_
  refine gK_7_8 F wm_152 dX2_become_119 ?_
  refine z_iconst (v := 0) F dX2_become_122 (by decide +kernel) ?_
  refine z_aload_n F dX2_become_123 0 rfl rfl ?_
  refine gK_25_8 F wm_152 dX2_become_124 ?_
  refine z_iconst (v := 0) F dX2_become_127 (by decide +kernel) ?_
  refine z_bipush (v := 8) F dX2_become_128 (by decide +kernel) ?_
  refine yK_10_28 F (by decide) wm_432 wm_359 wm_358 wm_63 hf (Nat.le_of_ble_eq_true rfl) dX2_become_130 (fun X_14 hf => ?_)
  refine z_aload_n F dX2_become_133 1 rfl rfl ?_
  refine gK_7_9 F wm_156 dX2_become_134 ?_
  refine z_iconst (v := 0) F dX2_become_137 (by decide +kernel) ?_
  refine z_aload_n F dX2_become_138 0 rfl rfl ?_
  refine gK_25_9 F wm_156 dX2_become_139 ?_
  refine z_iconst (v := 0) F dX2_become_142 (by decide +kernel) ?_
  refine z_bipush (v := 8) F dX2_become_143 (by decide +kernel) ?_
  refine yK_11_29 F (by decide) wm_432 wm_359 wm_358 wm_63 hf (Nat.le_of_ble_eq_true rfl) dX2_become_145 (fun X_15 hf => ?_)
  refine z_aload_n F dX2_become_148 1 rfl rfl ?_
  refine gK_7_10 F wm_160 dX2_become_149 ?_
  refine z_iconst (v := 0) F dX2_become_152 (by decide +kernel) ?_
  refine z_aload_n F dX2_become_153 0 rfl rfl ?_
  refine gK_25_10 F wm_160 dX2_become_154 ?_
  refine z_iconst (v := 0) F dX2_become_157 (by decide +kernel) ?_
  refine z_bipush (v := 6) F dX2_become_158 (by decide +kernel) ?_
  refine yK_12_30 F (by decide) wm_432 wm_359 wm_358 wm_63 hf (Nat.le_of_ble_eq_true rfl) dX2_become_160 (fun X_16 hf => ?_)
  refine z_aload_n F dX2_become_163 1 rfl rfl ?_
  refine gK_7_11 F wm_164 dX2_become_164 ?_
  refine z_iconst (v := 0) F dX2_become_167 (by decide +kernel) ?_
  refine z_aload_n F dX2_become_168 0 rfl rfl ?_
  refine gK_25_11 F wm_164 dX2_become_169 ?_
  refine z_iconst (v := 0) F dX2_become_172 (by decide +kernel) ?_
  refine z_bipush (v := 6) F dX2_become_173 (by decide +kernel) ?_
  refine yK_13_31 F (by decide) wm_432 wm_359 wm_358 wm_63 hf (Nat.le_of_ble_eq_true rfl) dX2_become_175 (fun X_17 hf => ?_)
  refine z_aload_n F dX2_become_178 1 rfl rfl ?_
  refine gK_7_12 F wm_167 dX2_become_179 ?_
  refine z_iconst (v := 0) F dX2_become_182 (by decide +kernel) ?_
  refine z_aload_n F dX2_become_183 0 rfl rfl ?_
  refine gK_25_12 F wm_167 dX2_become_184 ?_
  refine z_iconst (v := 0) F dX2_become_187 (by decide +kernel) ?_
  refine z_bipush (v := 6) F dX2_become_188 (by decide +kernel) ?_
  refine yK_14_32 F (by decide) wm_432 wm_359 wm_358 wm_63 hf (Nat.le_of_ble_eq_true rfl) dX2_become_190 (fun X_18 hf => ?_)
  refine z_aload_n F dX2_become_193 1 rfl rfl ?_
  refine gK_7_13 F wm_170 dX2_become_194 ?_
  refine z_iconst (v := 0) F dX2_become_197 (by decide +kernel) ?_
  refine z_aload_n F dX2_become_198 0 rfl rfl ?_
  refine gK_25_13 F wm_170 dX2_become_199 ?_
  refine z_iconst (v := 0) F dX2_become_202 (by decide +kernel) ?_
  refine z_bipush (v := 6) F dX2_become_203 (by decide +kernel) ?_
  refine yK_15_33 F (by decide) wm_432 wm_359 wm_358 wm_63 hf (Nat.le_of_ble_eq_true rfl) dX2_become_205 (fun X_19 hf => ?_)
  exact z_vret F dX2_become_208 (Option.some.inj hf)
theorem c_X2_become_25_7 {D : va_G} {cI : ClassId} {ad : Nat → Nat} {R : KX} (X : KX)  (hf : f_X2_become_25_7 X = some R) : zMV (yK D cI ad) yX2_become cX2_become 2 none 1 [.ref (ad 25), .ref (ad 7)] X R := zMV_of (by decide +kernel) (Nat.le_of_ble_eq_true rfl) (fun z F => z_sub [0, 1] rfl (z_X2_become_25_7 F X hf))
theorem k_X2_become_25_7 {z : ZC} {D : va_G} {cI : ClassId} {ad : Nat → Nat} {cc : ByteArray} {own : String} {nL d pc index : Nat} {ret : Option FieldType} {Q : State → Prop} {X : KX} {L : List (Nat × Value)} {rest : List Value} (F : ZF z (yK D cI ad) cc own nL ret d) (hd : 1 + 1 ≤ d) (hw : Cond.methodLink own index yX2_become ∈ wsA) (hst : (rest.map fun v => v.category).sum ≤ 8) {β : Type} {e : KX → Option β} {r : β} (hf : zB1 (f_X2_become_25_7 X) e = some r) (hdg : decode cc pc = .ok (.invokevirtual index, 3)) (kk : ∀ X2 : KX, e X2 = some r → Z z (yK D cI ad) nL Q X2 (pc + 3) L rest) : Z z (yK D cI ad) nL Q X pc L (.ref (ad 7) :: .ref (ad 25) :: rest) := by
  obtain ⟨v, h1, h2⟩ := zB1_some hf
  exact z_cVV (As := [.ref (ad 7)]) F (c_X2_become_25_7 X h1) kn_X2_become_25_7 kv_X2_become_25_7 hw (q0 := 25) rfl rfl hd rfl hst hdg rfl (kk v h2)
theorem kv_X2_become_34_7 : zKv yX2_become := ⟨wm_429, wm_430⟩
theorem kn_X2_become_34_7 : zKn yX2_become cX2_become 2 none 1 := ⟨wm_431, wm_58, by decide +kernel, by decide⟩
set_option maxHeartbeats 4000000 in
set_option maxRecDepth 100000 in
theorem z_X2_become_34_7 {z : ZC} {D : va_G} {cI : ClassId} {ad : Nat → Nat} {R : KX} (F : ZF z (yK D cI ad) cX2_become RX2 2 none 1) (X : KX)  (hf : f_X2_become_34_7 X = some R) : Z z (yK D cI ad) 2 (zQV z (yK D cI ad) R) X 0 [(0, .ref (ad 34)), (1, .ref (ad 7))] [] := by
  unfold f_X2_become_34_7 at hf
  refine z_aload_n F dX2_become_0 0 rfl rfl ?_
  refine z_aload_n F dX2_become_1 1 rfl rfl ?_
  refine gK_7_0 F wm_123 dX2_become_2 ?_
  refine pK_34_0 F hf wm_123 dX2_become_5 (fun X_1 hf => ?_)
  refine z_aload_n F dX2_become_8 0 rfl rfl ?_
  refine z_aload_n F dX2_become_9 1 rfl rfl ?_
  refine gK_7_1 F wm_125 dX2_become_10 ?_
  refine pK_34_1 F hf wm_125 dX2_become_13 (fun X_2 hf => ?_)
  refine z_aload_n F dX2_become_16 0 rfl rfl ?_
  refine z_aload_n F dX2_become_17 1 rfl rfl ?_
  refine gK_7_2 F wm_129 dX2_become_18 ?_
  refine pK_34_2 F hf wm_129 dX2_become_21 (fun X_3 hf => ?_)
  refine z_aload_n F dX2_become_24 0 rfl rfl ?_
  refine z_aload_n F dX2_become_25 1 rfl rfl ?_
  refine gK_7_3 F wm_131 dX2_become_26 ?_
  refine pK_34_3 F hf wm_131 dX2_become_29 (fun X_4 hf => ?_)
  refine z_aload_n F dX2_become_32 0 rfl rfl ?_
  refine z_aload_n F dX2_become_33 1 rfl rfl ?_
  refine gK_7_4 F wm_135 dX2_become_34 ?_
  refine pK_34_4 F hf wm_135 dX2_become_37 (fun X_5 hf => ?_)
  refine z_aload_n F dX2_become_40 0 rfl rfl ?_
  refine z_aload_n F dX2_become_41 1 rfl rfl ?_
  refine gK_7_5 F wm_139 dX2_become_42 ?_
  refine pK_34_5 F hf wm_139 dX2_become_45 (fun X_6 hf => ?_)
  refine z_aload_n F dX2_become_48 0 rfl rfl ?_
  refine z_aload_n F dX2_become_49 1 rfl rfl ?_
  refine gK_7_14 F wm_172 dX2_become_50 ?_
  refine pK_34_14 F hf wm_172 dX2_become_53 (fun X_7 hf => ?_)
  refine z_aload_n F dX2_become_56 0 rfl rfl ?_
  refine z_aload_n F dX2_become_57 1 rfl rfl ?_
  refine gK_7_15 F wm_174 dX2_become_58 ?_
  refine pK_34_15 F hf wm_174 dX2_become_61 (fun X_8 hf => ?_)
  refine z_aload_n F dX2_become_64 0 rfl rfl ?_
  refine z_aload_n F dX2_become_65 1 rfl rfl ?_
  refine gK_7_16 F wm_175 dX2_become_66 ?_
  refine pK_34_16 F hf wm_175 dX2_become_69 (fun X_9 hf => ?_)
  refine z_aload_n F dX2_become_72 0 rfl rfl ?_
  refine z_aload_n F dX2_become_73 1 rfl rfl ?_
  refine gK_7_17 F wm_177 dX2_become_74 ?_
  refine pK_34_17 F hf wm_177 dX2_become_77 (fun X_10 hf => ?_)
  refine z_aload_n F dX2_become_80 0 rfl rfl ?_
  refine z_aload_n F dX2_become_81 1 rfl rfl ?_
  refine gK_7_18 F wm_179 dX2_become_82 ?_
  refine pK_34_18 F hf wm_179 dX2_become_85 (fun X_11 hf => ?_)
  refine z_aload_n F dX2_become_88 1 rfl rfl ?_
  refine gK_7_6 F wm_143 dX2_become_89 ?_
  refine z_iconst (v := 0) F dX2_become_92 (by decide +kernel) ?_
  refine z_aload_n F dX2_become_93 0 rfl rfl ?_
  refine gK_34_6 F wm_143 dX2_become_94 ?_
  refine z_iconst (v := 0) F dX2_become_97 (by decide +kernel) ?_
  refine z_bipush (v := 8) F dX2_become_98 (by decide +kernel) ?_
  refine yK_8_35 F (by decide) wm_432 wm_359 wm_358 wm_63 hf (Nat.le_of_ble_eq_true rfl) dX2_become_100 (fun X_12 hf => ?_)
  refine z_aload_n F dX2_become_103 1 rfl rfl ?_
  refine gK_7_7 F wm_147 dX2_become_104 ?_
  refine z_iconst (v := 0) F dX2_become_107 (by decide +kernel) ?_
  refine z_aload_n F dX2_become_108 0 rfl rfl ?_
  refine gK_34_7 F wm_147 dX2_become_109 ?_
  refine z_iconst (v := 0) F dX2_become_112 (by decide +kernel) ?_
  refine z_bipush (v := 8) F dX2_become_113 (by decide +kernel) ?_
  refine yK_9_36 F (by decide) wm_432 wm_359 wm_358 wm_63 hf (Nat.le_of_ble_eq_true rfl) dX2_become_115 (fun X_13 hf => ?_)
  refine z_aload_n F dX2_become_118 1 rfl rfl ?_
  refine gK_7_8 F wm_152 dX2_become_119 ?_
  refine z_iconst (v := 0) F dX2_become_122 (by decide +kernel) ?_
  refine z_aload_n F dX2_become_123 0 rfl rfl ?_
  refine gK_34_8 F wm_152 dX2_become_124 ?_
  refine z_iconst (v := 0) F dX2_become_127 (by decide +kernel) ?_
  refine z_bipush (v := 8) F dX2_become_128 (by decide +kernel) ?_
  refine yK_10_37 F (by decide) wm_432 wm_359 wm_358 wm_63 hf (Nat.le_of_ble_eq_true rfl) dX2_become_130 (fun X_14 hf => ?_)
  refine z_aload_n F dX2_become_133 1 rfl rfl ?_
  refine gK_7_9 F wm_156 dX2_become_134 ?_
  refine z_iconst (v := 0) F dX2_become_137 (by decide +kernel) ?_
  refine z_aload_n F dX2_become_138 0 rfl rfl ?_
  refine gK_34_9 F wm_156 dX2_become_139 ?_
  refine z_iconst (v := 0) F dX2_become_142 (by decide +kernel) ?_
  refine z_bipush (v := 8) F dX2_become_143 (by decide +kernel) ?_
  refine yK_11_38 F (by decide) wm_432 wm_359 wm_358 wm_63 hf (Nat.le_of_ble_eq_true rfl) dX2_become_145 (fun X_15 hf => ?_)
  refine z_aload_n F dX2_become_148 1 rfl rfl ?_
  refine gK_7_10 F wm_160 dX2_become_149 ?_
  refine z_iconst (v := 0) F dX2_become_152 (by decide +kernel) ?_
  refine z_aload_n F dX2_become_153 0 rfl rfl ?_
  refine gK_34_10 F wm_160 dX2_become_154 ?_
  refine z_iconst (v := 0) F dX2_become_157 (by decide +kernel) ?_
  refine z_bipush (v := 6) F dX2_become_158 (by decide +kernel) ?_
  refine yK_12_39 F (by decide) wm_432 wm_359 wm_358 wm_63 hf (Nat.le_of_ble_eq_true rfl) dX2_become_160 (fun X_16 hf => ?_)
  refine z_aload_n F dX2_become_163 1 rfl rfl ?_
  refine gK_7_11 F wm_164 dX2_become_164 ?_
  refine z_iconst (v := 0) F dX2_become_167 (by decide +kernel) ?_
  refine z_aload_n F dX2_become_168 0 rfl rfl ?_
  refine gK_34_11 F wm_164 dX2_become_169 ?_
  refine z_iconst (v := 0) F dX2_become_172 (by decide +kernel) ?_
  refine z_bipush (v := 6) F dX2_become_173 (by decide +kernel) ?_
  refine yK_13_40 F (by decide) wm_432 wm_359 wm_358 wm_63 hf (Nat.le_of_ble_eq_true rfl) dX2_become_175 (fun X_17 hf => ?_)
  refine z_aload_n F dX2_become_178 1 rfl rfl ?_
  refine gK_7_12 F wm_167 dX2_become_179 ?_
  refine z_iconst (v := 0) F dX2_become_182 (by decide +kernel) ?_
  refine z_aload_n F dX2_become_183 0 rfl rfl ?_
  refine gK_34_12 F wm_167 dX2_become_184 ?_
  refine z_iconst (v := 0) F dX2_become_187 (by decide +kernel) ?_
  refine z_bipush (v := 6) F dX2_become_188 (by decide +kernel) ?_
  refine yK_14_41 F (by decide) wm_432 wm_359 wm_358 wm_63 hf (Nat.le_of_ble_eq_true rfl) dX2_become_190 (fun X_18 hf => ?_)
  refine z_aload_n F dX2_become_193 1 rfl rfl ?_
  refine gK_7_13 F wm_170 dX2_become_194 ?_
  refine z_iconst (v := 0) F dX2_become_197 (by decide +kernel) ?_
  refine z_aload_n F dX2_become_198 0 rfl rfl ?_
  refine gK_34_13 F wm_170 dX2_become_199 ?_
  refine z_iconst (v := 0) F dX2_become_202 (by decide +kernel) ?_
  refine z_bipush (v := 6) F dX2_become_203 (by decide +kernel) ?_
  refine yK_15_42 F (by decide) wm_432 wm_359 wm_358 wm_63 hf (Nat.le_of_ble_eq_true rfl) dX2_become_205 (fun X_19 hf => ?_)
  exact z_vret F dX2_become_208 (Option.some.inj hf)
theorem c_X2_become_34_7 {D : va_G} {cI : ClassId} {ad : Nat → Nat} {R : KX} (X : KX)  (hf : f_X2_become_34_7 X = some R) : zMV (yK D cI ad) yX2_become cX2_become 2 none 1 [.ref (ad 34), .ref (ad 7)] X R := zMV_of (by decide +kernel) (Nat.le_of_ble_eq_true rfl) (fun z F => z_sub [0, 1] rfl (z_X2_become_34_7 F X hf))
theorem k_X2_become_34_7 {z : ZC} {D : va_G} {cI : ClassId} {ad : Nat → Nat} {cc : ByteArray} {own : String} {nL d pc index : Nat} {ret : Option FieldType} {Q : State → Prop} {X : KX} {L : List (Nat × Value)} {rest : List Value} (F : ZF z (yK D cI ad) cc own nL ret d) (hd : 1 + 1 ≤ d) (hw : Cond.methodLink own index yX2_become ∈ wsA) (hst : (rest.map fun v => v.category).sum ≤ 8) {β : Type} {e : KX → Option β} {r : β} (hf : zB1 (f_X2_become_34_7 X) e = some r) (hdg : decode cc pc = .ok (.invokevirtual index, 3)) (kk : ∀ X2 : KX, e X2 = some r → Z z (yK D cI ad) nL Q X2 (pc + 3) L rest) : Z z (yK D cI ad) nL Q X pc L (.ref (ad 7) :: .ref (ad 34) :: rest) := by
  obtain ⟨v, h1, h2⟩ := zB1_some hf
  exact z_cVV (As := [.ref (ad 7)]) F (c_X2_become_34_7 X h1) kn_X2_become_34_7 kv_X2_become_34_7 hw (q0 := 34) rfl rfl hd rfl hst hdg rfl (kk v h2)
theorem kv_X6_image : zKv yX6_image := ⟨wm_692, wm_693⟩
theorem kn_X6_image : zKn yX6_image cX6_image 2 (some .int) 1 := ⟨wm_694, wm_55, by decide +kernel, by decide⟩
set_option maxHeartbeats 4000000 in
set_option maxRecDepth 100000 in
theorem z_X6_image {z : ZC} {D : va_G} {cI : ClassId} {ad : Nat → Nat} {R : Int32 × KX} (F : ZF z (yK D cI ad) cX6_image RX6 2 (some .int) 2) (X : KX) (a1 : Int32) (hf : f_X6_image X a1 = some R) : Z z (yK D cI ad) 2 (zQI z (yK D cI ad) R) X 0 [(0, .ref (ad 0)), (1, .int a1)] [] := by
  unfold f_X6_image at hf
  refine z_iload_n F dX6_image_0 1 rfl rfl ?_
  refine z_iconst (v := 2) F dX6_image_1 (by decide +kernel) ?_
  refine k_X6_isBelow F (by decide) wm_312 (Nat.le_of_ble_eq_true rfl) dX6_image_2 ?_
  refine z_if_ne (tgt := 11) F hf dX6_image_5 (by decide) (fun hf => ?_) (fun hf => ?_)
  · refine z_aload_n F dX6_image_11 0 rfl rfl ?_
    refine gK_0_2 F wm_276 dX6_image_12 ?_
    refine gK_7_0 F wm_124 dX6_image_15 ?_
    refine z_if_ne (tgt := 24) F hf dX6_image_18 (by decide) (fun hf => ?_) (fun hf => ?_)
    · refine z_aload_n F dX6_image_24 0 rfl rfl ?_
      refine z_iload_n F dX6_image_25 1 rfl rfl ?_
      refine zIte hf (fun ci hf => ?_) (fun ci hf => ?_)
      · refine k_imageOf_0 F (by decide) wm_695 ci (Nat.le_of_ble_eq_true rfl) dX6_image_26 ?_
        refine z_aload_n F dX6_image_29 0 rfl rfl ?_
        refine gK_0_2 F wm_276 dX6_image_30 ?_
        refine k_X2_become_25_7 F (by decide) wm_428 (Nat.le_of_ble_eq_true rfl) hf dX6_image_33 (fun X_1 hf => ?_)
        refine z_iconst (v := 1) F dX6_image_36 (by decide +kernel) ?_
        exact z_iret F dX6_image_37 (Option.some.inj hf)
      · refine k_imageOf_1 F (by decide) wm_695 ci (Nat.le_of_ble_eq_true rfl) dX6_image_26 ?_
        refine z_aload_n F dX6_image_29 0 rfl rfl ?_
        refine gK_0_2 F wm_276 dX6_image_30 ?_
        refine k_X2_become_34_7 F (by decide) wm_428 (Nat.le_of_ble_eq_true rfl) hf dX6_image_33 (fun X_2 hf => ?_)
        refine z_iconst (v := 1) F dX6_image_36 (by decide +kernel) ?_
        exact z_iret F dX6_image_37 (Option.some.inj hf)
    · refine z_ldc F wm_457 dX6_image_21 ?_
      exact z_iret F dX6_image_23 (Option.some.inj hf)
  · refine z_ldc F wm_315 dX6_image_8 ?_
    exact z_iret F dX6_image_10 (Option.some.inj hf)
theorem c_X6_image {D : va_G} {cI : ClassId} {ad : Nat → Nat} {R : Int32 × KX} (X : KX) (a1 : Int32) (hf : f_X6_image X a1 = some R) : zMI (yK D cI ad) yX6_image cX6_image 2 (some .int) 2 [.ref (ad 0), .int a1] X R := zMI_of (by decide +kernel) (Nat.le_of_ble_eq_true rfl) (fun z F => z_sub [0, 1] rfl (z_X6_image F X a1 hf))
theorem k_X6_image {z : ZC} {D : va_G} {cI : ClassId} {ad : Nat → Nat} {cc : ByteArray} {own : String} {nL d pc index : Nat} {ret : Option FieldType} {Q : State → Prop} {X : KX} {L : List (Nat × Value)} {rest : List Value} {a1 : Int32} (F : ZF z (yK D cI ad) cc own nL ret d) (hd : 2 + 1 ≤ d) (hw : Cond.methodLink own index yX6_image ∈ wsA) (hst : (rest.map fun v => v.category).sum ≤ 8) {β : Type} {e : Int32 → KX → Option β} {r : β} (hf : zB2 (f_X6_image X a1) e = some r) (hdg : decode cc pc = .ok (.invokevirtual index, 3)) (kk : ∀ (v : Int32) (X2 : KX), e v X2 = some r → Z z (yK D cI ad) nL Q X2 (pc + 3) L (.int v :: rest)) : Z z (yK D cI ad) nL Q X pc L (.int a1 :: .ref (ad 0) :: rest) := by
  obtain ⟨v, X2, h1, h2⟩ := zB2_some hf
  exact z_cVI (As := [.int a1]) F (c_X6_image X a1 h1) kn_X6_image kv_X6_image hw (q0 := 0) rfl rfl hd rfl hst hdg rfl (kk v X2 h2)
theorem kv_X2_become_7_25 : zKv yX2_become := ⟨wm_429, wm_430⟩
theorem kn_X2_become_7_25 : zKn yX2_become cX2_become 2 none 1 := ⟨wm_431, wm_58, by decide +kernel, by decide⟩
set_option maxHeartbeats 4000000 in
set_option maxRecDepth 100000 in
theorem z_X2_become_7_25 {z : ZC} {D : va_G} {cI : ClassId} {ad : Nat → Nat} {R : KX} (F : ZF z (yK D cI ad) cX2_become RX2 2 none 1) (X : KX)  (hf : f_X2_become_7_25 X = some R) : Z z (yK D cI ad) 2 (zQV z (yK D cI ad) R) X 0 [(0, .ref (ad 7)), (1, .ref (ad 25))] [] := by
  unfold f_X2_become_7_25 at hf
  refine z_aload_n F dX2_become_0 0 rfl rfl ?_
  refine z_aload_n F dX2_become_1 1 rfl rfl ?_
  refine gK_25_0 F wm_123 dX2_become_2 ?_
  refine pK_7_0 F hf wm_123 dX2_become_5 (fun X_1 hf => ?_)
  refine z_aload_n F dX2_become_8 0 rfl rfl ?_
  refine z_aload_n F dX2_become_9 1 rfl rfl ?_
  refine gK_25_1 F wm_125 dX2_become_10 ?_
  refine pK_7_1 F hf wm_125 dX2_become_13 (fun X_2 hf => ?_)
  refine z_aload_n F dX2_become_16 0 rfl rfl ?_
  refine z_aload_n F dX2_become_17 1 rfl rfl ?_
  refine gK_25_2 F wm_129 dX2_become_18 ?_
  refine pK_7_2 F hf wm_129 dX2_become_21 (fun X_3 hf => ?_)
  refine z_aload_n F dX2_become_24 0 rfl rfl ?_
  refine z_aload_n F dX2_become_25 1 rfl rfl ?_
  refine gK_25_3 F wm_131 dX2_become_26 ?_
  refine pK_7_3 F hf wm_131 dX2_become_29 (fun X_4 hf => ?_)
  refine z_aload_n F dX2_become_32 0 rfl rfl ?_
  refine z_aload_n F dX2_become_33 1 rfl rfl ?_
  refine gK_25_4 F wm_135 dX2_become_34 ?_
  refine pK_7_4 F hf wm_135 dX2_become_37 (fun X_5 hf => ?_)
  refine z_aload_n F dX2_become_40 0 rfl rfl ?_
  refine z_aload_n F dX2_become_41 1 rfl rfl ?_
  refine gK_25_5 F wm_139 dX2_become_42 ?_
  refine pK_7_5 F hf wm_139 dX2_become_45 (fun X_6 hf => ?_)
  refine z_aload_n F dX2_become_48 0 rfl rfl ?_
  refine z_aload_n F dX2_become_49 1 rfl rfl ?_
  refine gK_25_14 F wm_172 dX2_become_50 ?_
  refine pK_7_14 F hf wm_172 dX2_become_53 (fun X_7 hf => ?_)
  refine z_aload_n F dX2_become_56 0 rfl rfl ?_
  refine z_aload_n F dX2_become_57 1 rfl rfl ?_
  refine gK_25_15 F wm_174 dX2_become_58 ?_
  refine pK_7_15 F hf wm_174 dX2_become_61 (fun X_8 hf => ?_)
  refine z_aload_n F dX2_become_64 0 rfl rfl ?_
  refine z_aload_n F dX2_become_65 1 rfl rfl ?_
  refine gK_25_16 F wm_175 dX2_become_66 ?_
  refine pK_7_16 F hf wm_175 dX2_become_69 (fun X_9 hf => ?_)
  refine z_aload_n F dX2_become_72 0 rfl rfl ?_
  refine z_aload_n F dX2_become_73 1 rfl rfl ?_
  refine gK_25_17 F wm_177 dX2_become_74 ?_
  refine pK_7_17 F hf wm_177 dX2_become_77 (fun X_10 hf => ?_)
  refine z_aload_n F dX2_become_80 0 rfl rfl ?_
  refine z_aload_n F dX2_become_81 1 rfl rfl ?_
  refine gK_25_18 F wm_179 dX2_become_82 ?_
  refine pK_7_18 F hf wm_179 dX2_become_85 (fun X_11 hf => ?_)
  refine z_aload_n F dX2_become_88 1 rfl rfl ?_
  refine gK_25_6 F wm_143 dX2_become_89 ?_
  refine z_iconst (v := 0) F dX2_become_92 (by decide +kernel) ?_
  refine z_aload_n F dX2_become_93 0 rfl rfl ?_
  refine gK_7_6 F wm_143 dX2_become_94 ?_
  refine z_iconst (v := 0) F dX2_become_97 (by decide +kernel) ?_
  refine z_bipush (v := 8) F dX2_become_98 (by decide +kernel) ?_
  refine yK_26_8 F (by decide) wm_432 wm_359 wm_358 wm_63 hf (Nat.le_of_ble_eq_true rfl) dX2_become_100 (fun X_12 hf => ?_)
  refine z_aload_n F dX2_become_103 1 rfl rfl ?_
  refine gK_25_7 F wm_147 dX2_become_104 ?_
  refine z_iconst (v := 0) F dX2_become_107 (by decide +kernel) ?_
  refine z_aload_n F dX2_become_108 0 rfl rfl ?_
  refine gK_7_7 F wm_147 dX2_become_109 ?_
  refine z_iconst (v := 0) F dX2_become_112 (by decide +kernel) ?_
  refine z_bipush (v := 8) F dX2_become_113 (by decide +kernel) ?_
  refine yK_27_9 F (by decide) wm_432 wm_359 wm_358 wm_63 hf (Nat.le_of_ble_eq_true rfl) dX2_become_115 (fun X_13 hf => ?_)
  refine z_aload_n F dX2_become_118 1 rfl rfl ?_
  refine gK_25_8 F wm_152 dX2_become_119 ?_
  refine z_iconst (v := 0) F dX2_become_122 (by decide +kernel) ?_
  refine z_aload_n F dX2_become_123 0 rfl rfl ?_
  refine gK_7_8 F wm_152 dX2_become_124 ?_
  refine z_iconst (v := 0) F dX2_become_127 (by decide +kernel) ?_
  refine z_bipush (v := 8) F dX2_become_128 (by decide +kernel) ?_
  refine yK_28_10 F (by decide) wm_432 wm_359 wm_358 wm_63 hf (Nat.le_of_ble_eq_true rfl) dX2_become_130 (fun X_14 hf => ?_)
  refine z_aload_n F dX2_become_133 1 rfl rfl ?_
  refine gK_25_9 F wm_156 dX2_become_134 ?_
  refine z_iconst (v := 0) F dX2_become_137 (by decide +kernel) ?_
  refine z_aload_n F dX2_become_138 0 rfl rfl ?_
  refine gK_7_9 F wm_156 dX2_become_139 ?_
  refine z_iconst (v := 0) F dX2_become_142 (by decide +kernel) ?_
  refine z_bipush (v := 8) F dX2_become_143 (by decide +kernel) ?_
  refine yK_29_11 F (by decide) wm_432 wm_359 wm_358 wm_63 hf (Nat.le_of_ble_eq_true rfl) dX2_become_145 (fun X_15 hf => ?_)
  refine z_aload_n F dX2_become_148 1 rfl rfl ?_
  refine gK_25_10 F wm_160 dX2_become_149 ?_
  refine z_iconst (v := 0) F dX2_become_152 (by decide +kernel) ?_
  refine z_aload_n F dX2_become_153 0 rfl rfl ?_
  refine gK_7_10 F wm_160 dX2_become_154 ?_
  refine z_iconst (v := 0) F dX2_become_157 (by decide +kernel) ?_
  refine z_bipush (v := 6) F dX2_become_158 (by decide +kernel) ?_
  refine yK_30_12 F (by decide) wm_432 wm_359 wm_358 wm_63 hf (Nat.le_of_ble_eq_true rfl) dX2_become_160 (fun X_16 hf => ?_)
  refine z_aload_n F dX2_become_163 1 rfl rfl ?_
  refine gK_25_11 F wm_164 dX2_become_164 ?_
  refine z_iconst (v := 0) F dX2_become_167 (by decide +kernel) ?_
  refine z_aload_n F dX2_become_168 0 rfl rfl ?_
  refine gK_7_11 F wm_164 dX2_become_169 ?_
  refine z_iconst (v := 0) F dX2_become_172 (by decide +kernel) ?_
  refine z_bipush (v := 6) F dX2_become_173 (by decide +kernel) ?_
  refine yK_31_13 F (by decide) wm_432 wm_359 wm_358 wm_63 hf (Nat.le_of_ble_eq_true rfl) dX2_become_175 (fun X_17 hf => ?_)
  refine z_aload_n F dX2_become_178 1 rfl rfl ?_
  refine gK_25_12 F wm_167 dX2_become_179 ?_
  refine z_iconst (v := 0) F dX2_become_182 (by decide +kernel) ?_
  refine z_aload_n F dX2_become_183 0 rfl rfl ?_
  refine gK_7_12 F wm_167 dX2_become_184 ?_
  refine z_iconst (v := 0) F dX2_become_187 (by decide +kernel) ?_
  refine z_bipush (v := 6) F dX2_become_188 (by decide +kernel) ?_
  refine yK_32_14 F (by decide) wm_432 wm_359 wm_358 wm_63 hf (Nat.le_of_ble_eq_true rfl) dX2_become_190 (fun X_18 hf => ?_)
  refine z_aload_n F dX2_become_193 1 rfl rfl ?_
  refine gK_25_13 F wm_170 dX2_become_194 ?_
  refine z_iconst (v := 0) F dX2_become_197 (by decide +kernel) ?_
  refine z_aload_n F dX2_become_198 0 rfl rfl ?_
  refine gK_7_13 F wm_170 dX2_become_199 ?_
  refine z_iconst (v := 0) F dX2_become_202 (by decide +kernel) ?_
  refine z_bipush (v := 6) F dX2_become_203 (by decide +kernel) ?_
  refine yK_33_15 F (by decide) wm_432 wm_359 wm_358 wm_63 hf (Nat.le_of_ble_eq_true rfl) dX2_become_205 (fun X_19 hf => ?_)
  exact z_vret F dX2_become_208 (Option.some.inj hf)
theorem c_X2_become_7_25 {D : va_G} {cI : ClassId} {ad : Nat → Nat} {R : KX} (X : KX)  (hf : f_X2_become_7_25 X = some R) : zMV (yK D cI ad) yX2_become cX2_become 2 none 1 [.ref (ad 7), .ref (ad 25)] X R := zMV_of (by decide +kernel) (Nat.le_of_ble_eq_true rfl) (fun z F => z_sub [0, 1] rfl (z_X2_become_7_25 F X hf))
theorem k_X2_become_7_25 {z : ZC} {D : va_G} {cI : ClassId} {ad : Nat → Nat} {cc : ByteArray} {own : String} {nL d pc index : Nat} {ret : Option FieldType} {Q : State → Prop} {X : KX} {L : List (Nat × Value)} {rest : List Value} (F : ZF z (yK D cI ad) cc own nL ret d) (hd : 1 + 1 ≤ d) (hw : Cond.methodLink own index yX2_become ∈ wsA) (hst : (rest.map fun v => v.category).sum ≤ 8) {β : Type} {e : KX → Option β} {r : β} (hf : zB1 (f_X2_become_7_25 X) e = some r) (hdg : decode cc pc = .ok (.invokevirtual index, 3)) (kk : ∀ X2 : KX, e X2 = some r → Z z (yK D cI ad) nL Q X2 (pc + 3) L rest) : Z z (yK D cI ad) nL Q X pc L (.ref (ad 25) :: .ref (ad 7) :: rest) := by
  obtain ⟨v, h1, h2⟩ := zB1_some hf
  exact z_cVV (As := [.ref (ad 25)]) F (c_X2_become_7_25 X h1) kn_X2_become_7_25 kv_X2_become_7_25 hw (q0 := 7) rfl rfl hd rfl hst hdg rfl (kk v h2)
theorem kv_X2_become_7_34 : zKv yX2_become := ⟨wm_429, wm_430⟩
theorem kn_X2_become_7_34 : zKn yX2_become cX2_become 2 none 1 := ⟨wm_431, wm_58, by decide +kernel, by decide⟩
set_option maxHeartbeats 4000000 in
set_option maxRecDepth 100000 in
theorem z_X2_become_7_34 {z : ZC} {D : va_G} {cI : ClassId} {ad : Nat → Nat} {R : KX} (F : ZF z (yK D cI ad) cX2_become RX2 2 none 1) (X : KX)  (hf : f_X2_become_7_34 X = some R) : Z z (yK D cI ad) 2 (zQV z (yK D cI ad) R) X 0 [(0, .ref (ad 7)), (1, .ref (ad 34))] [] := by
  unfold f_X2_become_7_34 at hf
  refine z_aload_n F dX2_become_0 0 rfl rfl ?_
  refine z_aload_n F dX2_become_1 1 rfl rfl ?_
  refine gK_34_0 F wm_123 dX2_become_2 ?_
  refine pK_7_0 F hf wm_123 dX2_become_5 (fun X_1 hf => ?_)
  refine z_aload_n F dX2_become_8 0 rfl rfl ?_
  refine z_aload_n F dX2_become_9 1 rfl rfl ?_
  refine gK_34_1 F wm_125 dX2_become_10 ?_
  refine pK_7_1 F hf wm_125 dX2_become_13 (fun X_2 hf => ?_)
  refine z_aload_n F dX2_become_16 0 rfl rfl ?_
  refine z_aload_n F dX2_become_17 1 rfl rfl ?_
  refine gK_34_2 F wm_129 dX2_become_18 ?_
  refine pK_7_2 F hf wm_129 dX2_become_21 (fun X_3 hf => ?_)
  refine z_aload_n F dX2_become_24 0 rfl rfl ?_
  refine z_aload_n F dX2_become_25 1 rfl rfl ?_
  refine gK_34_3 F wm_131 dX2_become_26 ?_
  refine pK_7_3 F hf wm_131 dX2_become_29 (fun X_4 hf => ?_)
  refine z_aload_n F dX2_become_32 0 rfl rfl ?_
  refine z_aload_n F dX2_become_33 1 rfl rfl ?_
  refine gK_34_4 F wm_135 dX2_become_34 ?_
  refine pK_7_4 F hf wm_135 dX2_become_37 (fun X_5 hf => ?_)
  refine z_aload_n F dX2_become_40 0 rfl rfl ?_
  refine z_aload_n F dX2_become_41 1 rfl rfl ?_
  refine gK_34_5 F wm_139 dX2_become_42 ?_
  refine pK_7_5 F hf wm_139 dX2_become_45 (fun X_6 hf => ?_)
  refine z_aload_n F dX2_become_48 0 rfl rfl ?_
  refine z_aload_n F dX2_become_49 1 rfl rfl ?_
  refine gK_34_14 F wm_172 dX2_become_50 ?_
  refine pK_7_14 F hf wm_172 dX2_become_53 (fun X_7 hf => ?_)
  refine z_aload_n F dX2_become_56 0 rfl rfl ?_
  refine z_aload_n F dX2_become_57 1 rfl rfl ?_
  refine gK_34_15 F wm_174 dX2_become_58 ?_
  refine pK_7_15 F hf wm_174 dX2_become_61 (fun X_8 hf => ?_)
  refine z_aload_n F dX2_become_64 0 rfl rfl ?_
  refine z_aload_n F dX2_become_65 1 rfl rfl ?_
  refine gK_34_16 F wm_175 dX2_become_66 ?_
  refine pK_7_16 F hf wm_175 dX2_become_69 (fun X_9 hf => ?_)
  refine z_aload_n F dX2_become_72 0 rfl rfl ?_
  refine z_aload_n F dX2_become_73 1 rfl rfl ?_
  refine gK_34_17 F wm_177 dX2_become_74 ?_
  refine pK_7_17 F hf wm_177 dX2_become_77 (fun X_10 hf => ?_)
  refine z_aload_n F dX2_become_80 0 rfl rfl ?_
  refine z_aload_n F dX2_become_81 1 rfl rfl ?_
  refine gK_34_18 F wm_179 dX2_become_82 ?_
  refine pK_7_18 F hf wm_179 dX2_become_85 (fun X_11 hf => ?_)
  refine z_aload_n F dX2_become_88 1 rfl rfl ?_
  refine gK_34_6 F wm_143 dX2_become_89 ?_
  refine z_iconst (v := 0) F dX2_become_92 (by decide +kernel) ?_
  refine z_aload_n F dX2_become_93 0 rfl rfl ?_
  refine gK_7_6 F wm_143 dX2_become_94 ?_
  refine z_iconst (v := 0) F dX2_become_97 (by decide +kernel) ?_
  refine z_bipush (v := 8) F dX2_become_98 (by decide +kernel) ?_
  refine yK_35_8 F (by decide) wm_432 wm_359 wm_358 wm_63 hf (Nat.le_of_ble_eq_true rfl) dX2_become_100 (fun X_12 hf => ?_)
  refine z_aload_n F dX2_become_103 1 rfl rfl ?_
  refine gK_34_7 F wm_147 dX2_become_104 ?_
  refine z_iconst (v := 0) F dX2_become_107 (by decide +kernel) ?_
  refine z_aload_n F dX2_become_108 0 rfl rfl ?_
  refine gK_7_7 F wm_147 dX2_become_109 ?_
  refine z_iconst (v := 0) F dX2_become_112 (by decide +kernel) ?_
  refine z_bipush (v := 8) F dX2_become_113 (by decide +kernel) ?_
  refine yK_36_9 F (by decide) wm_432 wm_359 wm_358 wm_63 hf (Nat.le_of_ble_eq_true rfl) dX2_become_115 (fun X_13 hf => ?_)
  refine z_aload_n F dX2_become_118 1 rfl rfl ?_
  refine gK_34_8 F wm_152 dX2_become_119 ?_
  refine z_iconst (v := 0) F dX2_become_122 (by decide +kernel) ?_
  refine z_aload_n F dX2_become_123 0 rfl rfl ?_
  refine gK_7_8 F wm_152 dX2_become_124 ?_
  refine z_iconst (v := 0) F dX2_become_127 (by decide +kernel) ?_
  refine z_bipush (v := 8) F dX2_become_128 (by decide +kernel) ?_
  refine yK_37_10 F (by decide) wm_432 wm_359 wm_358 wm_63 hf (Nat.le_of_ble_eq_true rfl) dX2_become_130 (fun X_14 hf => ?_)
  refine z_aload_n F dX2_become_133 1 rfl rfl ?_
  refine gK_34_9 F wm_156 dX2_become_134 ?_
  refine z_iconst (v := 0) F dX2_become_137 (by decide +kernel) ?_
  refine z_aload_n F dX2_become_138 0 rfl rfl ?_
  refine gK_7_9 F wm_156 dX2_become_139 ?_
  refine z_iconst (v := 0) F dX2_become_142 (by decide +kernel) ?_
  refine z_bipush (v := 8) F dX2_become_143 (by decide +kernel) ?_
  refine yK_38_11 F (by decide) wm_432 wm_359 wm_358 wm_63 hf (Nat.le_of_ble_eq_true rfl) dX2_become_145 (fun X_15 hf => ?_)
  refine z_aload_n F dX2_become_148 1 rfl rfl ?_
  refine gK_34_10 F wm_160 dX2_become_149 ?_
  refine z_iconst (v := 0) F dX2_become_152 (by decide +kernel) ?_
  refine z_aload_n F dX2_become_153 0 rfl rfl ?_
  refine gK_7_10 F wm_160 dX2_become_154 ?_
  refine z_iconst (v := 0) F dX2_become_157 (by decide +kernel) ?_
  refine z_bipush (v := 6) F dX2_become_158 (by decide +kernel) ?_
  refine yK_39_12 F (by decide) wm_432 wm_359 wm_358 wm_63 hf (Nat.le_of_ble_eq_true rfl) dX2_become_160 (fun X_16 hf => ?_)
  refine z_aload_n F dX2_become_163 1 rfl rfl ?_
  refine gK_34_11 F wm_164 dX2_become_164 ?_
  refine z_iconst (v := 0) F dX2_become_167 (by decide +kernel) ?_
  refine z_aload_n F dX2_become_168 0 rfl rfl ?_
  refine gK_7_11 F wm_164 dX2_become_169 ?_
  refine z_iconst (v := 0) F dX2_become_172 (by decide +kernel) ?_
  refine z_bipush (v := 6) F dX2_become_173 (by decide +kernel) ?_
  refine yK_40_13 F (by decide) wm_432 wm_359 wm_358 wm_63 hf (Nat.le_of_ble_eq_true rfl) dX2_become_175 (fun X_17 hf => ?_)
  refine z_aload_n F dX2_become_178 1 rfl rfl ?_
  refine gK_34_12 F wm_167 dX2_become_179 ?_
  refine z_iconst (v := 0) F dX2_become_182 (by decide +kernel) ?_
  refine z_aload_n F dX2_become_183 0 rfl rfl ?_
  refine gK_7_12 F wm_167 dX2_become_184 ?_
  refine z_iconst (v := 0) F dX2_become_187 (by decide +kernel) ?_
  refine z_bipush (v := 6) F dX2_become_188 (by decide +kernel) ?_
  refine yK_41_14 F (by decide) wm_432 wm_359 wm_358 wm_63 hf (Nat.le_of_ble_eq_true rfl) dX2_become_190 (fun X_18 hf => ?_)
  refine z_aload_n F dX2_become_193 1 rfl rfl ?_
  refine gK_34_13 F wm_170 dX2_become_194 ?_
  refine z_iconst (v := 0) F dX2_become_197 (by decide +kernel) ?_
  refine z_aload_n F dX2_become_198 0 rfl rfl ?_
  refine gK_7_13 F wm_170 dX2_become_199 ?_
  refine z_iconst (v := 0) F dX2_become_202 (by decide +kernel) ?_
  refine z_bipush (v := 6) F dX2_become_203 (by decide +kernel) ?_
  refine yK_42_15 F (by decide) wm_432 wm_359 wm_358 wm_63 hf (Nat.le_of_ble_eq_true rfl) dX2_become_205 (fun X_19 hf => ?_)
  exact z_vret F dX2_become_208 (Option.some.inj hf)
theorem c_X2_become_7_34 {D : va_G} {cI : ClassId} {ad : Nat → Nat} {R : KX} (X : KX)  (hf : f_X2_become_7_34 X = some R) : zMV (yK D cI ad) yX2_become cX2_become 2 none 1 [.ref (ad 7), .ref (ad 34)] X R := zMV_of (by decide +kernel) (Nat.le_of_ble_eq_true rfl) (fun z F => z_sub [0, 1] rfl (z_X2_become_7_34 F X hf))
theorem k_X2_become_7_34 {z : ZC} {D : va_G} {cI : ClassId} {ad : Nat → Nat} {cc : ByteArray} {own : String} {nL d pc index : Nat} {ret : Option FieldType} {Q : State → Prop} {X : KX} {L : List (Nat × Value)} {rest : List Value} (F : ZF z (yK D cI ad) cc own nL ret d) (hd : 1 + 1 ≤ d) (hw : Cond.methodLink own index yX2_become ∈ wsA) (hst : (rest.map fun v => v.category).sum ≤ 8) {β : Type} {e : KX → Option β} {r : β} (hf : zB1 (f_X2_become_7_34 X) e = some r) (hdg : decode cc pc = .ok (.invokevirtual index, 3)) (kk : ∀ X2 : KX, e X2 = some r → Z z (yK D cI ad) nL Q X2 (pc + 3) L rest) : Z z (yK D cI ad) nL Q X pc L (.ref (ad 34) :: .ref (ad 7) :: rest) := by
  obtain ⟨v, h1, h2⟩ := zB1_some hf
  exact z_cVV (As := [.ref (ad 34)]) F (c_X2_become_7_34 X h1) kn_X2_become_7_34 kv_X2_become_7_34 hw (q0 := 7) rfl rfl hd rfl hst hdg rfl (kk v h2)
theorem kv_X6_restore : zKv yX6_restore := ⟨wm_700, wm_701⟩
theorem kn_X6_restore : zKn yX6_restore cX6_restore 2 (some .int) 1 := ⟨wm_702, wm_55, by decide +kernel, by decide⟩
set_option maxHeartbeats 4000000 in
set_option maxRecDepth 100000 in
theorem z_X6_restore {z : ZC} {D : va_G} {cI : ClassId} {ad : Nat → Nat} {R : Int32 × KX} (F : ZF z (yK D cI ad) cX6_restore RX6 2 (some .int) 2) (X : KX) (a1 : Int32) (hf : f_X6_restore X a1 = some R) : Z z (yK D cI ad) 2 (zQI z (yK D cI ad) R) X 0 [(0, .ref (ad 0)), (1, .int a1)] [] := by
  unfold f_X6_restore at hf
  refine z_iload_n F dX6_restore_0 1 rfl rfl ?_
  refine z_iconst (v := 2) F dX6_restore_1 (by decide +kernel) ?_
  refine k_X6_isBelow F (by decide) wm_312 (Nat.le_of_ble_eq_true rfl) dX6_restore_2 ?_
  refine z_if_ne (tgt := 11) F hf dX6_restore_5 (by decide) (fun hf => ?_) (fun hf => ?_)
  · refine z_aload_n F dX6_restore_11 0 rfl rfl ?_
    refine z_iload_n F dX6_restore_12 1 rfl rfl ?_
    refine zIte hf (fun ci hf => ?_) (fun ci hf => ?_)
    · refine k_imageOf_0 F (by decide) wm_695 ci (Nat.le_of_ble_eq_true rfl) dX6_restore_13 ?_
      refine gK_25_0 F wm_124 dX6_restore_16 ?_
      refine z_if_ne (tgt := 25) F hf dX6_restore_19 (by decide) (fun hf => ?_) (fun hf => ?_)
      · refine z_aload_n F dX6_restore_25 0 rfl rfl ?_
        refine gK_0_2 F wm_276 dX6_restore_26 ?_
        refine z_aload_n F dX6_restore_29 0 rfl rfl ?_
        refine z_iload_n F dX6_restore_30 1 rfl rfl ?_
        refine zIte hf (fun ci hf => ?_) (fun ci hf => ?_)
        · refine k_imageOf_0 F (by decide) wm_695 ci (Nat.le_of_ble_eq_true rfl) dX6_restore_31 ?_
          refine k_X2_become_7_25 F (by decide) wm_428 (Nat.le_of_ble_eq_true rfl) hf dX6_restore_34 (fun X_1 hf => ?_)
          refine z_aload_n F dX6_restore_37 0 rfl rfl ?_
          refine gK_0_6 F wm_280 dX6_restore_38 ?_
          refine k_X0_forgetAll F (by decide) wm_433 (Nat.le_of_ble_eq_true rfl) hf dX6_restore_41 (fun X_2 hf => ?_)
          refine z_iconst (v := 1) F dX6_restore_44 (by decide +kernel) ?_
          exact z_iret F dX6_restore_45 (Option.some.inj hf)
        · refine k_imageOf_1 F (by decide) wm_695 ci (Nat.le_of_ble_eq_true rfl) dX6_restore_31 ?_
          refine k_X2_become_7_34 F (by decide) wm_428 (Nat.le_of_ble_eq_true rfl) hf dX6_restore_34 (fun X_3 hf => ?_)
          refine z_aload_n F dX6_restore_37 0 rfl rfl ?_
          refine gK_0_6 F wm_280 dX6_restore_38 ?_
          refine k_X0_forgetAll F (by decide) wm_433 (Nat.le_of_ble_eq_true rfl) hf dX6_restore_41 (fun X_4 hf => ?_)
          refine z_iconst (v := 1) F dX6_restore_44 (by decide +kernel) ?_
          exact z_iret F dX6_restore_45 (Option.some.inj hf)
      · refine z_ldc F wm_457 dX6_restore_22 ?_
        exact z_iret F dX6_restore_24 (Option.some.inj hf)
    · refine k_imageOf_1 F (by decide) wm_695 ci (Nat.le_of_ble_eq_true rfl) dX6_restore_13 ?_
      refine gK_34_0 F wm_124 dX6_restore_16 ?_
      refine z_if_ne (tgt := 25) F hf dX6_restore_19 (by decide) (fun hf => ?_) (fun hf => ?_)
      · refine z_aload_n F dX6_restore_25 0 rfl rfl ?_
        refine gK_0_2 F wm_276 dX6_restore_26 ?_
        refine z_aload_n F dX6_restore_29 0 rfl rfl ?_
        refine z_iload_n F dX6_restore_30 1 rfl rfl ?_
        refine zIte hf (fun ci hf => ?_) (fun ci hf => ?_)
        · refine k_imageOf_0 F (by decide) wm_695 ci (Nat.le_of_ble_eq_true rfl) dX6_restore_31 ?_
          refine k_X2_become_7_25 F (by decide) wm_428 (Nat.le_of_ble_eq_true rfl) hf dX6_restore_34 (fun X_5 hf => ?_)
          refine z_aload_n F dX6_restore_37 0 rfl rfl ?_
          refine gK_0_6 F wm_280 dX6_restore_38 ?_
          refine k_X0_forgetAll F (by decide) wm_433 (Nat.le_of_ble_eq_true rfl) hf dX6_restore_41 (fun X_6 hf => ?_)
          refine z_iconst (v := 1) F dX6_restore_44 (by decide +kernel) ?_
          exact z_iret F dX6_restore_45 (Option.some.inj hf)
        · refine k_imageOf_1 F (by decide) wm_695 ci (Nat.le_of_ble_eq_true rfl) dX6_restore_31 ?_
          refine k_X2_become_7_34 F (by decide) wm_428 (Nat.le_of_ble_eq_true rfl) hf dX6_restore_34 (fun X_7 hf => ?_)
          refine z_aload_n F dX6_restore_37 0 rfl rfl ?_
          refine gK_0_6 F wm_280 dX6_restore_38 ?_
          refine k_X0_forgetAll F (by decide) wm_433 (Nat.le_of_ble_eq_true rfl) hf dX6_restore_41 (fun X_8 hf => ?_)
          refine z_iconst (v := 1) F dX6_restore_44 (by decide +kernel) ?_
          exact z_iret F dX6_restore_45 (Option.some.inj hf)
      · refine z_ldc F wm_457 dX6_restore_22 ?_
        exact z_iret F dX6_restore_24 (Option.some.inj hf)
  · refine z_ldc F wm_315 dX6_restore_8 ?_
    exact z_iret F dX6_restore_10 (Option.some.inj hf)
theorem c_X6_restore {D : va_G} {cI : ClassId} {ad : Nat → Nat} {R : Int32 × KX} (X : KX) (a1 : Int32) (hf : f_X6_restore X a1 = some R) : zMI (yK D cI ad) yX6_restore cX6_restore 2 (some .int) 2 [.ref (ad 0), .int a1] X R := zMI_of (by decide +kernel) (Nat.le_of_ble_eq_true rfl) (fun z F => z_sub [0, 1] rfl (z_X6_restore F X a1 hf))
theorem k_X6_restore {z : ZC} {D : va_G} {cI : ClassId} {ad : Nat → Nat} {cc : ByteArray} {own : String} {nL d pc index : Nat} {ret : Option FieldType} {Q : State → Prop} {X : KX} {L : List (Nat × Value)} {rest : List Value} {a1 : Int32} (F : ZF z (yK D cI ad) cc own nL ret d) (hd : 2 + 1 ≤ d) (hw : Cond.methodLink own index yX6_restore ∈ wsA) (hst : (rest.map fun v => v.category).sum ≤ 8) {β : Type} {e : Int32 → KX → Option β} {r : β} (hf : zB2 (f_X6_restore X a1) e = some r) (hdg : decode cc pc = .ok (.invokevirtual index, 3)) (kk : ∀ (v : Int32) (X2 : KX), e v X2 = some r → Z z (yK D cI ad) nL Q X2 (pc + 3) L (.int v :: rest)) : Z z (yK D cI ad) nL Q X pc L (.int a1 :: .ref (ad 0) :: rest) := by
  obtain ⟨v, X2, h1, h2⟩ := zB2_some hf
  exact z_cVI (As := [.int a1]) F (c_X6_restore X a1 h1) kn_X6_restore kv_X6_restore hw (q0 := 0) rfl rfl hd rfl hst hdg rfl (kk v X2 h2)
theorem kv_X6_kind : zKv yX6_kind := ⟨wm_704, wm_705⟩
theorem kn_X6_kind : zKn yX6_kind cX6_kind 2 (some .int) 1 := ⟨wm_706, wm_55, by decide +kernel, by decide⟩
set_option maxHeartbeats 4000000 in
set_option maxRecDepth 100000 in
theorem z_X6_kind {z : ZC} {D : va_G} {cI : ClassId} {ad : Nat → Nat} {r : Int32} (F : ZF z (yK D cI ad) cX6_kind RX6 2 (some .int) 3) (X : KX) (a1 : Int32) (hf : f_X6_kind X a1 = some r) : Z z (yK D cI ad) 2 (zQI z (yK D cI ad) (r, X)) X 0 [(0, .ref (ad 0)), (1, .int a1)] [] := by
  unfold f_X6_kind at hf
  refine z_aload_n F dX6_kind_0 0 rfl rfl ?_
  refine gK_0_2 F wm_276 dX6_kind_1 ?_
  refine z_iload_n F dX6_kind_4 1 rfl rfl ?_
  refine k_X2_isHint F (by decide) wm_470 (Nat.le_of_ble_eq_true rfl) dX6_kind_5 ?_
  refine z_if_eq (tgt := 23) F hf dX6_kind_8 (by decide) (fun hf => ?_) (fun hf => ?_)
  · refine z_ldc F wm_315 dX6_kind_23 ?_
    exact z_iret F dX6_kind_25 (Prod.ext (Option.some.inj hf) rfl)
  · refine z_aload_n F dX6_kind_11 0 rfl rfl ?_
    refine gK_0_2 F wm_276 dX6_kind_12 ?_
    refine gK_7_6 F wm_146 dX6_kind_15 ?_
    refine z_iload_n F dX6_kind_18 1 rfl rfl ?_
    refine lK_8 F hf dX6_kind_19 (fun hf => ?_)
    refine z_goto (tgt := 25) F dX6_kind_20 (by decide) ?_
    exact z_iret F dX6_kind_25 (Prod.ext (Option.some.inj hf) rfl)
theorem c_X6_kind {D : va_G} {cI : ClassId} {ad : Nat → Nat} {r : Int32} (X : KX) (a1 : Int32) (hf : f_X6_kind X a1 = some r) : zMI (yK D cI ad) yX6_kind cX6_kind 2 (some .int) 3 [.ref (ad 0), .int a1] X (r, X) := zMI_of (by decide +kernel) (Nat.le_of_ble_eq_true rfl) (fun z F => z_sub [0, 1] rfl (z_X6_kind F X a1 hf))
theorem k_X6_kind {z : ZC} {D : va_G} {cI : ClassId} {ad : Nat → Nat} {cc : ByteArray} {own : String} {nL d pc index : Nat} {ret : Option FieldType} {Q : State → Prop} {X : KX} {L : List (Nat × Value)} {rest : List Value} {a1 : Int32} (F : ZF z (yK D cI ad) cc own nL ret d) (hd : 3 + 1 ≤ d) (hw : Cond.methodLink own index yX6_kind ∈ wsA) (hst : (rest.map fun v => v.category).sum ≤ 8) {β : Type} {e : Int32 → Option β} {r : β} (hf : zB1 (f_X6_kind X a1) e = some r) (hdg : decode cc pc = .ok (.invokevirtual index, 3)) (kk : ∀ v : Int32, e v = some r → Z z (yK D cI ad) nL Q X (pc + 3) L (.int v :: rest)) : Z z (yK D cI ad) nL Q X pc L (.int a1 :: .ref (ad 0) :: rest) := by
  obtain ⟨v, h1, h2⟩ := zB1_some hf
  exact z_cVI (As := [.int a1]) F (c_X6_kind X a1 h1) kn_X6_kind kv_X6_kind hw (q0 := 0) rfl rfl hd rfl hst hdg rfl (kk v h2)
theorem kv_X6_parentOf : Cond.static yX6_parentOf ∈ wsA := wm_715
theorem kn_X6_parentOf : zKn yX6_parentOf cX6_parentOf 1 (some .int) 1 := ⟨wm_716, wm_55, by decide +kernel, by decide⟩
set_option maxHeartbeats 4000000 in
set_option maxRecDepth 100000 in
theorem z_X6_parentOf {z : ZC} {D : va_G} {cI : ClassId} {ad : Nat → Nat} {r : Int32} (F : ZF z (yK D cI ad) cX6_parentOf RX6 1 (some .int) 1) {X : KX} (a0 : Int32) (hf : f_X6_parentOf a0 = r) : Z z (yK D cI ad) 1 (zQI z (yK D cI ad) (r, X)) X 0 [(0, .int a0)] [] := by
  unfold f_X6_parentOf at hf
  refine z_iload_n F dX6_parentOf_0 0 rfl rfl ?_
  refine z_iconst (v := 2) F dX6_parentOf_1 (by decide +kernel) ?_
  refine z_icmp_eq (tgt := 10) F hf dX6_parentOf_2 (by decide) (fun hf => ?_) (fun hf => ?_)
  · refine z_iconst (v := 1) F dX6_parentOf_10 (by decide +kernel) ?_
    exact z_iret F dX6_parentOf_11 (Prod.ext hf rfl)
  · refine z_iload_n F dX6_parentOf_5 0 rfl rfl ?_
    refine z_iconst (v := 3) F dX6_parentOf_6 (by decide +kernel) ?_
    refine z_icmp_ne (tgt := 12) F hf dX6_parentOf_7 (by decide) (fun hf => ?_) (fun hf => ?_)
    · refine z_iload_n F dX6_parentOf_12 0 rfl rfl ?_
      refine z_iconst (v := 5) F dX6_parentOf_13 (by decide +kernel) ?_
      refine z_icmp_ne (tgt := 21) F hf dX6_parentOf_14 (by decide) (fun hf => ?_) (fun hf => ?_)
      · refine z_iconst (v := 0) F dX6_parentOf_21 (by decide +kernel) ?_
        exact z_iret F dX6_parentOf_22 (Prod.ext hf rfl)
      · refine z_iconst (v := 4) F dX6_parentOf_17 (by decide +kernel) ?_
        refine z_goto (tgt := 22) F dX6_parentOf_18 (by decide) ?_
        exact z_iret F dX6_parentOf_22 (Prod.ext hf rfl)
    · refine z_iconst (v := 1) F dX6_parentOf_10 (by decide +kernel) ?_
      exact z_iret F dX6_parentOf_11 (Prod.ext hf rfl)
theorem c_X6_parentOf {D : va_G} {cI : ClassId} {ad : Nat → Nat} (X : KX) (a0 : Int32) : zMI (yK D cI ad) yX6_parentOf cX6_parentOf 1 (some .int) 1 [.int a0] X (f_X6_parentOf a0, X) := zMI_of (by decide +kernel) (Nat.le_of_ble_eq_true rfl) (fun z F => z_sub [0] rfl (z_X6_parentOf F a0 rfl))
theorem k_X6_parentOf {z : ZC} {D : va_G} {cI : ClassId} {ad : Nat → Nat} {cc : ByteArray} {own : String} {nL d pc index : Nat} {ret : Option FieldType} {Q : State → Prop} {X : KX} {L : List (Nat × Value)} {rest : List Value} {a0 : Int32} (F : ZF z (yK D cI ad) cc own nL ret d) (hd : 1 + 1 ≤ d) (hw : Cond.methodLink own index yX6_parentOf ∈ wsA) (hst : (rest.map fun v => v.category).sum ≤ 8) (hdg : decode cc pc = .ok (.invokestatic index, 3)) (kk : Z z (yK D cI ad) nL Q X (pc + 3) L (.int (f_X6_parentOf a0) :: rest)) : Z z (yK D cI ad) nL Q X pc L (.int a0 :: rest) := z_cSI (As := [.int a0]) F (c_X6_parentOf X a0) kn_X6_parentOf kv_X6_parentOf hw hd rfl hst hdg rfl kk
theorem k_X6_parentOfN {z : ZC} {D : va_G} {cI : ClassId} {ad : Nat → Nat} {cc : ByteArray} {own : String} {nL d pc index : Nat} {ret : Option FieldType} {Q : State → Prop} {X : KX} {L : List (Nat × Value)} {rest : List Value} {a0 : Int32} (F : ZF z (yK D cI ad) cc own nL ret d) (hd : 1 + 1 ≤ d) (hw : ∀ s, zN s → va_Nw (.methodLinkNest own index yX6_parentOf "AilingKing") s) (hst : (rest.map fun v => v.category).sum ≤ 8) (hdg : decode cc pc = .ok (.invokestatic index, 3)) (kk : Z z (yK D cI ad) nL Q X (pc + 3) L (.int (f_X6_parentOf a0) :: rest)) : Z z (yK D cI ad) nL Q X pc L (.int a0 :: rest) := z_cNI (As := [.int a0]) F (c_X6_parentOf X a0) kn_X6_parentOf kv_X6_parentOf hw hd rfl hst hdg rfl kk
theorem kv_X6_isOneOf : Cond.static yX6_isOneOf ∈ wsA := wm_712
theorem kn_X6_isOneOf : zKn yX6_isOneOf cX6_isOneOf 2 (some .boolean) 2 := ⟨wm_713, wm_55, by decide +kernel, by decide⟩
set_option maxHeartbeats 4000000 in
set_option maxRecDepth 100000 in
theorem z_X6_isOneOf_17 {z : ZC} {D : va_G} {cI : ClassId} {ad : Nat → Nat} {r : Int32} (F : ZF z (yK D cI ad) cX6_isOneOf RX6 2 (some .boolean) 2) {X : KX}  (hf : f_X6_isOneOf_17 = r) : Z z (yK D cI ad) 2 (zQI z (yK D cI ad) (r, X)) X 17 [] [] := by
  unfold f_X6_isOneOf_17 at hf
  refine z_iconst (v := 1) F dX6_isOneOf_17 (by decide +kernel) ?_
  refine z_goto (tgt := 22) F dX6_isOneOf_18 (by decide) ?_
  exact z_zret F (by decide) dX6_isOneOf_22 (Prod.ext hf rfl)
set_option maxHeartbeats 4000000 in
set_option maxRecDepth 100000 in
theorem z_X6_isOneOf {z : ZC} {D : va_G} {cI : ClassId} {ad : Nat → Nat} {r : Int32} (F : ZF z (yK D cI ad) cX6_isOneOf RX6 2 (some .boolean) 2) {X : KX} (a0 : Int32) (a1 : Int32) (hf : f_X6_isOneOf a0 a1 = r) : Z z (yK D cI ad) 2 (zQI z (yK D cI ad) (r, X)) X 0 [(0, .int a0), (1, .int a1)] [] := by
  unfold f_X6_isOneOf at hf
  refine z_iload_n F dX6_isOneOf_0 1 rfl rfl ?_
  refine z_if_eq (tgt := 17) F hf dX6_isOneOf_1 (by decide) (fun hf => ?_) (fun hf => ?_)
  · exact z_sub [] rfl (z_X6_isOneOf_17 F  hf)
  · refine z_iload_n F dX6_isOneOf_4 1 rfl rfl ?_
    refine z_iload_n F dX6_isOneOf_5 0 rfl rfl ?_
    refine z_icmp_eq (tgt := 17) F hf dX6_isOneOf_6 (by decide) (fun hf => ?_) (fun hf => ?_)
    · exact z_sub [] rfl (z_X6_isOneOf_17 F  hf)
    · refine z_iload_n F dX6_isOneOf_9 1 rfl rfl ?_
      refine z_iload_n F dX6_isOneOf_10 0 rfl rfl ?_
      refine k_X6_parentOf F (by decide) wm_714 (Nat.le_of_ble_eq_true rfl) dX6_isOneOf_11 ?_
      refine z_icmp_ne (tgt := 21) F hf dX6_isOneOf_14 (by decide) (fun hf => ?_) (fun hf => ?_)
      · refine z_iconst (v := 0) F dX6_isOneOf_21 (by decide +kernel) ?_
        exact z_zret F (by decide) dX6_isOneOf_22 (Prod.ext hf rfl)
      · exact z_sub [] rfl (z_X6_isOneOf_17 F  hf)
theorem c_X6_isOneOf {D : va_G} {cI : ClassId} {ad : Nat → Nat} (X : KX) (a0 : Int32) (a1 : Int32) : zMI (yK D cI ad) yX6_isOneOf cX6_isOneOf 2 (some .boolean) 2 [.int a0, .int a1] X (f_X6_isOneOf a0 a1, X) := zMI_of (by decide +kernel) (Nat.le_of_ble_eq_true rfl) (fun z F => z_sub [0, 1] rfl (z_X6_isOneOf F a0 a1 rfl))
theorem k_X6_isOneOf {z : ZC} {D : va_G} {cI : ClassId} {ad : Nat → Nat} {cc : ByteArray} {own : String} {nL d pc index : Nat} {ret : Option FieldType} {Q : State → Prop} {X : KX} {L : List (Nat × Value)} {rest : List Value} {a0 a1 : Int32} (F : ZF z (yK D cI ad) cc own nL ret d) (hd : 2 + 1 ≤ d) (hw : Cond.methodLink own index yX6_isOneOf ∈ wsA) (hst : (rest.map fun v => v.category).sum ≤ 8) (hdg : decode cc pc = .ok (.invokestatic index, 3)) (kk : Z z (yK D cI ad) nL Q X (pc + 3) L (.int (f_X6_isOneOf a0 a1) :: rest)) : Z z (yK D cI ad) nL Q X pc L (.int a1 :: .int a0 :: rest) := z_cSI (As := [.int a0, .int a1]) F (c_X6_isOneOf X a0 a1) kn_X6_isOneOf kv_X6_isOneOf hw hd rfl hst hdg rfl kk
theorem k_X6_isOneOfN {z : ZC} {D : va_G} {cI : ClassId} {ad : Nat → Nat} {cc : ByteArray} {own : String} {nL d pc index : Nat} {ret : Option FieldType} {Q : State → Prop} {X : KX} {L : List (Nat × Value)} {rest : List Value} {a0 a1 : Int32} (F : ZF z (yK D cI ad) cc own nL ret d) (hd : 2 + 1 ≤ d) (hw : ∀ s, zN s → va_Nw (.methodLinkNest own index yX6_isOneOf "AilingKing") s) (hst : (rest.map fun v => v.category).sum ≤ 8) (hdg : decode cc pc = .ok (.invokestatic index, 3)) (kk : Z z (yK D cI ad) nL Q X (pc + 3) L (.int (f_X6_isOneOf a0 a1) :: rest)) : Z z (yK D cI ad) nL Q X pc L (.int a1 :: .int a0 :: rest) := z_cNI (As := [.int a0, .int a1]) F (c_X6_isOneOf X a0 a1) kn_X6_isOneOf kv_X6_isOneOf hw hd rfl hst hdg rfl kk
theorem bz_X6_isOneOf (a0 : Int32) (a1 : Int32) : f_X6_isOneOf a0 a1 = 0 ∨ f_X6_isOneOf a0 a1 = 1 := by
  unfold f_X6_isOneOf
  repeat' split
  all_goals first | exact Or.inl rfl | exact Or.inr rfl | exact bz_X6_isBelow _ _ | exact bz_X5_isFigure _ | exact bz_X2_isGuest _ _ | exact bz_X6_has _ _ | exact bz_X2_isHint _ _
theorem kv_X6_as : zKv yX6_as := ⟨wm_708, wm_709⟩
theorem kn_X6_as : zKn yX6_as cX6_as 3 (some .int) 2 := ⟨wm_710, wm_55, by decide +kernel, by decide⟩
set_option maxHeartbeats 4000000 in
set_option maxRecDepth 100000 in
theorem z_X6_as {z : ZC} {D : va_G} {cI : ClassId} {ad : Nat → Nat} {R : Int32 × KX} (F : ZF z (yK D cI ad) cX6_as RX6 3 (some .int) 3) (X : KX) (a1 : Int32) (a2 : Int32) (hf : f_X6_as X a1 a2 = some R) : Z z (yK D cI ad) 3 (zQI z (yK D cI ad) R) X 0 [(0, .ref (ad 0)), (1, .int a1), (2, .int a2)] [] := by
  unfold f_X6_as at hf
  refine z_aload_n F dX6_as_0 0 rfl rfl ?_
  refine gK_0_2 F wm_276 dX6_as_1 ?_
  refine z_iload_n F dX6_as_4 1 rfl rfl ?_
  refine k_X2_isHint F (by decide) wm_470 (Nat.le_of_ble_eq_true rfl) dX6_as_5 ?_
  refine z_if_eq (tgt := 20) F hf dX6_as_8 (by decide) (fun hf => ?_) (fun hf => ?_)
  · refine z_ldc F wm_315 dX6_as_20 ?_
    exact z_iret F dX6_as_22 (Option.some.inj hf)
  · refine z_iload_n F dX6_as_11 2 rfl rfl ?_
    refine z_bipush (v := 6) F dX6_as_12 (by decide +kernel) ?_
    refine k_X6_isBelow F (by decide) wm_312 (Nat.le_of_ble_eq_true rfl) dX6_as_14 ?_
    refine z_if_ne (tgt := 23) F hf dX6_as_17 (by decide) (fun hf => ?_) (fun hf => ?_)
    · refine z_aload_n F dX6_as_23 0 rfl rfl ?_
      refine gK_0_2 F wm_276 dX6_as_24 ?_
      refine gK_7_6 F wm_146 dX6_as_27 ?_
      refine z_iload_n F dX6_as_30 1 rfl rfl ?_
      refine lK_8 F hf dX6_as_31 (fun hf => ?_)
      refine z_iload_n F dX6_as_32 2 rfl rfl ?_
      refine k_X6_isOneOf F (by decide) wm_711 (Nat.le_of_ble_eq_true rfl) dX6_as_33 ?_
      refine z_if_ne (tgt := 45) F hf dX6_as_36 (by decide) (fun hf => ?_) (fun hf => ?_)
      · refine z_aload_n F dX6_as_45 0 rfl rfl ?_
        refine z_iload_n F dX6_as_46 1 rfl rfl ?_
        refine k_X6_foundNothing F (by decide) wm_325 (Nat.le_of_ble_eq_true rfl) hf dX6_as_47 (fun r_1 X_2 hf => ?_)
        exact z_iret F dX6_as_50 (Option.some.inj hf)
      · refine z_aload_n F dX6_as_39 0 rfl rfl ?_
        refine z_iconst (v := 3) F dX6_as_40 (by decide +kernel) ?_
        refine k_X6_found F (by decide) wm_316 (Nat.le_of_ble_eq_true rfl) hf dX6_as_41 (fun r_3 X_4 hf => ?_)
        exact z_iret F dX6_as_44 (Option.some.inj hf)
    · refine z_ldc F wm_315 dX6_as_20 ?_
      exact z_iret F dX6_as_22 (Option.some.inj hf)
theorem c_X6_as {D : va_G} {cI : ClassId} {ad : Nat → Nat} {R : Int32 × KX} (X : KX) (a1 : Int32) (a2 : Int32) (hf : f_X6_as X a1 a2 = some R) : zMI (yK D cI ad) yX6_as cX6_as 3 (some .int) 3 [.ref (ad 0), .int a1, .int a2] X R := zMI_of (by decide +kernel) (Nat.le_of_ble_eq_true rfl) (fun z F => z_sub [0, 1, 2] rfl (z_X6_as F X a1 a2 hf))
theorem k_X6_as {z : ZC} {D : va_G} {cI : ClassId} {ad : Nat → Nat} {cc : ByteArray} {own : String} {nL d pc index : Nat} {ret : Option FieldType} {Q : State → Prop} {X : KX} {L : List (Nat × Value)} {rest : List Value} {a1 a2 : Int32} (F : ZF z (yK D cI ad) cc own nL ret d) (hd : 3 + 1 ≤ d) (hw : Cond.methodLink own index yX6_as ∈ wsA) (hst : (rest.map fun v => v.category).sum ≤ 8) {β : Type} {e : Int32 → KX → Option β} {r : β} (hf : zB2 (f_X6_as X a1 a2) e = some r) (hdg : decode cc pc = .ok (.invokevirtual index, 3)) (kk : ∀ (v : Int32) (X2 : KX), e v X2 = some r → Z z (yK D cI ad) nL Q X2 (pc + 3) L (.int v :: rest)) : Z z (yK D cI ad) nL Q X pc L (.int a2 :: .int a1 :: .ref (ad 0) :: rest) := by
  obtain ⟨v, X2, h1, h2⟩ := zB2_some hf
  exact z_cVI (As := [.int a1, .int a2]) F (c_X6_as X a1 a2 h1) kn_X6_as kv_X6_as hw (q0 := 0) rfl rfl hd rfl hst hdg rfl (kk v X2 h2)
theorem kv_X1_markBody : Cond.static yX1_markBody ∈ wsA := wm_729
theorem kn_X1_markBody : zKn yX1_markBody cX1_markBody 1 (some .int) 1 := ⟨wm_730, wm_61, by decide +kernel, by decide⟩
set_option maxHeartbeats 4000000 in
set_option maxRecDepth 100000 in
theorem z_X1_markBody {z : ZC} {D : va_G} {cI : ClassId} {ad : Nat → Nat} {r : Int32} (F : ZF z (yK D cI ad) cX1_markBody RX1 1 (some .int) 1) {X : KX} (a0 : Int32) (hf : f_X1_markBody a0 = r) : Z z (yK D cI ad) 1 (zQI z (yK D cI ad) (r, X)) X 0 [(0, .int a0)] [] := by
  unfold f_X1_markBody at hf
  refine z_iload_n F dX1_markBody_0 0 rfl rfl ?_
  refine zIte hf (fun c0 hf => ?_) (fun c0 hf => ?_)
  · refine z_swIn (v := 1) (off := 35) (tgt := 36) F c0 dX1_markBody_1 (by decide +kernel) ?_
    refine z_bipush (v := 21) F dX1_markBody_36 (by decide +kernel) ?_
    exact z_iret F dX1_markBody_38 (Prod.ext hf rfl)
  · refine zIte hf (fun c1 hf => ?_) (fun c1 hf => ?_)
    · refine z_swIn (v := 2) (off := 38) (tgt := 39) F c1 dX1_markBody_1 (by decide +kernel) ?_
      refine z_bipush (v := 24) F dX1_markBody_39 (by decide +kernel) ?_
      exact z_iret F dX1_markBody_41 (Prod.ext hf rfl)
    · refine zIte hf (fun c2 hf => ?_) (fun c2 hf => ?_)
      · refine z_swIn (v := 3) (off := 41) (tgt := 42) F c2 dX1_markBody_1 (by decide +kernel) ?_
        refine z_bipush (v := 22) F dX1_markBody_42 (by decide +kernel) ?_
        exact z_iret F dX1_markBody_44 (Prod.ext hf rfl)
      · refine zIte hf (fun c3 hf => ?_) (fun c3 hf => ?_)
        · refine z_swIn (v := 4) (off := 44) (tgt := 45) F c3 dX1_markBody_1 (by decide +kernel) ?_
          refine z_bipush (v := 23) F dX1_markBody_45 (by decide +kernel) ?_
          exact z_iret F dX1_markBody_47 (Prod.ext hf rfl)
        · refine zIte hf (fun c4 hf => ?_) (fun c4 hf => ?_)
          · refine z_swIn (v := 5) (off := 47) (tgt := 48) F c4 dX1_markBody_1 (by decide +kernel) ?_
            refine z_bipush (v := 23) F dX1_markBody_48 (by decide +kernel) ?_
            exact z_iret F dX1_markBody_50 (Prod.ext hf rfl)
          · refine z_swOut (tgt := 51) F dX1_markBody_1 (by have e0 := lv_neT c0 (show (1 : Int32).toInt = 1 by decide +kernel); have e1 := lv_neT c1 (show (2 : Int32).toInt = 2 by decide +kernel); have e2 := lv_neT c2 (show (3 : Int32).toInt = 3 by decide +kernel); have e3 := lv_neT c3 (show (4 : Int32).toInt = 4 by decide +kernel); have e4 := lv_neT c4 (show (5 : Int32).toInt = 5 by decide +kernel); omega) (by decide) ?_
            refine z_bipush (v := 20) F dX1_markBody_51 (by decide +kernel) ?_
            exact z_iret F dX1_markBody_53 (Prod.ext hf rfl)
theorem c_X1_markBody {D : va_G} {cI : ClassId} {ad : Nat → Nat} (X : KX) (a0 : Int32) : zMI (yK D cI ad) yX1_markBody cX1_markBody 1 (some .int) 1 [.int a0] X (f_X1_markBody a0, X) := zMI_of (by decide +kernel) (Nat.le_of_ble_eq_true rfl) (fun z F => z_sub [0] rfl (z_X1_markBody F a0 rfl))
theorem k_X1_markBody {z : ZC} {D : va_G} {cI : ClassId} {ad : Nat → Nat} {cc : ByteArray} {own : String} {nL d pc index : Nat} {ret : Option FieldType} {Q : State → Prop} {X : KX} {L : List (Nat × Value)} {rest : List Value} {a0 : Int32} (F : ZF z (yK D cI ad) cc own nL ret d) (hd : 1 + 1 ≤ d) (hw : Cond.methodLink own index yX1_markBody ∈ wsA) (hst : (rest.map fun v => v.category).sum ≤ 8) (hdg : decode cc pc = .ok (.invokestatic index, 3)) (kk : Z z (yK D cI ad) nL Q X (pc + 3) L (.int (f_X1_markBody a0) :: rest)) : Z z (yK D cI ad) nL Q X pc L (.int a0 :: rest) := z_cSI (As := [.int a0]) F (c_X1_markBody X a0) kn_X1_markBody kv_X1_markBody hw hd rfl hst hdg rfl kk
theorem k_X1_markBodyN {z : ZC} {D : va_G} {cI : ClassId} {ad : Nat → Nat} {cc : ByteArray} {own : String} {nL d pc index : Nat} {ret : Option FieldType} {Q : State → Prop} {X : KX} {L : List (Nat × Value)} {rest : List Value} {a0 : Int32} (F : ZF z (yK D cI ad) cc own nL ret d) (hd : 1 + 1 ≤ d) (hw : ∀ s, zN s → va_Nw (.methodLinkNest own index yX1_markBody "AilingKing") s) (hst : (rest.map fun v => v.category).sum ≤ 8) (hdg : decode cc pc = .ok (.invokestatic index, 3)) (kk : Z z (yK D cI ad) nL Q X (pc + 3) L (.int (f_X1_markBody a0) :: rest)) : Z z (yK D cI ad) nL Q X pc L (.int a0 :: rest) := z_cNI (As := [.int a0]) F (c_X1_markBody X a0) kn_X1_markBody kv_X1_markBody hw hd rfl hst hdg rfl kk
theorem kv_X1_sizeBody : Cond.static yX1_sizeBody ∈ wsA := wm_726
theorem kn_X1_sizeBody : zKn yX1_sizeBody cX1_sizeBody 1 (some .int) 1 := ⟨wm_727, wm_61, by decide +kernel, by decide⟩
set_option maxHeartbeats 4000000 in
set_option maxRecDepth 100000 in
theorem z_X1_sizeBody {z : ZC} {D : va_G} {cI : ClassId} {ad : Nat → Nat} {r : Int32} (F : ZF z (yK D cI ad) cX1_sizeBody RX1 1 (some .int) 1) {X : KX} (a0 : Int32) (hf : f_X1_sizeBody a0 = r) : Z z (yK D cI ad) 1 (zQI z (yK D cI ad) (r, X)) X 0 [(0, .int a0)] [] := by
  unfold f_X1_sizeBody at hf
  refine z_iload_n F dX1_sizeBody_0 0 rfl rfl ?_
  refine zIte hf (fun c0 hf => ?_) (fun c0 hf => ?_)
  · refine z_swIn (v := 1) (off := 35) (tgt := 36) F c0 dX1_sizeBody_1 (by decide +kernel) ?_
    refine z_bipush (v := 11) F dX1_sizeBody_36 (by decide +kernel) ?_
    exact z_iret F dX1_sizeBody_38 (Prod.ext hf rfl)
  · refine zIte hf (fun c1 hf => ?_) (fun c1 hf => ?_)
    · refine z_swIn (v := 2) (off := 38) (tgt := 39) F c1 dX1_sizeBody_1 (by decide +kernel) ?_
      refine z_bipush (v := 12) F dX1_sizeBody_39 (by decide +kernel) ?_
      exact z_iret F dX1_sizeBody_41 (Prod.ext hf rfl)
    · refine zIte hf (fun c2 hf => ?_) (fun c2 hf => ?_)
      · refine z_swIn (v := 3) (off := 41) (tgt := 42) F c2 dX1_sizeBody_1 (by decide +kernel) ?_
        refine z_bipush (v := 11) F dX1_sizeBody_42 (by decide +kernel) ?_
        exact z_iret F dX1_sizeBody_44 (Prod.ext hf rfl)
      · refine zIte hf (fun c3 hf => ?_) (fun c3 hf => ?_)
        · refine z_swIn (v := 4) (off := 44) (tgt := 45) F c3 dX1_sizeBody_1 (by decide +kernel) ?_
          refine z_bipush (v := 13) F dX1_sizeBody_45 (by decide +kernel) ?_
          exact z_iret F dX1_sizeBody_47 (Prod.ext hf rfl)
        · refine zIte hf (fun c4 hf => ?_) (fun c4 hf => ?_)
          · refine z_swIn (v := 5) (off := 47) (tgt := 48) F c4 dX1_sizeBody_1 (by decide +kernel) ?_
            refine z_bipush (v := 14) F dX1_sizeBody_48 (by decide +kernel) ?_
            exact z_iret F dX1_sizeBody_50 (Prod.ext hf rfl)
          · refine z_swOut (tgt := 51) F dX1_sizeBody_1 (by have e0 := lv_neT c0 (show (1 : Int32).toInt = 1 by decide +kernel); have e1 := lv_neT c1 (show (2 : Int32).toInt = 2 by decide +kernel); have e2 := lv_neT c2 (show (3 : Int32).toInt = 3 by decide +kernel); have e3 := lv_neT c3 (show (4 : Int32).toInt = 4 by decide +kernel); have e4 := lv_neT c4 (show (5 : Int32).toInt = 5 by decide +kernel); omega) (by decide) ?_
            refine z_bipush (v := 10) F dX1_sizeBody_51 (by decide +kernel) ?_
            exact z_iret F dX1_sizeBody_53 (Prod.ext hf rfl)
