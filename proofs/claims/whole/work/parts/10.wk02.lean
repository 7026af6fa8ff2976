theorem c_X2_become_7_16 {D : va_G} {cI : ClassId} {ad : Nat → Nat} {R : KX} (X : KX)  (hf : f_X2_become_7_16 X = some R) : zMV (yK D cI ad) yX2_become cX2_become 2 none 1 [.ref (ad 7), .ref (ad 16)] X R := zMV_of (by decide +kernel) (Nat.le_of_ble_eq_true rfl) (fun z F => z_sub [0, 1] rfl (z_X2_become_7_16 F X hf))
theorem k_X2_become_7_16 {z : ZC} {D : va_G} {cI : ClassId} {ad : Nat → Nat} {cc : ByteArray} {own : String} {nL d pc index : Nat} {ret : Option FieldType} {Q : State → Prop} {X : KX} {L : List (Nat × Value)} {rest : List Value} (F : ZF z (yK D cI ad) cc own nL ret d) (hd : 1 + 1 ≤ d) (hw : Cond.methodLink own index yX2_become ∈ wsA) (hst : (rest.map fun v => v.category).sum ≤ 8) {β : Type} {e : KX → Option β} {r : β} (hf : zB1 (f_X2_become_7_16 X) e = some r) (hdg : decode cc pc = .ok (.invokevirtual index, 3)) (kk : ∀ X2 : KX, e X2 = some r → Z z (yK D cI ad) nL Q X2 (pc + 3) L rest) : Z z (yK D cI ad) nL Q X pc L (.ref (ad 16) :: .ref (ad 7) :: rest) := by
  obtain ⟨v, h1, h2⟩ := zB1_some hf
  exact z_cVV (As := [.ref (ad 16)]) F (c_X2_become_7_16 X h1) kn_X2_become_7_16 kv_X2_become_7_16 hw (q0 := 7) rfl rfl hd rfl hst hdg rfl (kk v h2)
theorem kv_X0_forgetAll : zKv yX0_forgetAll := ⟨wm_434, wm_435⟩
theorem kn_X0_forgetAll : zKn yX0_forgetAll cX0_forgetAll 1 none 0 := ⟨wm_436, wm_59, by decide +kernel, by decide⟩
set_option maxHeartbeats 4000000 in
set_option maxRecDepth 100000 in
theorem z_X0_forgetAll {z : ZC} {D : va_G} {cI : ClassId} {ad : Nat → Nat} {R : KX} (F : ZF z (yK D cI ad) cX0_forgetAll RX0 1 none 1) (X : KX)  (hf : f_X0_forgetAll X = some R) : Z z (yK D cI ad) 1 (zQV z (yK D cI ad) R) X 0 [(0, .ref (ad 43))] [] := by
  unfold f_X0_forgetAll at hf
  refine z_aload_n F dX0_forgetAll_0 0 rfl rfl ?_
  refine z_iconst (v := 0) F dX0_forgetAll_1 (by decide +kernel) ?_
  refine pK_43_3 F hf wm_232 dX0_forgetAll_2 (fun X_1 hf => ?_)
  exact z_vret F dX0_forgetAll_5 (Option.some.inj hf)
theorem c_X0_forgetAll {D : va_G} {cI : ClassId} {ad : Nat → Nat} {R : KX} (X : KX)  (hf : f_X0_forgetAll X = some R) : zMV (yK D cI ad) yX0_forgetAll cX0_forgetAll 1 none 1 [.ref (ad 43)] X R := zMV_of (by decide +kernel) (Nat.le_of_ble_eq_true rfl) (fun z F => z_sub [0] rfl (z_X0_forgetAll F X hf))
theorem k_X0_forgetAll {z : ZC} {D : va_G} {cI : ClassId} {ad : Nat → Nat} {cc : ByteArray} {own : String} {nL d pc index : Nat} {ret : Option FieldType} {Q : State → Prop} {X : KX} {L : List (Nat × Value)} {rest : List Value} (F : ZF z (yK D cI ad) cc own nL ret d) (hd : 1 + 1 ≤ d) (hw : Cond.methodLink own index yX0_forgetAll ∈ wsA) (hst : (rest.map fun v => v.category).sum ≤ 8) {β : Type} {e : KX → Option β} {r : β} (hf : zB1 (f_X0_forgetAll X) e = some r) (hdg : decode cc pc = .ok (.invokevirtual index, 3)) (kk : ∀ X2 : KX, e X2 = some r → Z z (yK D cI ad) nL Q X2 (pc + 3) L rest) : Z z (yK D cI ad) nL Q X pc L (.ref (ad 43) :: rest) := by
  obtain ⟨v, h1, h2⟩ := zB1_some hf
  exact z_cVV (As := []) F (c_X0_forgetAll X h1) kn_X0_forgetAll kv_X0_forgetAll hw (q0 := 43) rfl rfl hd rfl hst hdg rfl (kk v h2)
theorem kv_X6_castle : zKv yX6_castle := ⟨wm_378, wm_379⟩
theorem kn_X6_castle : zKn yX6_castle cX6_castle 2 (some .int) 0 := ⟨wm_380, wm_55, by decide +kernel, by decide⟩
set_option maxHeartbeats 4000000 in
set_option maxRecDepth 100000 in
theorem z_X6_castle {z : ZC} {D : va_G} {cI : ClassId} {ad : Nat → Nat} {R : Int32 × KX} (F : ZF z (yK D cI ad) cX6_castle RX6 2 (some .int) 6) (n : Nat) (X : KX)  (hf : f_X6_castle n X = some R) : Z z (yK D cI ad) 2 (zQI z (yK D cI ad) R) X 0 [(0, .ref (ad 0))] [] := by
  unfold f_X6_castle at hf
  refine z_aload_n F dX6_castle_0 0 rfl rfl ?_
  refine gK_0_1 F wm_275 dX6_castle_1 ?_
  refine z_aload_n F dX6_castle_4 0 rfl rfl ?_
  refine gK_0_3 F wm_277 dX6_castle_5 ?_
  refine k_X5_tells F (by decide) wm_381 (Nat.le_of_ble_eq_true rfl) hf dX6_castle_8 (fun r_1 X_2 hf => ?_)
  refine z_istore_n (L' := [(1, .int r_1), (0, .ref (ad 0))]) F dX6_castle_11 rfl (Nat.le_of_ble_eq_true rfl) rfl ?_
  refine z_aload_n F dX6_castle_12 1 rfl rfl ?_
  refine gK_0_1 F wm_275 dX6_castle_13 ?_
  refine z_iconst (v := 0) F dX6_castle_16 (by decide +kernel) ?_
  refine pK_5_1 F hf wm_99 dX6_castle_17 (fun X_3 hf => ?_)
  refine z_iload_n F dX6_castle_20 0 rfl rfl ?_
  refine z_if_ne (tgt := 46) F hf dX6_castle_21 (by decide) (fun hf => ?_) (fun hf => ?_)
  · refine z_aload_n F dX6_castle_46 1 rfl rfl ?_
    refine gK_0_3 F wm_277 dX6_castle_47 ?_
    refine z_iconst (v := 1) F dX6_castle_50 (by decide +kernel) ?_
    refine pK_16_0 F hf wm_124 dX6_castle_51 (fun X_4 hf => ?_)
    refine z_aload_n F dX6_castle_54 1 rfl rfl ?_
    refine gK_0_2 F wm_276 dX6_castle_55 ?_
    refine z_aload_n F dX6_castle_58 1 rfl rfl ?_
    refine gK_0_3 F wm_277 dX6_castle_59 ?_
    refine k_X2_become_7_16 F (by decide) wm_428 (Nat.le_of_ble_eq_true rfl) hf dX6_castle_62 (fun X_5 hf => ?_)
    refine z_aload_n F dX6_castle_65 1 rfl rfl ?_
    refine gK_0_6 F wm_280 dX6_castle_66 ?_
    refine k_X0_forgetAll F (by decide) wm_433 (Nat.le_of_ble_eq_true rfl) hf dX6_castle_69 (fun X_6 hf => ?_)
    refine z_aload_n F dX6_castle_72 1 rfl rfl ?_
    refine gK_0_2 F wm_276 dX6_castle_73 ?_
    refine gK_7_5 F wm_141 dX6_castle_76 ?_
    exact z_iret F dX6_castle_79 (Option.some.inj hf)
  · refine z_aload_n F dX6_castle_24 1 rfl rfl ?_
    refine z_aload_n F dX6_castle_25 1 rfl rfl ?_
    refine gK_0_1 F wm_275 dX6_castle_26 ?_
    refine gK_5_3 F wm_102 dX6_castle_29 ?_
    refine pK_0_9 F hf wm_283 dX6_castle_32 (fun X_7 hf => ?_)
    refine z_ldc F wm_427 dX6_castle_35 ?_
    refine z_aload_n F dX6_castle_37 1 rfl rfl ?_
    refine gK_0_1 F wm_275 dX6_castle_38 ?_
    refine gK_5_2 F wm_101 dX6_castle_41 ?_
    refine z_isub F dX6_castle_44 ?_
    exact z_iret F dX6_castle_45 (Option.some.inj hf)
theorem c_X6_castle {D : va_G} {cI : ClassId} {ad : Nat → Nat} {R : Int32 × KX} (n : Nat) (X : KX)  (hf : f_X6_castle n X = some R) : zMI (yK D cI ad) yX6_castle cX6_castle 2 (some .int) 6 [.ref (ad 0)] X R := zMI_of (by decide +kernel) (Nat.le_of_ble_eq_true rfl) (fun z F => z_sub [0] rfl (z_X6_castle F n X hf))
theorem k_X6_castle {z : ZC} {D : va_G} {cI : ClassId} {ad : Nat → Nat} {cc : ByteArray} {own : String} {nL d pc index : Nat} {ret : Option FieldType} {Q : State → Prop} {X : KX} {L : List (Nat × Value)} {rest : List Value} {n : Nat} (F : ZF z (yK D cI ad) cc own nL ret d) (hd : 6 + 1 ≤ d) (hw : Cond.methodLink own index yX6_castle ∈ wsA) (hst : (rest.map fun v => v.category).sum ≤ 8) {β : Type} {e : Int32 → KX → Option β} {r : β} (hf : zB2 (f_X6_castle n X) e = some r) (hdg : decode cc pc = .ok (.invokevirtual index, 3)) (kk : ∀ (v : Int32) (X2 : KX), e v X2 = some r → Z z (yK D cI ad) nL Q X2 (pc + 3) L (.int v :: rest)) : Z z (yK D cI ad) nL Q X pc L (.ref (ad 0) :: rest) := by
  obtain ⟨v, X2, h1, h2⟩ := zB2_some hf
  exact z_cVI (As := []) F (c_X6_castle n X h1) kn_X6_castle kv_X6_castle hw (q0 := 0) rfl rfl hd rfl hst hdg rfl (kk v X2 h2)
theorem kv_X6_fault : zKv yX6_fault := ⟨wm_438, wm_439⟩
theorem kn_X6_fault : zKn yX6_fault cX6_fault 1 (some .int) 0 := ⟨wm_440, wm_55, by decide +kernel, by decide⟩
set_option maxHeartbeats 4000000 in
set_option maxRecDepth 100000 in
theorem z_X6_fault {z : ZC} {D : va_G} {cI : ClassId} {ad : Nat → Nat} {r : Int32} (F : ZF z (yK D cI ad) cX6_fault RX6 1 (some .int) 1) (X : KX)  (hf : f_X6_fault X = r) : Z z (yK D cI ad) 1 (zQI z (yK D cI ad) (r, X)) X 0 [(0, .ref (ad 0))] [] := by
  unfold f_X6_fault at hf
  refine z_aload_n F dX6_fault_0 0 rfl rfl ?_
  refine gK_0_9 F wm_283 dX6_fault_1 ?_
  exact z_iret F dX6_fault_4 (Prod.ext hf rfl)
theorem c_X6_fault {D : va_G} {cI : ClassId} {ad : Nat → Nat} (X : KX)  : zMI (yK D cI ad) yX6_fault cX6_fault 1 (some .int) 1 [.ref (ad 0)] X (f_X6_fault X, X) := zMI_of (by decide +kernel) (Nat.le_of_ble_eq_true rfl) (fun z F => z_sub [0] rfl (z_X6_fault F X rfl))
theorem k_X6_fault {z : ZC} {D : va_G} {cI : ClassId} {ad : Nat → Nat} {cc : ByteArray} {own : String} {nL d pc index : Nat} {ret : Option FieldType} {Q : State → Prop} {X : KX} {L : List (Nat × Value)} {rest : List Value} (F : ZF z (yK D cI ad) cc own nL ret d) (hd : 1 + 1 ≤ d) (hw : Cond.methodLink own index yX6_fault ∈ wsA) (hst : (rest.map fun v => v.category).sum ≤ 8) (hdg : decode cc pc = .ok (.invokevirtual index, 3)) (kk : Z z (yK D cI ad) nL Q X (pc + 3) L (.int (f_X6_fault X) :: rest)) : Z z (yK D cI ad) nL Q X pc L (.ref (ad 0) :: rest) := z_cVI (As := []) F (c_X6_fault X) kn_X6_fault kv_X6_fault hw (q0 := 0) rfl rfl hd rfl hst hdg rfl kk
theorem kv_X2_isGuest : zKv yX2_isGuest := ⟨wm_446, wm_447⟩
theorem kn_X2_isGuest : zKn yX2_isGuest cX2_isGuest 2 (some .boolean) 1 := ⟨wm_448, wm_58, by decide +kernel, by decide⟩
set_option maxHeartbeats 4000000 in
set_option maxRecDepth 100000 in
theorem z_X2_isGuest {z : ZC} {D : va_G} {cI : ClassId} {ad : Nat → Nat} {r : Int32} (F : ZF z (yK D cI ad) cX2_isGuest RX2 2 (some .boolean) 2) (X : KX) (a1 : Int32) (hf : f_X2_isGuest X a1 = r) : Z z (yK D cI ad) 2 (zQI z (yK D cI ad) (r, X)) X 0 [(0, .ref (ad 7)), (1, .int a1)] [] := by
  unfold f_X2_isGuest at hf
  refine z_iload_n F dX2_isGuest_0 1 rfl rfl ?_
  refine z_aload_n F dX2_isGuest_1 0 rfl rfl ?_
  refine gK_7_5 F wm_139 dX2_isGuest_2 ?_
  refine k_X6_isBelowN F (by decide) (fun _ h => h.1) (Nat.le_of_ble_eq_true rfl) dX2_isGuest_5 ?_
  exact z_zret F (bz_X6_isBelow _ _) dX2_isGuest_8 (Prod.ext hf rfl)
theorem c_X2_isGuest {D : va_G} {cI : ClassId} {ad : Nat → Nat} (X : KX) (a1 : Int32) : zMI (yK D cI ad) yX2_isGuest cX2_isGuest 2 (some .boolean) 2 [.ref (ad 7), .int a1] X (f_X2_isGuest X a1, X) := zMI_of (by decide +kernel) (Nat.le_of_ble_eq_true rfl) (fun z F => z_sub [0, 1] rfl (z_X2_isGuest F X a1 rfl))
theorem k_X2_isGuest {z : ZC} {D : va_G} {cI : ClassId} {ad : Nat → Nat} {cc : ByteArray} {own : String} {nL d pc index : Nat} {ret : Option FieldType} {Q : State → Prop} {X : KX} {L : List (Nat × Value)} {rest : List Value} {a1 : Int32} (F : ZF z (yK D cI ad) cc own nL ret d) (hd : 2 + 1 ≤ d) (hw : Cond.methodLink own index yX2_isGuest ∈ wsA) (hst : (rest.map fun v => v.category).sum ≤ 8) (hdg : decode cc pc = .ok (.invokevirtual index, 3)) (kk : Z z (yK D cI ad) nL Q X (pc + 3) L (.int (f_X2_isGuest X a1) :: rest)) : Z z (yK D cI ad) nL Q X pc L (.int a1 :: .ref (ad 7) :: rest) := z_cVI (As := [.int a1]) F (c_X2_isGuest X a1) kn_X2_isGuest kv_X2_isGuest hw (q0 := 7) rfl rfl hd rfl hst hdg rfl kk
theorem bz_X2_isGuest (X : KX) (a1 : Int32) : f_X2_isGuest X a1 = 0 ∨ f_X2_isGuest X a1 = 1 := by
  unfold f_X2_isGuest
  repeat' split
  all_goals first | exact Or.inl rfl | exact Or.inr rfl | exact bz_X6_isBelow _ _ | exact bz_X5_isFigure _
theorem kv_X6_has : Cond.static yX6_has ∈ wsA := wm_455
theorem kn_X6_has : zKn yX6_has cX6_has 2 (some .boolean) 2 := ⟨wm_456, wm_55, by decide +kernel, by decide⟩
set_option maxHeartbeats 4000000 in
set_option maxRecDepth 100000 in
theorem z_X6_has {z : ZC} {D : va_G} {cI : ClassId} {ad : Nat → Nat} {r : Int32} (F : ZF z (yK D cI ad) cX6_has RX6 2 (some .boolean) 1) {X : KX} (a0 : Int32) (a1 : Int32) (hf : f_X6_has a0 a1 = r) : Z z (yK D cI ad) 2 (zQI z (yK D cI ad) (r, X)) X 0 [(0, .int a0), (1, .int a1)] [] := by
  unfold f_X6_has at hf
  refine z_iload_n F dX6_has_0 0 rfl rfl ?_
  refine z_iload_n F dX6_has_1 1 rfl rfl ?_
  refine z_ishr F dX6_has_2 ?_
  refine z_iconst (v := 1) F dX6_has_3 (by decide +kernel) ?_
  refine z_iand F dX6_has_4 ?_
  refine z_if_eq (tgt := 12) F hf dX6_has_5 (by decide) (fun hf => ?_) (fun hf => ?_)
  · refine z_iconst (v := 0) F dX6_has_12 (by decide +kernel) ?_
    exact z_zret F (by decide) dX6_has_13 (Prod.ext hf rfl)
  · refine z_iconst (v := 1) F dX6_has_8 (by decide +kernel) ?_
    refine z_goto (tgt := 13) F dX6_has_9 (by decide) ?_
    exact z_zret F (by decide) dX6_has_13 (Prod.ext hf rfl)
theorem c_X6_has {D : va_G} {cI : ClassId} {ad : Nat → Nat} (X : KX) (a0 : Int32) (a1 : Int32) : zMI (yK D cI ad) yX6_has cX6_has 2 (some .boolean) 1 [.int a0, .int a1] X (f_X6_has a0 a1, X) := zMI_of (by decide +kernel) (Nat.le_of_ble_eq_true rfl) (fun z F => z_sub [0, 1] rfl (z_X6_has F a0 a1 rfl))
theorem k_X6_has {z : ZC} {D : va_G} {cI : ClassId} {ad : Nat → Nat} {cc : ByteArray} {own : String} {nL d pc index : Nat} {ret : Option FieldType} {Q : State → Prop} {X : KX} {L : List (Nat × Value)} {rest : List Value} {a0 a1 : Int32} (F : ZF z (yK D cI ad) cc own nL ret d) (hd : 1 + 1 ≤ d) (hw : Cond.methodLink own index yX6_has ∈ wsA) (hst : (rest.map fun v => v.category).sum ≤ 8) (hdg : decode cc pc = .ok (.invokestatic index, 3)) (kk : Z z (yK D cI ad) nL Q X (pc + 3) L (.int (f_X6_has a0 a1) :: rest)) : Z z (yK D cI ad) nL Q X pc L (.int a1 :: .int a0 :: rest) := z_cSI (As := [.int a0, .int a1]) F (c_X6_has X a0 a1) kn_X6_has kv_X6_has hw hd rfl hst hdg rfl kk
theorem k_X6_hasN {z : ZC} {D : va_G} {cI : ClassId} {ad : Nat → Nat} {cc : ByteArray} {own : String} {nL d pc index : Nat} {ret : Option FieldType} {Q : State → Prop} {X : KX} {L : List (Nat × Value)} {rest : List Value} {a0 a1 : Int32} (F : ZF z (yK D cI ad) cc own nL ret d) (hd : 1 + 1 ≤ d) (hw : ∀ s, zN s → va_Nw (.methodLinkNest own index yX6_has "AilingKing") s) (hst : (rest.map fun v => v.category).sum ≤ 8) (hdg : decode cc pc = .ok (.invokestatic index, 3)) (kk : Z z (yK D cI ad) nL Q X (pc + 3) L (.int (f_X6_has a0 a1) :: rest)) : Z z (yK D cI ad) nL Q X pc L (.int a1 :: .int a0 :: rest) := z_cNI (As := [.int a0, .int a1]) F (c_X6_has X a0 a1) kn_X6_has kv_X6_has hw hd rfl hst hdg rfl kk
theorem bz_X6_has (a0 : Int32) (a1 : Int32) : f_X6_has a0 a1 = 0 ∨ f_X6_has a0 a1 = 1 := by
  unfold f_X6_has
  repeat' split
  all_goals first | exact Or.inl rfl | exact Or.inr rfl | exact bz_X6_isBelow _ _ | exact bz_X5_isFigure _ | exact bz_X2_isGuest _ _
theorem kv_X2_stateOf : zKv yX2_stateOf := ⟨wm_451, wm_452⟩
theorem kn_X2_stateOf : zKn yX2_stateOf cX2_stateOf 2 (some .int) 1 := ⟨wm_453, wm_58, by decide +kernel, by decide⟩
set_option maxHeartbeats 4000000 in
set_option maxRecDepth 100000 in
theorem z_X2_stateOf {z : ZC} {D : va_G} {cI : ClassId} {ad : Nat → Nat} {r : Int32} (F : ZF z (yK D cI ad) cX2_stateOf RX2 2 (some .int) 2) (X : KX) (a1 : Int32) (hf : f_X2_stateOf X a1 = r) : Z z (yK D cI ad) 2 (zQI z (yK D cI ad) (r, X)) X 0 [(0, .ref (ad 7)), (1, .int a1)] [] := by
  unfold f_X2_stateOf at hf
  refine z_aload_n F dX2_stateOf_0 0 rfl rfl ?_
  refine gK_7_15 F wm_174 dX2_stateOf_1 ?_
  refine z_iload_n F dX2_stateOf_4 1 rfl rfl ?_
  refine k_X6_hasN F (by decide) (fun _ h => h.2.1) (Nat.le_of_ble_eq_true rfl) dX2_stateOf_5 ?_
  refine z_if_eq (tgt := 13) F hf dX2_stateOf_8 (by decide) (fun hf => ?_) (fun hf => ?_)
  · refine z_aload_n F dX2_stateOf_13 0 rfl rfl ?_
    refine gK_7_14 F wm_172 dX2_stateOf_14 ?_
    refine z_iload_n F dX2_stateOf_17 1 rfl rfl ?_
    refine z_icmp_ne (tgt := 25) F hf dX2_stateOf_18 (by decide) (fun hf => ?_) (fun hf => ?_)
    · refine z_iconst (v := 0) F dX2_stateOf_25 (by decide +kernel) ?_
      exact z_iret F dX2_stateOf_26 (Prod.ext hf rfl)
    · refine z_iconst (v := 1) F dX2_stateOf_21 (by decide +kernel) ?_
      refine z_goto (tgt := 26) F dX2_stateOf_22 (by decide) ?_
      exact z_iret F dX2_stateOf_26 (Prod.ext hf rfl)
  · refine z_iconst (v := 2) F dX2_stateOf_11 (by decide +kernel) ?_
    exact z_iret F dX2_stateOf_12 (Prod.ext hf rfl)
theorem c_X2_stateOf {D : va_G} {cI : ClassId} {ad : Nat → Nat} (X : KX) (a1 : Int32) : zMI (yK D cI ad) yX2_stateOf cX2_stateOf 2 (some .int) 2 [.ref (ad 7), .int a1] X (f_X2_stateOf X a1, X) := zMI_of (by decide +kernel) (Nat.le_of_ble_eq_true rfl) (fun z F => z_sub [0, 1] rfl (z_X2_stateOf F X a1 rfl))
theorem k_X2_stateOf {z : ZC} {D : va_G} {cI : ClassId} {ad : Nat → Nat} {cc : ByteArray} {own : String} {nL d pc index : Nat} {ret : Option FieldType} {Q : State → Prop} {X : KX} {L : List (Nat × Value)} {rest : List Value} {a1 : Int32} (F : ZF z (yK D cI ad) cc own nL ret d) (hd : 2 + 1 ≤ d) (hw : Cond.methodLink own index yX2_stateOf ∈ wsA) (hst : (rest.map fun v => v.category).sum ≤ 8) (hdg : decode cc pc = .ok (.invokevirtual index, 3)) (kk : Z z (yK D cI ad) nL Q X (pc + 3) L (.int (f_X2_stateOf X a1) :: rest)) : Z z (yK D cI ad) nL Q X pc L (.int a1 :: .ref (ad 7) :: rest) := z_cVI (As := [.int a1]) F (c_X2_stateOf X a1) kn_X2_stateOf kv_X2_stateOf hw (q0 := 7) rfl rfl hd rfl hst hdg rfl kk
theorem kv_X0_keep : zKv yX0_keep := ⟨wm_459, wm_460⟩
theorem kn_X0_keep : zKn yX0_keep cX0_keep 5 none 3 := ⟨wm_461, wm_59, by decide +kernel, by decide⟩
set_option maxHeartbeats 4000000 in
set_option maxRecDepth 100000 in
theorem z_X0_keep {z : ZC} {D : va_G} {cI : ClassId} {ad : Nat → Nat} {R : KX} (F : ZF z (yK D cI ad) cX0_keep RX0 5 none 1) (X : KX) (a1 : Int32) (a2 : Int32) (a3 : Int32) (hf : f_X0_keep X a1 a2 a3 = some R) : Z z (yK D cI ad) 5 (zQV z (yK D cI ad) R) X 0 [(0, .ref (ad 43)), (1, .int a1), (2, .int a2), (3, .int a3)] [] := by
  unfold f_X0_keep at hf
  refine z_aload_n F dX0_keep_0 0 rfl rfl ?_
  refine gK_43_4 F wm_234 dX0_keep_1 ?_
  refine z_aload_n F dX0_keep_4 0 rfl rfl ?_
  refine gK_43_3 F wm_232 dX0_keep_5 ?_
  refine z_iadd F dX0_keep_8 ?_
  refine z_bipush (v := 24) F dX0_keep_9 (by decide +kernel) ?_
  refine z_iremL F (by decide) dX0_keep_11 ?_
  refine z_top hf (fun v4_1 hf => ?_)
  refine z_istore (L' := [(4, .int v4_1), (0, .ref (ad 43)), (1, .int a1), (2, .int a2), (3, .int a3)]) F dX0_keep_12 (Nat.le_of_ble_eq_true rfl) rfl ?_
  refine z_aload_n F dX0_keep_14 1 rfl rfl ?_
  refine gK_43_0 F wm_226 dX0_keep_15 ?_
  refine z_iload F dX0_keep_18 0 rfl ?_
  refine z_iload_n F dX0_keep_20 2 rfl rfl ?_
  refine sK_44 F hf dX0_keep_21 (fun X_2 hf => ?_)
  refine z_aload_n F dX0_keep_22 1 rfl rfl ?_
  refine gK_43_1 F wm_228 dX0_keep_23 ?_
  refine z_iload F dX0_keep_26 0 rfl ?_
  refine z_iload_n F dX0_keep_28 3 rfl rfl ?_
  refine sK_45 F hf dX0_keep_29 (fun X_3 hf => ?_)
  refine z_aload_n F dX0_keep_30 1 rfl rfl ?_
  refine gK_43_2 F wm_230 dX0_keep_31 ?_
  refine z_iload F dX0_keep_34 0 rfl ?_
  refine z_iload_n F dX0_keep_36 4 rfl rfl ?_
  refine sK_46 F hf dX0_keep_37 (fun X_4 hf => ?_)
  refine z_aload_n F dX0_keep_38 1 rfl rfl ?_
  refine gK_43_3 F wm_232 dX0_keep_39 ?_
  refine z_bipush (v := 24) F dX0_keep_42 (by decide +kernel) ?_
  refine z_icmp_ge (tgt := 60) F hf dX0_keep_44 (by decide) (fun hf => ?_) (fun hf => ?_)
  · refine z_aload_n F dX0_keep_60 1 rfl rfl ?_
    refine z_aload_n F dX0_keep_61 1 rfl rfl ?_
    refine gK_43_4 F wm_234 dX0_keep_62 ?_
    refine z_iconst (v := 1) F dX0_keep_65 (by decide +kernel) ?_
    refine z_iadd F dX0_keep_66 ?_
    refine z_bipush (v := 24) F dX0_keep_67 (by decide +kernel) ?_
    refine z_iremL F (by decide) dX0_keep_69 ?_
    refine pK_43_4 F hf wm_234 dX0_keep_70 (fun X_5 hf => ?_)
    exact z_vret F dX0_keep_73 (Option.some.inj hf)
  · refine z_aload_n F dX0_keep_47 1 rfl rfl ?_
    refine z_dup F dX0_keep_48 rfl ?_
    refine gK_43_3 F wm_232 dX0_keep_49 ?_
    refine z_iconst (v := 1) F dX0_keep_52 (by decide +kernel) ?_
    refine z_iadd F dX0_keep_53 ?_
    refine pK_43_3 F hf wm_232 dX0_keep_54 (fun X_6 hf => ?_)
    refine z_goto (tgt := 73) F dX0_keep_57 (by decide) ?_
    exact z_vret F dX0_keep_73 (Option.some.inj hf)
theorem c_X0_keep {D : va_G} {cI : ClassId} {ad : Nat → Nat} {R : KX} (X : KX) (a1 : Int32) (a2 : Int32) (a3 : Int32) (hf : f_X0_keep X a1 a2 a3 = some R) : zMV (yK D cI ad) yX0_keep cX0_keep 5 none 1 [.ref (ad 43), .int a1, .int a2, .int a3] X R := zMV_of (by decide +kernel) (Nat.le_of_ble_eq_true rfl) (fun z F => z_sub [0, 1, 2, 3] rfl (z_X0_keep F X a1 a2 a3 hf))
theorem k_X0_keep {z : ZC} {D : va_G} {cI : ClassId} {ad : Nat → Nat} {cc : ByteArray} {own : String} {nL d pc index : Nat} {ret : Option FieldType} {Q : State → Prop} {X : KX} {L : List (Nat × Value)} {rest : List Value} {a1 a2 a3 : Int32} (F : ZF z (yK D cI ad) cc own nL ret d) (hd : 1 + 1 ≤ d) (hw : Cond.methodLink own index yX0_keep ∈ wsA) (hst : (rest.map fun v => v.category).sum ≤ 8) {β : Type} {e : KX → Option β} {r : β} (hf : zB1 (f_X0_keep X a1 a2 a3) e = some r) (hdg : decode cc pc = .ok (.invokevirtual index, 3)) (kk : ∀ X2 : KX, e X2 = some r → Z z (yK D cI ad) nL Q X2 (pc + 3) L rest) : Z z (yK D cI ad) nL Q X pc L (.int a3 :: .int a2 :: .int a1 :: .ref (ad 43) :: rest) := by
  obtain ⟨v, h1, h2⟩ := zB1_some hf
  exact z_cVV (As := [.int a1, .int a2, .int a3]) F (c_X0_keep X a1 a2 a3 h1) kn_X0_keep kv_X0_keep hw (q0 := 43) rfl rfl hd rfl hst hdg rfl (kk v h2)
theorem kv_X2_receive : zKv yX2_receive := ⟨wm_463, wm_464⟩
theorem kn_X2_receive : zKn yX2_receive cX2_receive 2 none 1 := ⟨wm_465, wm_58, by decide +kernel, by decide⟩
set_option maxHeartbeats 4000000 in
set_option maxRecDepth 100000 in
theorem z_X2_receive {z : ZC} {D : va_G} {cI : ClassId} {ad : Nat → Nat} {R : KX} (F : ZF z (yK D cI ad) cX2_receive RX2 2 none 1) (X : KX) (a1 : Int32) (hf : f_X2_receive X a1 = some R) : Z z (yK D cI ad) 2 (zQV z (yK D cI ad) R) X 0 [(0, .ref (ad 7)), (1, .int a1)] [] := by
  unfold f_X2_receive at hf
  refine z_aload_n F dX2_receive_0 0 rfl rfl ?_
  refine z_iload_n F dX2_receive_1 1 rfl rfl ?_
  refine pK_7_14 F hf wm_172 dX2_receive_2 (fun X_1 hf => ?_)
  exact z_vret F dX2_receive_5 (Option.some.inj hf)
theorem c_X2_receive {D : va_G} {cI : ClassId} {ad : Nat → Nat} {R : KX} (X : KX) (a1 : Int32) (hf : f_X2_receive X a1 = some R) : zMV (yK D cI ad) yX2_receive cX2_receive 2 none 1 [.ref (ad 7), .int a1] X R := zMV_of (by decide +kernel) (Nat.le_of_ble_eq_true rfl) (fun z F => z_sub [0, 1] rfl (z_X2_receive F X a1 hf))
theorem k_X2_receive {z : ZC} {D : va_G} {cI : ClassId} {ad : Nat → Nat} {cc : ByteArray} {own : String} {nL d pc index : Nat} {ret : Option FieldType} {Q : State → Prop} {X : KX} {L : List (Nat × Value)} {rest : List Value} {a1 : Int32} (F : ZF z (yK D cI ad) cc own nL ret d) (hd : 1 + 1 ≤ d) (hw : Cond.methodLink own index yX2_receive ∈ wsA) (hst : (rest.map fun v => v.category).sum ≤ 8) {β : Type} {e : KX → Option β} {r : β} (hf : zB1 (f_X2_receive X a1) e = some r) (hdg : decode cc pc = .ok (.invokevirtual index, 3)) (kk : ∀ X2 : KX, e X2 = some r → Z z (yK D cI ad) nL Q X2 (pc + 3) L rest) : Z z (yK D cI ad) nL Q X pc L (.int a1 :: .ref (ad 7) :: rest) := by
  obtain ⟨v, h1, h2⟩ := zB1_some hf
  exact z_cVV (As := [.int a1]) F (c_X2_receive X a1 h1) kn_X2_receive kv_X2_receive hw (q0 := 7) rfl rfl hd rfl hst hdg rfl (kk v h2)
theorem kv_X6_invite : zKv yX6_invite := ⟨wm_442, wm_443⟩
theorem kn_X6_invite : zKn yX6_invite cX6_invite 2 (some .int) 1 := ⟨wm_444, wm_55, by decide +kernel, by decide⟩
set_option maxHeartbeats 4000000 in
set_option maxRecDepth 100000 in
theorem z_X6_invite {z : ZC} {D : va_G} {cI : ClassId} {ad : Nat → Nat} {R : Int32 × KX} (F : ZF z (yK D cI ad) cX6_invite RX6 2 (some .int) 3) (X : KX) (a1 : Int32) (hf : f_X6_invite X a1 = some R) : Z z (yK D cI ad) 2 (zQI z (yK D cI ad) R) X 0 [(0, .ref (ad 0)), (1, .int a1)] [] := by
  unfold f_X6_invite at hf
  refine z_aload_n F dX6_invite_0 0 rfl rfl ?_
  refine gK_0_2 F wm_276 dX6_invite_1 ?_
  refine z_iload_n F dX6_invite_4 1 rfl rfl ?_
  refine k_X2_isGuest F (by decide) wm_445 (Nat.le_of_ble_eq_true rfl) dX6_invite_5 ?_
  refine z_if_ne (tgt := 14) F hf dX6_invite_8 (by decide) (fun hf => ?_) (fun hf => ?_)
  · refine z_aload_n F dX6_invite_14 0 rfl rfl ?_
    refine gK_0_2 F wm_276 dX6_invite_15 ?_
    refine gK_7_14 F wm_173 dX6_invite_18 ?_
    refine z_iconst (v := (-1)) F dX6_invite_21 (by decide +kernel) ?_
    refine z_icmp_ne (tgt := 47) F hf dX6_invite_22 (by decide) (fun hf => ?_) (fun hf => ?_)
    · refine z_ldc F wm_457 dX6_invite_47 ?_
      exact z_iret F dX6_invite_49 (Option.some.inj hf)
    · refine z_aload_n F dX6_invite_25 0 rfl rfl ?_
      refine gK_0_2 F wm_276 dX6_invite_26 ?_
      refine z_iload_n F dX6_invite_29 1 rfl rfl ?_
      refine k_X2_stateOf F (by decide) wm_450 (Nat.le_of_ble_eq_true rfl) dX6_invite_30 ?_
      refine z_iconst (v := 2) F dX6_invite_33 (by decide +kernel) ?_
      refine z_icmp_eq (tgt := 47) F hf dX6_invite_34 (by decide) (fun hf => ?_) (fun hf => ?_)
      · refine z_ldc F wm_457 dX6_invite_47 ?_
        exact z_iret F dX6_invite_49 (Option.some.inj hf)
      · refine z_aload_n F dX6_invite_37 0 rfl rfl ?_
        refine gK_0_2 F wm_276 dX6_invite_38 ?_
        refine gK_7_18 F wm_180 dX6_invite_41 ?_
        refine z_if_eq (tgt := 50) F hf dX6_invite_44 (by decide) (fun hf => ?_) (fun hf => ?_)
        · refine z_aload_n F dX6_invite_50 0 rfl rfl ?_
          refine gK_0_6 F wm_280 dX6_invite_51 ?_
          refine z_iconst (v := 0) F dX6_invite_54 (by decide +kernel) ?_
          refine z_iload_n F dX6_invite_55 1 rfl rfl ?_
          refine z_iconst (v := 0) F dX6_invite_56 (by decide +kernel) ?_
          refine k_X0_keep F (by decide) wm_458 (Nat.le_of_ble_eq_true rfl) hf dX6_invite_57 (fun X_1 hf => ?_)
          refine z_aload_n F dX6_invite_60 0 rfl rfl ?_
          refine gK_0_2 F wm_276 dX6_invite_61 ?_
          refine z_iload_n F dX6_invite_64 1 rfl rfl ?_
          refine k_X2_receive F (by decide) wm_462 (Nat.le_of_ble_eq_true rfl) hf dX6_invite_65 (fun X_2 hf => ?_)
          refine z_aload_n F dX6_invite_68 0 rfl rfl ?_
          refine gK_0_2 F wm_276 dX6_invite_69 ?_
          refine gK_7_10 F wm_163 dX6_invite_72 ?_
          refine z_iload_n F dX6_invite_75 1 rfl rfl ?_
          refine lK_12 F hf dX6_invite_76 (fun hf => ?_)
          exact z_iret F dX6_invite_77 (Option.some.inj hf)
        · refine z_ldc F wm_457 dX6_invite_47 ?_
          exact z_iret F dX6_invite_49 (Option.some.inj hf)
  · refine z_ldc F wm_315 dX6_invite_11 ?_
    exact z_iret F dX6_invite_13 (Option.some.inj hf)
theorem c_X6_invite {D : va_G} {cI : ClassId} {ad : Nat → Nat} {R : Int32 × KX} (X : KX) (a1 : Int32) (hf : f_X6_invite X a1 = some R) : zMI (yK D cI ad) yX6_invite cX6_invite 2 (some .int) 3 [.ref (ad 0), .int a1] X R := zMI_of (by decide +kernel) (Nat.le_of_ble_eq_true rfl) (fun z F => z_sub [0, 1] rfl (z_X6_invite F X a1 hf))
theorem k_X6_invite {z : ZC} {D : va_G} {cI : ClassId} {ad : Nat → Nat} {cc : ByteArray} {own : String} {nL d pc index : Nat} {ret : Option FieldType} {Q : State → Prop} {X : KX} {L : List (Nat × Value)} {rest : List Value} {a1 : Int32} (F : ZF z (yK D cI ad) cc own nL ret d) (hd : 3 + 1 ≤ d) (hw : Cond.methodLink own index yX6_invite ∈ wsA) (hst : (rest.map fun v => v.category).sum ≤ 8) {β : Type} {e : Int32 → KX → Option β} {r : β} (hf : zB2 (f_X6_invite X a1) e = some r) (hdg : decode cc pc = .ok (.invokevirtual index, 3)) (kk : ∀ (v : Int32) (X2 : KX), e v X2 = some r → Z z (yK D cI ad) nL Q X2 (pc + 3) L (.int v :: rest)) : Z z (yK D cI ad) nL Q X pc L (.int a1 :: .ref (ad 0) :: rest) := by
  obtain ⟨v, X2, h1, h2⟩ := zB2_some hf
  exact z_cVI (As := [.int a1]) F (c_X6_invite X a1 h1) kn_X6_invite kv_X6_invite hw (q0 := 0) rfl rfl hd rfl hst hdg rfl (kk v X2 h2)
theorem kv_X2_isHint : zKv yX2_isHint := ⟨wm_471, wm_472⟩
theorem kn_X2_isHint : zKn yX2_isHint cX2_isHint 2 (some .boolean) 1 := ⟨wm_473, wm_58, by decide +kernel, by decide⟩
set_option maxHeartbeats 4000000 in
set_option maxRecDepth 100000 in
theorem z_X2_isHint {z : ZC} {D : va_G} {cI : ClassId} {ad : Nat → Nat} {r : Int32} (F : ZF z (yK D cI ad) cX2_isHint RX2 2 (some .boolean) 2) (X : KX) (a1 : Int32) (hf : f_X2_isHint X a1 = r) : Z z (yK D cI ad) 2 (zQI z (yK D cI ad) (r, X)) X 0 [(0, .ref (ad 7)), (1, .int a1)] [] := by
  unfold f_X2_isHint at hf
  refine z_iload_n F dX2_isHint_0 1 rfl rfl ?_
  refine z_aload_n F dX2_isHint_1 0 rfl rfl ?_
  refine gK_7_4 F wm_135 dX2_isHint_2 ?_
  refine k_X6_isBelowN F (by decide) (fun _ h => h.1) (Nat.le_of_ble_eq_true rfl) dX2_isHint_5 ?_
  exact z_zret F (bz_X6_isBelow _ _) dX2_isHint_8 (Prod.ext hf rfl)
theorem c_X2_isHint {D : va_G} {cI : ClassId} {ad : Nat → Nat} (X : KX) (a1 : Int32) : zMI (yK D cI ad) yX2_isHint cX2_isHint 2 (some .boolean) 2 [.ref (ad 7), .int a1] X (f_X2_isHint X a1, X) := zMI_of (by decide +kernel) (Nat.le_of_ble_eq_true rfl) (fun z F => z_sub [0, 1] rfl (z_X2_isHint F X a1 rfl))
theorem k_X2_isHint {z : ZC} {D : va_G} {cI : ClassId} {ad : Nat → Nat} {cc : ByteArray} {own : String} {nL d pc index : Nat} {ret : Option FieldType} {Q : State → Prop} {X : KX} {L : List (Nat × Value)} {rest : List Value} {a1 : Int32} (F : ZF z (yK D cI ad) cc own nL ret d) (hd : 2 + 1 ≤ d) (hw : Cond.methodLink own index yX2_isHint ∈ wsA) (hst : (rest.map fun v => v.category).sum ≤ 8) (hdg : decode cc pc = .ok (.invokevirtual index, 3)) (kk : Z z (yK D cI ad) nL Q X (pc + 3) L (.int (f_X2_isHint X a1) :: rest)) : Z z (yK D cI ad) nL Q X pc L (.int a1 :: .ref (ad 7) :: rest) := z_cVI (As := [.int a1]) F (c_X2_isHint X a1) kn_X2_isHint kv_X2_isHint hw (q0 := 7) rfl rfl hd rfl hst hdg rfl kk
theorem bz_X2_isHint (X : KX) (a1 : Int32) : f_X2_isHint X a1 = 0 ∨ f_X2_isHint X a1 = 1 := by
  unfold f_X2_isHint
  repeat' split
  all_goals first | exact Or.inl rfl | exact Or.inr rfl | exact bz_X6_isBelow _ _ | exact bz_X5_isFigure _ | exact bz_X2_isGuest _ _ | exact bz_X6_has _ _
theorem kv_J6_bitCount_0f7a4 : Cond.static yJ6_bitCount_0f7a4 ∈ wsA := wm_476
theorem kn_J6_bitCount_0f7a4 : zKn yJ6_bitCount_0f7a4 cJ6_bitCount_0f7a4 1 (some .int) 1 := ⟨wm_477, wm_64, by decide +kernel, by decide⟩
set_option maxHeartbeats 4000000 in
set_option maxRecDepth 100000 in
theorem z_J6_bitCount_0f7a4 {z : ZC} {D : va_G} {cI : ClassId} {ad : Nat → Nat} {r : Int32} (F : ZF z (yK D cI ad) cJ6_bitCount_0f7a4 RJ6 1 (some .int) 1) {X : KX} (a0 : Int32) (hf : f_J6_bitCount_0f7a4 a0 = r) : Z z (yK D cI ad) 1 (zQI z (yK D cI ad) (r, X)) X 0 [(0, .int a0)] [] := by
  unfold f_J6_bitCount_0f7a4 at hf
  refine z_iload_n F dJ6_bitCount_0f7a4_0 0 rfl rfl ?_
  refine z_iload_n F dJ6_bitCount_0f7a4_1 0 rfl rfl ?_
  refine z_iconst (v := 1) F dJ6_bitCount_0f7a4_2 (by decide +kernel) ?_
  refine z_iushr F dJ6_bitCount_0f7a4_3 ?_
  refine z_ldcw F wm_478 dJ6_bitCount_0f7a4_4 ?_
  refine z_iand F dJ6_bitCount_0f7a4_7 ?_
  refine z_isub F dJ6_bitCount_0f7a4_8 ?_
  refine z_top hf (fun v0_1 hf => ?_)
  refine z_istore_n (L' := [(0, .int v0_1)]) F dJ6_bitCount_0f7a4_9 rfl (Nat.le_of_ble_eq_true rfl) rfl ?_
  refine z_iload_n F dJ6_bitCount_0f7a4_10 0 rfl rfl ?_
  refine z_ldcw F wm_479 dJ6_bitCount_0f7a4_11 ?_
  refine z_iand F dJ6_bitCount_0f7a4_14 ?_
  refine z_iload_n F dJ6_bitCount_0f7a4_15 0 rfl rfl ?_
  refine z_iconst (v := 2) F dJ6_bitCount_0f7a4_16 (by decide +kernel) ?_
  refine z_iushr F dJ6_bitCount_0f7a4_17 ?_
  refine z_ldcw F wm_479 dJ6_bitCount_0f7a4_18 ?_
  refine z_iand F dJ6_bitCount_0f7a4_21 ?_
  refine z_iadd F dJ6_bitCount_0f7a4_22 ?_
  refine z_top hf (fun v0_2 hf => ?_)
  refine z_istore_n (L' := [(0, .int v0_2)]) F dJ6_bitCount_0f7a4_23 rfl (Nat.le_of_ble_eq_true rfl) rfl ?_
  refine z_iload_n F dJ6_bitCount_0f7a4_24 0 rfl rfl ?_
  refine z_iload_n F dJ6_bitCount_0f7a4_25 0 rfl rfl ?_
  refine z_iconst (v := 4) F dJ6_bitCount_0f7a4_26 (by decide +kernel) ?_
  refine z_iushr F dJ6_bitCount_0f7a4_27 ?_
  refine z_iadd F dJ6_bitCount_0f7a4_28 ?_
  refine z_ldcw F wm_480 dJ6_bitCount_0f7a4_29 ?_
  refine z_iand F dJ6_bitCount_0f7a4_32 ?_
  refine z_top hf (fun v0_3 hf => ?_)
  refine z_istore_n (L' := [(0, .int v0_3)]) F dJ6_bitCount_0f7a4_33 rfl (Nat.le_of_ble_eq_true rfl) rfl ?_
  refine z_iload_n F dJ6_bitCount_0f7a4_34 0 rfl rfl ?_
  refine z_iload_n F dJ6_bitCount_0f7a4_35 0 rfl rfl ?_
  refine z_bipush (v := 8) F dJ6_bitCount_0f7a4_36 (by decide +kernel) ?_
  refine z_iushr F dJ6_bitCount_0f7a4_38 ?_
  refine z_iadd F dJ6_bitCount_0f7a4_39 ?_
  refine z_top hf (fun v0_4 hf => ?_)
  refine z_istore_n (L' := [(0, .int v0_4)]) F dJ6_bitCount_0f7a4_40 rfl (Nat.le_of_ble_eq_true rfl) rfl ?_
  refine z_iload_n F dJ6_bitCount_0f7a4_41 0 rfl rfl ?_
  refine z_iload_n F dJ6_bitCount_0f7a4_42 0 rfl rfl ?_
  refine z_bipush (v := 16) F dJ6_bitCount_0f7a4_43 (by decide +kernel) ?_
  refine z_iushr F dJ6_bitCount_0f7a4_45 ?_
  refine z_iadd F dJ6_bitCount_0f7a4_46 ?_
  refine z_top hf (fun v0_5 hf => ?_)
  refine z_istore_n (L' := [(0, .int v0_5)]) F dJ6_bitCount_0f7a4_47 rfl (Nat.le_of_ble_eq_true rfl) rfl ?_
  refine z_iload_n F dJ6_bitCount_0f7a4_48 0 rfl rfl ?_
  refine z_bipush (v := 63) F dJ6_bitCount_0f7a4_49 (by decide +kernel) ?_
  refine z_iand F dJ6_bitCount_0f7a4_51 ?_
  exact z_iret F dJ6_bitCount_0f7a4_52 (Prod.ext hf rfl)
theorem c_J6_bitCount_0f7a4 {D : va_G} {cI : ClassId} {ad : Nat → Nat} (X : KX) (a0 : Int32) : zMI (yK D cI ad) yJ6_bitCount_0f7a4 cJ6_bitCount_0f7a4 1 (some .int) 1 [.int a0] X (f_J6_bitCount_0f7a4 a0, X) := zMI_of (by decide +kernel) (Nat.le_of_ble_eq_true rfl) (fun z F => z_sub [0] rfl (z_J6_bitCount_0f7a4 F a0 rfl))
theorem k_J6_bitCount_0f7a4 {z : ZC} {D : va_G} {cI : ClassId} {ad : Nat → Nat} {cc : ByteArray} {own : String} {nL d pc index : Nat} {ret : Option FieldType} {Q : State → Prop} {X : KX} {L : List (Nat × Value)} {rest : List Value} {a0 : Int32} (F : ZF z (yK D cI ad) cc own nL ret d) (hd : 1 + 1 ≤ d) (hw : Cond.methodLink own index yJ6_bitCount_0f7a4 ∈ wsA) (hst : (rest.map fun v => v.category).sum ≤ 8) (hdg : decode cc pc = .ok (.invokestatic index, 3)) (kk : Z z (yK D cI ad) nL Q X (pc + 3) L (.int (f_J6_bitCount_0f7a4 a0) :: rest)) : Z z (yK D cI ad) nL Q X pc L (.int a0 :: rest) := z_cSI (As := [.int a0]) F (c_J6_bitCount_0f7a4 X a0) kn_J6_bitCount_0f7a4 kv_J6_bitCount_0f7a4 hw hd rfl hst hdg rfl kk
theorem k_J6_bitCount_0f7a4N {z : ZC} {D : va_G} {cI : ClassId} {ad : Nat → Nat} {cc : ByteArray} {own : String} {nL d pc index : Nat} {ret : Option FieldType} {Q : State → Prop} {X : KX} {L : List (Nat × Value)} {rest : List Value} {a0 : Int32} (F : ZF z (yK D cI ad) cc own nL ret d) (hd : 1 + 1 ≤ d) (hw : ∀ s, zN s → va_Nw (.methodLinkNest own index yJ6_bitCount_0f7a4 "AilingKing") s) (hst : (rest.map fun v => v.category).sum ≤ 8) (hdg : decode cc pc = .ok (.invokestatic index, 3)) (kk : Z z (yK D cI ad) nL Q X (pc + 3) L (.int (f_J6_bitCount_0f7a4 a0) :: rest)) : Z z (yK D cI ad) nL Q X pc L (.int a0 :: rest) := z_cNI (As := [.int a0]) F (c_J6_bitCount_0f7a4 X a0) kn_J6_bitCount_0f7a4 kv_J6_bitCount_0f7a4 hw hd rfl hst hdg rfl kk
theorem kv_X2_forth : zKv yX2_forth := ⟨wm_490, wm_491⟩
theorem kn_X2_forth : zKn yX2_forth cX2_forth 3 (some .int) 2 := ⟨wm_492, wm_58, by decide +kernel, by decide⟩
set_option maxHeartbeats 4000000 in
set_option maxRecDepth 100000 in
theorem z_X2_forth {z : ZC} {D : va_G} {cI : ClassId} {ad : Nat → Nat} {r : Int32} (F : ZF z (yK D cI ad) cX2_forth RX2 3 (some .int) 1) (X : KX) (a1 : Int32) (a2 : Int32) (hf : f_X2_forth X a1 a2 = some r) : Z z (yK D cI ad) 3 (zQI z (yK D cI ad) (r, X)) X 0 [(0, .ref (ad 7)), (1, .int a1), (2, .int a2)] [] := by
  unfold f_X2_forth at hf
  refine z_aload_n F dX2_forth_0 0 rfl rfl ?_
  refine gK_7_6 F wm_143 dX2_forth_1 ?_
  refine z_iload_n F dX2_forth_4 1 rfl rfl ?_
  refine lK_8 F hf dX2_forth_5 (fun hf => ?_)
  refine z_top hf (fun w_1 hf => ?_)
  refine zIte hf (fun c0 hf => ?_) (fun c0 hf => ?_)
  · refine z_swIn (v := 2) (off := 26) (tgt := 32) F c0 dX2_forth_6 (by decide +kernel) ?_
    refine z_iconst (v := 1) F dX2_forth_32 (by decide +kernel) ?_
    refine z_aload_n F dX2_forth_33 0 rfl rfl ?_
    refine gK_7_7 F wm_147 dX2_forth_34 ?_
    refine z_iload_n F dX2_forth_37 1 rfl rfl ?_
    refine lK_9 F hf dX2_forth_38 (fun hf => ?_)
    refine z_ishl F dX2_forth_39 ?_
    refine z_iconst (v := 1) F dX2_forth_40 (by decide +kernel) ?_
    refine z_aload_n F dX2_forth_41 0 rfl rfl ?_
    refine gK_7_7 F wm_147 dX2_forth_42 ?_
    refine z_iload_n F dX2_forth_45 1 rfl rfl ?_
    refine lK_9 F hf dX2_forth_46 (fun hf => ?_)
    refine z_ishl F dX2_forth_47 ?_
    refine z_iconst (v := 1) F dX2_forth_48 (by decide +kernel) ?_
    refine z_ishr F dX2_forth_49 ?_
    refine z_ior F dX2_forth_50 ?_
    exact z_iret F dX2_forth_51 (Prod.ext (Option.some.inj hf) rfl)
  · refine zIte hf (fun c1 hf => ?_) (fun c1 hf => ?_)
    · refine z_swIn (v := 3) (off := 46) (tgt := 52) F c1 dX2_forth_6 (by decide +kernel) ?_
      refine z_iload_n F dX2_forth_52 2 rfl rfl ?_
      refine z_iconst (v := 2) F dX2_forth_53 (by decide +kernel) ?_
      refine z_icmp_ge (tgt := 68) F hf dX2_forth_54 (by decide) (fun hf => ?_) (fun hf => ?_)
      · refine z_iconst (v := 0) F dX2_forth_68 (by decide +kernel) ?_
        exact z_iret F dX2_forth_69 (Prod.ext (Option.some.inj hf) rfl)
      · refine z_iconst (v := 1) F dX2_forth_57 (by decide +kernel) ?_
        refine z_aload_n F dX2_forth_58 0 rfl rfl ?_
        refine gK_7_7 F wm_147 dX2_forth_59 ?_
        refine z_iload_n F dX2_forth_62 1 rfl rfl ?_
        refine lK_9 F hf dX2_forth_63 (fun hf => ?_)
        refine z_ishl F dX2_forth_64 ?_
        refine z_goto (tgt := 69) F dX2_forth_65 (by decide) ?_
        exact z_iret F dX2_forth_69 (Prod.ext (Option.some.inj hf) rfl)
    · refine zIte hf (fun c2 hf => ?_) (fun c2 hf => ?_)
      · refine z_swIn (v := 4) (off := 64) (tgt := 70) F c2 dX2_forth_6 (by decide +kernel) ?_
        refine z_iconst (v := 0) F dX2_forth_70 (by decide +kernel) ?_
        exact z_iret F dX2_forth_71 (Prod.ext (Option.some.inj hf) rfl)
      · refine z_swOut (tgt := 72) F dX2_forth_6 (by have e0 := lv_neT c0 (show (2 : Int32).toInt = 2 by decide +kernel); have e1 := lv_neT c1 (show (3 : Int32).toInt = 3 by decide +kernel); have e2 := lv_neT c2 (show (4 : Int32).toInt = 4 by decide +kernel); omega) (by decide) ?_
        refine z_iconst (v := 1) F dX2_forth_72 (by decide +kernel) ?_
        refine z_aload_n F dX2_forth_73 0 rfl rfl ?_
        refine gK_7_7 F wm_147 dX2_forth_74 ?_
        refine z_iload_n F dX2_forth_77 1 rfl rfl ?_
        refine lK_9 F hf dX2_forth_78 (fun hf => ?_)
        refine z_ishl F dX2_forth_79 ?_
        exact z_iret F dX2_forth_80 (Prod.ext (Option.some.inj hf) rfl)
theorem c_X2_forth {D : va_G} {cI : ClassId} {ad : Nat → Nat} {r : Int32} (X : KX) (a1 : Int32) (a2 : Int32) (hf : f_X2_forth X a1 a2 = some r) : zMI (yK D cI ad) yX2_forth cX2_forth 3 (some .int) 1 [.ref (ad 7), .int a1, .int a2] X (r, X) := zMI_of (by decide +kernel) (Nat.le_of_ble_eq_true rfl) (fun z F => z_sub [0, 1, 2] rfl (z_X2_forth F X a1 a2 hf))
theorem k_X2_forth {z : ZC} {D : va_G} {cI : ClassId} {ad : Nat → Nat} {cc : ByteArray} {own : String} {nL d pc index : Nat} {ret : Option FieldType} {Q : State → Prop} {X : KX} {L : List (Nat × Value)} {rest : List Value} {a1 a2 : Int32} (F : ZF z (yK D cI ad) cc own nL ret d) (hd : 1 + 1 ≤ d) (hw : Cond.methodLink own index yX2_forth ∈ wsA) (hst : (rest.map fun v => v.category).sum ≤ 8) {β : Type} {e : Int32 → Option β} {r : β} (hf : zB1 (f_X2_forth X a1 a2) e = some r) (hdg : decode cc pc = .ok (.invokevirtual index, 3)) (kk : ∀ v : Int32, e v = some r → Z z (yK D cI ad) nL Q X (pc + 3) L (.int v :: rest)) : Z z (yK D cI ad) nL Q X pc L (.int a2 :: .int a1 :: .ref (ad 7) :: rest) := by
  obtain ⟨v, h1, h2⟩ := zB1_some hf
  exact z_cVI (As := [.int a1, .int a2]) F (c_X2_forth X a1 a2 h1) kn_X2_forth kv_X2_forth hw (q0 := 7) rfl rfl hd rfl hst hdg rfl (kk v h2)
theorem kv_X2_back : zKv yX2_back := ⟨wm_494, wm_495⟩
theorem kn_X2_back : zKn yX2_back cX2_back 2 (some .int) 1 := ⟨wm_496, wm_58, by decide +kernel, by decide⟩
set_option maxHeartbeats 4000000 in
set_option maxRecDepth 100000 in
theorem z_X2_back_20 {z : ZC} {D : va_G} {cI : ClassId} {ad : Nat → Nat} {r : Int32} (F : ZF z (yK D cI ad) cX2_back RX2 2 (some .int) 1) (X : KX) (v1 : Int32) (hf : f_X2_back_20 X v1 = some r) : Z z (yK D cI ad) 2 (zQI z (yK D cI ad) (r, X)) X 20 [(0, .ref (ad 7)), (1, .int v1)] [] := by
  unfold f_X2_back_20 at hf
  refine z_iconst (v := 1) F dX2_back_20 (by decide +kernel) ?_
  refine z_aload_n F dX2_back_21 0 rfl rfl ?_
  refine gK_7_8 F wm_152 dX2_back_22 ?_
  refine z_iload_n F dX2_back_25 1 rfl rfl ?_
  refine lK_10 F hf dX2_back_26 (fun hf => ?_)
  refine z_ishl F dX2_back_27 ?_
  refine z_goto (tgt := 32) F dX2_back_28 (by decide) ?_
  exact z_iret F dX2_back_32 (Prod.ext (Option.some.inj hf) rfl)
set_option maxHeartbeats 4000000 in
set_option maxRecDepth 100000 in
theorem z_X2_back {z : ZC} {D : va_G} {cI : ClassId} {ad : Nat → Nat} {r : Int32} (F : ZF z (yK D cI ad) cX2_back RX2 2 (some .int) 1) (X : KX) (a1 : Int32) (hf : f_X2_back X a1 = some r) : Z z (yK D cI ad) 2 (zQI z (yK D cI ad) (r, X)) X 0 [(0, .ref (ad 7)), (1, .int a1)] [] := by
  unfold f_X2_back at hf
  refine z_aload_n F dX2_back_0 0 rfl rfl ?_
  refine gK_7_6 F wm_143 dX2_back_1 ?_
  refine z_iload_n F dX2_back_4 1 rfl rfl ?_
  refine lK_8 F hf dX2_back_5 (fun hf => ?_)
  refine z_iconst (v := 4) F dX2_back_6 (by decide +kernel) ?_
  refine z_icmp_eq (tgt := 20) F hf dX2_back_7 (by decide) (fun hf => ?_) (fun hf => ?_)
  · exact z_sub [0, 1] rfl (z_X2_back_20 F X a1 hf)
  · refine z_aload_n F dX2_back_10 0 rfl rfl ?_
    refine gK_7_6 F wm_143 dX2_back_11 ?_
    refine z_iload_n F dX2_back_14 1 rfl rfl ?_
    refine lK_8 F hf dX2_back_15 (fun hf => ?_)
    refine z_iconst (v := 5) F dX2_back_16 (by decide +kernel) ?_
    refine z_icmp_ne (tgt := 31) F hf dX2_back_17 (by decide) (fun hf => ?_) (fun hf => ?_)
    · refine z_iconst (v := 0) F dX2_back_31 (by decide +kernel) ?_
      exact z_iret F dX2_back_32 (Prod.ext (Option.some.inj hf) rfl)
    · exact z_sub [0, 1] rfl (z_X2_back_20 F X a1 hf)
theorem c_X2_back {D : va_G} {cI : ClassId} {ad : Nat → Nat} {r : Int32} (X : KX) (a1 : Int32) (hf : f_X2_back X a1 = some r) : zMI (yK D cI ad) yX2_back cX2_back 2 (some .int) 1 [.ref (ad 7), .int a1] X (r, X) := zMI_of (by decide +kernel) (Nat.le_of_ble_eq_true rfl) (fun z F => z_sub [0, 1] rfl (z_X2_back F X a1 hf))
theorem k_X2_back {z : ZC} {D : va_G} {cI : ClassId} {ad : Nat → Nat} {cc : ByteArray} {own : String} {nL d pc index : Nat} {ret : Option FieldType} {Q : State → Prop} {X : KX} {L : List (Nat × Value)} {rest : List Value} {a1 : Int32} (F : ZF z (yK D cI ad) cc own nL ret d) (hd : 1 + 1 ≤ d) (hw : Cond.methodLink own index yX2_back ∈ wsA) (hst : (rest.map fun v => v.category).sum ≤ 8) {β : Type} {e : Int32 → Option β} {r : β} (hf : zB1 (f_X2_back X a1) e = some r) (hdg : decode cc pc = .ok (.invokevirtual index, 3)) (kk : ∀ v : Int32, e v = some r → Z z (yK D cI ad) nL Q X (pc + 3) L (.int v :: rest)) : Z z (yK D cI ad) nL Q X pc L (.int a1 :: .ref (ad 7) :: rest) := by
  obtain ⟨v, h1, h2⟩ := zB1_some hf
  exact z_cVI (As := [.int a1]) F (c_X2_back X a1 h1) kn_X2_back kv_X2_back hw (q0 := 7) rfl rfl hd rfl hst hdg rfl (kk v h2)
theorem kv_X2_ledFrom : zKv yX2_ledFrom := ⟨wm_486, wm_487⟩
theorem kn_X2_ledFrom : zKn yX2_ledFrom cX2_ledFrom 4 (some .int) 3 := ⟨wm_488, wm_58, by decide +kernel, by decide⟩
set_option maxHeartbeats 4000000 in
set_option maxRecDepth 100000 in
theorem z_X2_ledFrom {z : ZC} {D : va_G} {cI : ClassId} {ad : Nat → Nat} {r : Int32} (F : ZF z (yK D cI ad) cX2_ledFrom RX2 4 (some .int) 2) (X : KX) (a1 : Int32) (a2 : Int32) (a3 : Int32) (hf : f_X2_ledFrom X a1 a2 a3 = some r) : Z z (yK D cI ad) 4 (zQI z (yK D cI ad) (r, X)) X 0 [(0, .ref (ad 7)), (1, .int a1), (2, .int a2), (3, .int a3)] [] := by
  unfold f_X2_ledFrom at hf
  refine z_aload_n F dX2_ledFrom_0 0 rfl rfl ?_
  refine z_iload_n F dX2_ledFrom_1 2 rfl rfl ?_
  refine z_iload_n F dX2_ledFrom_2 3 rfl rfl ?_
  refine k_X2_forth F (by decide) wm_489 (Nat.le_of_ble_eq_true rfl) hf dX2_ledFrom_3 (fun r_1 hf => ?_)
  refine z_iload_n F dX2_ledFrom_6 1 rfl rfl ?_
  refine k_X6_hasN F (by decide) (fun _ h => h.2.1) (Nat.le_of_ble_eq_true rfl) dX2_ledFrom_7 ?_
  refine z_if_eq (tgt := 20) F hf dX2_ledFrom_10 (by decide) (fun hf => ?_) (fun hf => ?_)
  · refine z_aload_n F dX2_ledFrom_20 0 rfl rfl ?_
    refine z_iload_n F dX2_ledFrom_21 2 rfl rfl ?_
    refine k_X2_back F (by decide) wm_493 (Nat.le_of_ble_eq_true rfl) hf dX2_ledFrom_22 (fun r_2 hf => ?_)
    refine z_iload_n F dX2_ledFrom_25 1 rfl rfl ?_
    refine k_X6_hasN F (by decide) (fun _ h => h.2.1) (Nat.le_of_ble_eq_true rfl) dX2_ledFrom_26 ?_
    refine z_if_eq (tgt := 41) F hf dX2_ledFrom_29 (by decide) (fun hf => ?_) (fun hf => ?_)
    · refine z_iload_n F dX2_ledFrom_41 1 rfl rfl ?_
      exact z_iret F dX2_ledFrom_42 (Prod.ext (Option.some.inj hf) rfl)
    · refine z_aload_n F dX2_ledFrom_32 0 rfl rfl ?_
      refine gK_7_7 F wm_147 dX2_ledFrom_33 ?_
      refine z_iload_n F dX2_ledFrom_36 2 rfl rfl ?_
      refine lK_9 F hf dX2_ledFrom_37 (fun hf => ?_)
      refine z_goto (tgt := 42) F dX2_ledFrom_38 (by decide) ?_
      exact z_iret F dX2_ledFrom_42 (Prod.ext (Option.some.inj hf) rfl)
  · refine z_aload_n F dX2_ledFrom_13 0 rfl rfl ?_
    refine gK_7_8 F wm_152 dX2_ledFrom_14 ?_
    refine z_iload_n F dX2_ledFrom_17 2 rfl rfl ?_
    refine lK_10 F hf dX2_ledFrom_18 (fun hf => ?_)
    exact z_iret F dX2_ledFrom_19 (Prod.ext (Option.some.inj hf) rfl)
theorem c_X2_ledFrom {D : va_G} {cI : ClassId} {ad : Nat → Nat} {r : Int32} (X : KX) (a1 : Int32) (a2 : Int32) (a3 : Int32) (hf : f_X2_ledFrom X a1 a2 a3 = some r) : zMI (yK D cI ad) yX2_ledFrom cX2_ledFrom 4 (some .int) 2 [.ref (ad 7), .int a1, .int a2, .int a3] X (r, X) := zMI_of (by decide +kernel) (Nat.le_of_ble_eq_true rfl) (fun z F => z_sub [0, 1, 2, 3] rfl (z_X2_ledFrom F X a1 a2 a3 hf))
theorem k_X2_ledFrom {z : ZC} {D : va_G} {cI : ClassId} {ad : Nat → Nat} {cc : ByteArray} {own : String} {nL d pc index : Nat} {ret : Option FieldType} {Q : State → Prop} {X : KX} {L : List (Nat × Value)} {rest : List Value} {a1 a2 a3 : Int32} (F : ZF z (yK D cI ad) cc own nL ret d) (hd : 2 + 1 ≤ d) (hw : Cond.methodLink own index yX2_ledFrom ∈ wsA) (hst : (rest.map fun v => v.category).sum ≤ 8) {β : Type} {e : Int32 → Option β} {r : β} (hf : zB1 (f_X2_ledFrom X a1 a2 a3) e = some r) (hdg : decode cc pc = .ok (.invokevirtual index, 3)) (kk : ∀ v : Int32, e v = some r → Z z (yK D cI ad) nL Q X (pc + 3) L (.int v :: rest)) : Z z (yK D cI ad) nL Q X pc L (.int a3 :: .int a2 :: .int a1 :: .ref (ad 7) :: rest) := by
  obtain ⟨v, h1, h2⟩ := zB1_some hf
  exact z_cVI (As := [.int a1, .int a2, .int a3]) F (c_X2_ledFrom X a1 a2 a3 h1) kn_X2_ledFrom kv_X2_ledFrom hw (q0 := 7) rfl rfl hd rfl hst hdg rfl (kk v h2)
theorem kv_X2_reveal : zKv yX2_reveal := ⟨wm_482, wm_483⟩
theorem kn_X2_reveal : zKn yX2_reveal cX2_reveal 2 none 1 := ⟨wm_484, wm_58, by decide +kernel, by decide⟩
set_option maxHeartbeats 4000000 in
set_option maxRecDepth 100000 in
theorem z_X2_reveal {z : ZC} {D : va_G} {cI : ClassId} {ad : Nat → Nat} {R : KX} (F : ZF z (yK D cI ad) cX2_reveal RX2 2 none 3) (X : KX) (a1 : Int32) (hf : f_X2_reveal X a1 = some R) : Z z (yK D cI ad) 2 (zQV z (yK D cI ad) R) X 0 [(0, .ref (ad 7)), (1, .int a1)] [] := by
  unfold f_X2_reveal at hf
  refine z_aload_n F dX2_reveal_0 0 rfl rfl ?_
  refine gK_7_10 F wm_160 dX2_reveal_1 ?_
  refine z_aload_n F dX2_reveal_4 0 rfl rfl ?_
  refine gK_7_14 F wm_172 dX2_reveal_5 ?_
  refine z_aload_n F dX2_reveal_8 0 rfl rfl ?_
  refine z_aload_n F dX2_reveal_9 0 rfl rfl ?_
  refine gK_7_10 F wm_160 dX2_reveal_10 ?_
  refine z_aload_n F dX2_reveal_13 0 rfl rfl ?_
  refine gK_7_14 F wm_172 dX2_reveal_14 ?_
  refine lK_12 F hf dX2_reveal_17 (fun hf => ?_)
  refine z_iload_n F dX2_reveal_18 1 rfl rfl ?_
  refine z_aload_n F dX2_reveal_19 0 rfl rfl ?_
  refine gK_7_9 F wm_156 dX2_reveal_20 ?_
  refine z_iload_n F dX2_reveal_23 1 rfl rfl ?_
  refine lK_11 F hf dX2_reveal_24 (fun hf => ?_)
  refine k_X2_ledFrom F (by decide) wm_485 (Nat.le_of_ble_eq_true rfl) hf dX2_reveal_25 (fun r_1 hf => ?_)
  refine sK_12 F hf dX2_reveal_28 (fun X_2 hf => ?_)
  refine z_aload_n F dX2_reveal_29 0 rfl rfl ?_
  refine gK_7_9 F wm_156 dX2_reveal_30 ?_
  refine z_iload_n F dX2_reveal_33 1 rfl rfl ?_
  refine z_dup2 F dX2_reveal_34 rfl rfl ?_
  refine lK_11 F hf dX2_reveal_35 (fun hf => ?_)
  refine z_iconst (v := 1) F dX2_reveal_36 (by decide +kernel) ?_
  refine z_iadd F dX2_reveal_37 ?_
  refine sK_11 F hf dX2_reveal_38 (fun X_3 hf => ?_)
  refine z_aload_n F dX2_reveal_39 0 rfl rfl ?_
  refine z_dup F dX2_reveal_40 rfl ?_
  refine gK_7_16 F wm_175 dX2_reveal_41 ?_
  refine z_iconst (v := 1) F dX2_reveal_44 (by decide +kernel) ?_
  refine z_iload_n F dX2_reveal_45 1 rfl rfl ?_
  refine z_ishl F dX2_reveal_46 ?_
  refine z_ior F dX2_reveal_47 ?_
  refine pK_7_16 F hf wm_175 dX2_reveal_48 (fun X_4 hf => ?_)
  exact z_vret F dX2_reveal_51 (Option.some.inj hf)
theorem c_X2_reveal {D : va_G} {cI : ClassId} {ad : Nat → Nat} {R : KX} (X : KX) (a1 : Int32) (hf : f_X2_reveal X a1 = some R) : zMV (yK D cI ad) yX2_reveal cX2_reveal 2 none 3 [.ref (ad 7), .int a1] X R := zMV_of (by decide +kernel) (Nat.le_of_ble_eq_true rfl) (fun z F => z_sub [0, 1] rfl (z_X2_reveal F X a1 hf))
theorem k_X2_reveal {z : ZC} {D : va_G} {cI : ClassId} {ad : Nat → Nat} {cc : ByteArray} {own : String} {nL d pc index : Nat} {ret : Option FieldType} {Q : State → Prop} {X : KX} {L : List (Nat × Value)} {rest : List Value} {a1 : Int32} (F : ZF z (yK D cI ad) cc own nL ret d) (hd : 3 + 1 ≤ d) (hw : Cond.methodLink own index yX2_reveal ∈ wsA) (hst : (rest.map fun v => v.category).sum ≤ 8) {β : Type} {e : KX → Option β} {r : β} (hf : zB1 (f_X2_reveal X a1) e = some r) (hdg : decode cc pc = .ok (.invokevirtual index, 3)) (kk : ∀ X2 : KX, e X2 = some r → Z z (yK D cI ad) nL Q X2 (pc + 3) L rest) : Z z (yK D cI ad) nL Q X pc L (.int a1 :: .ref (ad 7) :: rest) := by
  obtain ⟨v, h1, h2⟩ := zB1_some hf
  exact z_cVV (As := [.int a1]) F (c_X2_reveal X a1 h1) kn_X2_reveal kv_X2_reveal hw (q0 := 7) rfl rfl hd rfl hst hdg rfl (kk v h2)
theorem kv_X6_show : zKv yX6_show := ⟨wm_467, wm_468⟩
theorem kn_X6_show : zKn yX6_show cX6_show 2 (some .int) 1 := ⟨wm_469, wm_55, by decide +kernel, by decide⟩
set_option maxHeartbeats 4000000 in
set_option maxRecDepth 100000 in
theorem z_X6_show {z : ZC} {D : va_G} {cI : ClassId} {ad : Nat → Nat} {R : Int32 × KX} (F : ZF z (yK D cI ad) cX6_show RX6 2 (some .int) 4) (X : KX) (a1 : Int32) (hf : f_X6_show X a1 = some R) : Z z (yK D cI ad) 2 (zQI z (yK D cI ad) R) X 0 [(0, .ref (ad 0)), (1, .int a1)] [] := by
  unfold f_X6_show at hf
  refine z_aload_n F dX6_show_0 0 rfl rfl ?_
  refine gK_0_2 F wm_276 dX6_show_1 ?_
  refine z_iload_n F dX6_show_4 1 rfl rfl ?_
  refine k_X2_isHint F (by decide) wm_470 (Nat.le_of_ble_eq_true rfl) dX6_show_5 ?_
  refine z_if_ne (tgt := 14) F hf dX6_show_8 (by decide) (fun hf => ?_) (fun hf => ?_)
  · refine z_aload_n F dX6_show_14 0 rfl rfl ?_
    refine gK_0_2 F wm_276 dX6_show_15 ?_
    refine gK_7_14 F wm_173 dX6_show_18 ?_
    refine z_iconst (v := (-1)) F dX6_show_21 (by decide +kernel) ?_
    refine z_icmp_eq (tgt := 39) F hf dX6_show_22 (by decide) (fun hf => ?_) (fun hf => ?_)
    · refine z_ldc F wm_457 dX6_show_39 ?_
      exact z_iret F dX6_show_41 (Option.some.inj hf)
    · refine z_aload_n F dX6_show_25 0 rfl rfl ?_
      refine gK_0_2 F wm_276 dX6_show_26 ?_
      refine gK_7_16 F wm_176 dX6_show_29 ?_
      refine z_iload_n F dX6_show_32 1 rfl rfl ?_
      refine k_X6_has F (by decide) wm_474 (Nat.le_of_ble_eq_true rfl) dX6_show_33 ?_
      refine z_if_eq (tgt := 42) F hf dX6_show_36 (by decide) (fun hf => ?_) (fun hf => ?_)
      · refine z_aload_n F dX6_show_42 0 rfl rfl ?_
        refine gK_0_2 F wm_276 dX6_show_43 ?_
        refine gK_7_16 F wm_176 dX6_show_46 ?_
        refine k_J6_bitCount_0f7a4 F (by decide) wm_475 (Nat.le_of_ble_eq_true rfl) dX6_show_49 ?_
        refine z_aload_n F dX6_show_52 0 rfl rfl ?_
        refine gK_0_2 F wm_276 dX6_show_53 ?_
        refine gK_7_3 F wm_134 dX6_show_56 ?_
        refine z_icmp_lt (tgt := 65) F hf dX6_show_59 (by decide) (fun hf => ?_) (fun hf => ?_)
        · refine z_aload_n F dX6_show_65 0 rfl rfl ?_
          refine gK_0_6 F wm_280 dX6_show_66 ?_
          refine z_iconst (v := 1) F dX6_show_69 (by decide +kernel) ?_
          refine z_iload_n F dX6_show_70 1 rfl rfl ?_
          refine z_aload_n F dX6_show_71 0 rfl rfl ?_
          refine gK_0_2 F wm_276 dX6_show_72 ?_
          refine gK_7_10 F wm_163 dX6_show_75 ?_
          refine z_aload_n F dX6_show_78 0 rfl rfl ?_
          refine gK_0_2 F wm_276 dX6_show_79 ?_
          refine gK_7_14 F wm_173 dX6_show_82 ?_
          refine lK_12 F hf dX6_show_85 (fun hf => ?_)
          refine k_X0_keep F (by decide) wm_458 (Nat.le_of_ble_eq_true rfl) hf dX6_show_86 (fun X_1 hf => ?_)
          refine z_aload_n F dX6_show_89 0 rfl rfl ?_
          refine gK_0_2 F wm_276 dX6_show_90 ?_
          refine z_iload_n F dX6_show_93 1 rfl rfl ?_
          refine k_X2_reveal F (by decide) wm_481 (Nat.le_of_ble_eq_true rfl) hf dX6_show_94 (fun X_2 hf => ?_)
          refine z_aload_n F dX6_show_97 0 rfl rfl ?_
          refine gK_0_2 F wm_276 dX6_show_98 ?_
          refine gK_7_10 F wm_163 dX6_show_101 ?_
          refine z_aload_n F dX6_show_104 0 rfl rfl ?_
          refine gK_0_2 F wm_276 dX6_show_105 ?_
          refine gK_7_14 F wm_173 dX6_show_108 ?_
          refine lK_12 F hf dX6_show_111 (fun hf => ?_)
          exact z_iret F dX6_show_112 (Option.some.inj hf)
        · refine z_ldc F wm_372 dX6_show_62 ?_
          exact z_iret F dX6_show_64 (Option.some.inj hf)
      · refine z_ldc F wm_457 dX6_show_39 ?_
        exact z_iret F dX6_show_41 (Option.some.inj hf)
  · refine z_ldc F wm_315 dX6_show_11 ?_
    exact z_iret F dX6_show_13 (Option.some.inj hf)
theorem c_X6_show {D : va_G} {cI : ClassId} {ad : Nat → Nat} {R : Int32 × KX} (X : KX) (a1 : Int32) (hf : f_X6_show X a1 = some R) : zMI (yK D cI ad) yX6_show cX6_show 2 (some .int) 4 [.ref (ad 0), .int a1] X R := zMI_of (by decide +kernel) (Nat.le_of_ble_eq_true rfl) (fun z F => z_sub [0, 1] rfl (z_X6_show F X a1 hf))
theorem k_X6_show {z : ZC} {D : va_G} {cI : ClassId} {ad : Nat → Nat} {cc : ByteArray} {own : String} {nL d pc index : Nat} {ret : Option FieldType} {Q : State → Prop} {X : KX} {L : List (Nat × Value)} {rest : List Value} {a1 : Int32} (F : ZF z (yK D cI ad) cc own nL ret d) (hd : 4 + 1 ≤ d) (hw : Cond.methodLink own index yX6_show ∈ wsA) (hst : (rest.map fun v => v.category).sum ≤ 8) {β : Type} {e : Int32 → KX → Option β} {r : β} (hf : zB2 (f_X6_show X a1) e = some r) (hdg : decode cc pc = .ok (.invokevirtual index, 3)) (kk : ∀ (v : Int32) (X2 : KX), e v X2 = some r → Z z (yK D cI ad) nL Q X2 (pc + 3) L (.int v :: rest)) : Z z (yK D cI ad) nL Q X pc L (.int a1 :: .ref (ad 0) :: rest) := by
  obtain ⟨v, X2, h1, h2⟩ := zB2_some hf
  exact z_cVI (As := [.int a1]) F (c_X6_show X a1 h1) kn_X6_show kv_X6_show hw (q0 := 0) rfl rfl hd rfl hst hdg rfl (kk v X2 h2)
theorem kv_X2_dares : zKv yX2_dares := ⟨wm_506, wm_507⟩
theorem kn_X2_dares : zKn yX2_dares cX2_dares 2 (some .boolean) 1 := ⟨wm_508, wm_58, by decide +kernel, by decide⟩
set_option maxHeartbeats 4000000 in
set_option maxRecDepth 100000 in
theorem z_X2_dares {z : ZC} {D : va_G} {cI : ClassId} {ad : Nat → Nat} {r : Int32} (F : ZF z (yK D cI ad) cX2_dares RX2 2 (some .boolean) 1) (X : KX) (a1 : Int32) (hf : f_X2_dares X a1 = some r) : Z z (yK D cI ad) 2 (zQI z (yK D cI ad) (r, X)) X 0 [(0, .ref (ad 7)), (1, .int a1)] [] := by
  unfold f_X2_dares at hf
  refine z_aload_n F dX2_dares_0 0 rfl rfl ?_
  refine gK_7_12 F wm_167 dX2_dares_1 ?_
  refine z_iload_n F dX2_dares_4 1 rfl rfl ?_
  refine lK_14 F hf dX2_dares_5 (fun hf => ?_)
  refine z_aload_n F dX2_dares_6 0 rfl rfl ?_
  refine gK_7_11 F wm_164 dX2_dares_7 ?_
  refine z_iload_n F dX2_dares_10 1 rfl rfl ?_
  refine lK_13 F hf dX2_dares_11 (fun hf => ?_)
  refine z_icmp_lt (tgt := 19) F hf dX2_dares_12 (by decide) (fun hf => ?_) (fun hf => ?_)
  · refine z_iconst (v := 0) F dX2_dares_19 (by decide +kernel) ?_
    exact z_zret F (by decide) dX2_dares_20 (Prod.ext (Option.some.inj hf) rfl)
  · refine z_iconst (v := 1) F dX2_dares_15 (by decide +kernel) ?_
    refine z_goto (tgt := 20) F dX2_dares_16 (by decide) ?_
    exact z_zret F (by decide) dX2_dares_20 (Prod.ext (Option.some.inj hf) rfl)
theorem c_X2_dares {D : va_G} {cI : ClassId} {ad : Nat → Nat} {r : Int32} (X : KX) (a1 : Int32) (hf : f_X2_dares X a1 = some r) : zMI (yK D cI ad) yX2_dares cX2_dares 2 (some .boolean) 1 [.ref (ad 7), .int a1] X (r, X) := zMI_of (by decide +kernel) (Nat.le_of_ble_eq_true rfl) (fun z F => z_sub [0, 1] rfl (z_X2_dares F X a1 hf))
theorem k_X2_dares {z : ZC} {D : va_G} {cI : ClassId} {ad : Nat → Nat} {cc : ByteArray} {own : String} {nL d pc index : Nat} {ret : Option FieldType} {Q : State → Prop} {X : KX} {L : List (Nat × Value)} {rest : List Value} {a1 : Int32} (F : ZF z (yK D cI ad) cc own nL ret d) (hd : 1 + 1 ≤ d) (hw : Cond.methodLink own index yX2_dares ∈ wsA) (hst : (rest.map fun v => v.category).sum ≤ 8) {β : Type} {e : Int32 → Option β} {r : β} (hf : zB1 (f_X2_dares X a1) e = some r) (hdg : decode cc pc = .ok (.invokevirtual index, 3)) (kk : ∀ v : Int32, e v = some r → Z z (yK D cI ad) nL Q X (pc + 3) L (.int v :: rest)) : Z z (yK D cI ad) nL Q X pc L (.int a1 :: .ref (ad 7) :: rest) := by
  obtain ⟨v, h1, h2⟩ := zB1_some hf
  exact z_cVI (As := [.int a1]) F (c_X2_dares X a1 h1) kn_X2_dares kv_X2_dares hw (q0 := 7) rfl rfl hd rfl hst hdg rfl (kk v h2)
theorem kv_X2_hear : zKv yX2_hear := ⟨wm_502, wm_503⟩
theorem kn_X2_hear : zKn yX2_hear cX2_hear 3 none 1 := ⟨wm_504, wm_58, by decide +kernel, by decide⟩
set_option maxHeartbeats 4000000 in
set_option maxRecDepth 100000 in
theorem z_X2_hear_77 {z : ZC} {D : va_G} {cI : ClassId} {ad : Nat → Nat} {R : KX} (F : ZF z (yK D cI ad) cX2_hear RX2 3 none 2)  (X : KX) (v1 : Int32) (hf : f_X2_hear_77 X v1 = some R) : Z z (yK D cI ad) 3 (zQV z (yK D cI ad) R) X 77 [(0, .ref (ad 7)), (1, .int v1)] [] := by
  unfold f_X2_hear_77 at hf
  refine z_aload_n F dX2_hear_77 0 rfl rfl ?_
  refine z_dup F dX2_hear_78 rfl ?_
  refine gK_7_15 F wm_174 dX2_hear_79 ?_
  refine z_iconst (v := 1) F dX2_hear_82 (by decide +kernel) ?_
  refine z_iload_n F dX2_hear_83 1 rfl rfl ?_
  refine z_ishl F dX2_hear_84 ?_
  refine z_ior F dX2_hear_85 ?_
  refine pK_7_15 F hf wm_174 dX2_hear_86 (fun X_1 hf => ?_)
  refine z_aload_n F dX2_hear_89 0 rfl rfl ?_
  refine z_iconst (v := (-1)) F dX2_hear_90 (by decide +kernel) ?_
  refine pK_7_14 F hf wm_172 dX2_hear_91 (fun X_2 hf => ?_)
  refine z_aload_n F dX2_hear_94 0 rfl rfl ?_
  refine z_iconst (v := 0) F dX2_hear_95 (by decide +kernel) ?_
  refine pK_7_16 F hf wm_175 dX2_hear_96 (fun X_3 hf => ?_)
  exact z_vret F dX2_hear_99 (Option.some.inj hf)
set_option maxHeartbeats 4000000 in
set_option maxRecDepth 100000 in
theorem z_X2_hear_73 {z : ZC} {D : va_G} {cI : ClassId} {ad : Nat → Nat} {R : KX} (F : ZF z (yK D cI ad) cX2_hear RX2 3 none 2)  (X : KX) (s0 : Int32) (s1 : Int32) (v1 : Int32) (hf : f_X2_hear_73 X s0 s1 v1 = some R) : Z z (yK D cI ad) 3 (zQV z (yK D cI ad) R) X 73 [(0, .ref (ad 7)), (1, .int v1)] [.int s0, .int s1, .ref (ad 7)] := by
  unfold f_X2_hear_73 at hf
  refine z_iadd F dX2_hear_73 ?_
  refine pK_7_17 F hf wm_177 dX2_hear_74 (fun X_1 hf => ?_)
  exact z_sub [0, 1] rfl (z_X2_hear_77 F X_1 v1 hf)
set_option maxHeartbeats 4000000 in
set_option maxRecDepth 100000 in
theorem z_X2_hear_52 {z : ZC} {D : va_G} {cI : ClassId} {ad : Nat → Nat} {R : KX} (F : ZF z (yK D cI ad) cX2_hear RX2 3 none 2)  (X : KX) (s0 : Int32) (v1 : Int32) (v2 : Int32) (hf : f_X2_hear_52 X s0 v1 v2 = some R) : Z z (yK D cI ad) 3 (zQV z (yK D cI ad) R) X 52 [(0, .ref (ad 7)), (1, .int v1), (2, .int v2)] [.int s0, .ref (ad 7)] := by
  unfold f_X2_hear_52 at hf
  refine pK_7_18 F hf wm_179 dX2_hear_52 (fun X_1 hf => ?_)
  refine z_aload_n F dX2_hear_55 0 rfl rfl ?_
  refine z_dup F dX2_hear_56 rfl ?_
  refine gK_7_17 F wm_177 dX2_hear_57 ?_
  refine z_iload_n F dX2_hear_60 2 rfl rfl ?_
  refine z_aload_n F dX2_hear_61 0 rfl rfl ?_
  refine gK_7_2 F wm_129 dX2_hear_62 ?_
  refine z_icmp_ne (tgt := 72) F hf dX2_hear_65 (by decide) (fun hf => ?_) (fun hf => ?_)
  · refine z_iconst (v := 0) F dX2_hear_72 (by decide +kernel) ?_
    exact z_sub [0, 1] rfl (z_X2_hear_73 F X_1 0 (X_1 7 17) v1 hf)
  · refine z_iconst (v := 1) F dX2_hear_68 (by decide +kernel) ?_
    refine z_goto (tgt := 73) F dX2_hear_69 (by decide) ?_
    exact z_sub [0, 1] rfl (z_X2_hear_73 F X_1 1 (X_1 7 17) v1 hf)
set_option maxHeartbeats 4000000 in
set_option maxRecDepth 100000 in
theorem z_X2_hear_31 {z : ZC} {D : va_G} {cI : ClassId} {ad : Nat → Nat} {R : KX} (F : ZF z (yK D cI ad) cX2_hear RX2 3 none 2)  (X : KX) (v1 : Int32) (v2 : Int32) (hf : f_X2_hear_31 X v1 v2 = some R) : Z z (yK D cI ad) 3 (zQV z (yK D cI ad) R) X 31 [(0, .ref (ad 7)), (1, .int v1), (2, .int v2)] [] := by
  unfold f_X2_hear_31 at hf
  refine z_aload_n F dX2_hear_31 0 rfl rfl ?_
  refine gK_7_13 F wm_170 dX2_hear_32 ?_
  refine z_iload_n F dX2_hear_35 1 rfl rfl ?_
  refine z_iload_n F dX2_hear_36 2 rfl rfl ?_
  refine sK_15 F hf dX2_hear_37 (fun X_1 hf => ?_)
  refine z_aload_n F dX2_hear_38 0 rfl rfl ?_
  refine z_iload_n F dX2_hear_39 2 rfl rfl ?_
  refine z_aload_n F dX2_hear_40 0 rfl rfl ?_
  refine gK_7_1 F wm_125 dX2_hear_41 ?_
  refine z_icmp_ne (tgt := 51) F hf dX2_hear_44 (by decide) (fun hf => ?_) (fun hf => ?_)
  · refine z_iconst (v := 0) F dX2_hear_51 (by decide +kernel) ?_
    exact z_sub [0, 1, 2] rfl (z_X2_hear_52 F X_1 0 v1 v2 hf)
  · refine z_iconst (v := 1) F dX2_hear_47 (by decide +kernel) ?_
    refine z_goto (tgt := 52) F dX2_hear_48 (by decide) ?_
    exact z_sub [0, 1, 2] rfl (z_X2_hear_52 F X_1 1 v1 v2 hf)
set_option maxHeartbeats 4000000 in
set_option maxRecDepth 100000 in
theorem z_X2_hear {z : ZC} {D : va_G} {cI : ClassId} {ad : Nat → Nat} {R : KX} (F : ZF z (yK D cI ad) cX2_hear RX2 3 none 2) (X : KX) (a1 : Int32) (hf : f_X2_hear X a1 = some R) : Z z (yK D cI ad) 3 (zQV z (yK D cI ad) R) X 0 [(0, .ref (ad 7)), (1, .int a1)] [] := by
  unfold f_X2_hear at hf
  refine z_aload_n F dX2_hear_0 0 rfl rfl ?_
  refine gK_7_10 F wm_160 dX2_hear_1 ?_
  refine z_iload_n F dX2_hear_4 1 rfl rfl ?_
  refine lK_12 F hf dX2_hear_5 (fun hf => ?_)
  refine z_top hf (fun v2_1 hf => ?_)
  refine z_istore_n (L' := [(2, .int v2_1), (0, .ref (ad 7)), (1, .int a1)]) F dX2_hear_6 rfl (Nat.le_of_ble_eq_true rfl) rfl ?_
  refine z_aload_n F dX2_hear_7 1 rfl rfl ?_
  refine z_iload_n F dX2_hear_8 2 rfl rfl ?_
  refine k_X2_dares F (by decide) wm_505 (Nat.le_of_ble_eq_true rfl) hf dX2_hear_9 (fun r_2 hf => ?_)
  refine z_if_eq (tgt := 77) F hf dX2_hear_12 (by decide) (fun hf => ?_) (fun hf => ?_)
  · exact z_sub [1, 2] rfl (z_X2_hear_77 F X a1 hf)
  · refine z_iload_n F dX2_hear_15 0 rfl rfl ?_
    refine z_aload_n F dX2_hear_16 1 rfl rfl ?_
    refine gK_7_1 F wm_125 dX2_hear_17 ?_
    refine z_icmp_eq (tgt := 31) F hf dX2_hear_20 (by decide) (fun hf => ?_) (fun hf => ?_)
    · exact z_sub [1, 2, 0] rfl (z_X2_hear_31 F X a1 v2_1 hf)
    · refine z_iload_n F dX2_hear_23 0 rfl rfl ?_
      refine z_aload_n F dX2_hear_24 1 rfl rfl ?_
      refine gK_7_2 F wm_129 dX2_hear_25 ?_
      refine z_icmp_ne (tgt := 77) F hf dX2_hear_28 (by decide) (fun hf => ?_) (fun hf => ?_)
      · exact z_sub [1, 2] rfl (z_X2_hear_77 F X a1 hf)
      · exact z_sub [1, 2, 0] rfl (z_X2_hear_31 F X a1 v2_1 hf)
theorem c_X2_hear {D : va_G} {cI : ClassId} {ad : Nat → Nat} {R : KX} (X : KX) (a1 : Int32) (hf : f_X2_hear X a1 = some R) : zMV (yK D cI ad) yX2_hear cX2_hear 3 none 2 [.ref (ad 7), .int a1] X R := zMV_of (by decide +kernel) (Nat.le_of_ble_eq_true rfl) (fun z F => z_sub [0, 1] rfl (z_X2_hear F X a1 hf))
theorem k_X2_hear {z : ZC} {D : va_G} {cI : ClassId} {ad : Nat → Nat} {cc : ByteArray} {own : String} {nL d pc index : Nat} {ret : Option FieldType} {Q : State → Prop} {X : KX} {L : List (Nat × Value)} {rest : List Value} {a1 : Int32} (F : ZF z (yK D cI ad) cc own nL ret d) (hd : 2 + 1 ≤ d) (hw : Cond.methodLink own index yX2_hear ∈ wsA) (hst : (rest.map fun v => v.category).sum ≤ 8) {β : Type} {e : KX → Option β} {r : β} (hf : zB1 (f_X2_hear X a1) e = some r) (hdg : decode cc pc = .ok (.invokevirtual index, 3)) (kk : ∀ X2 : KX, e X2 = some r → Z z (yK D cI ad) nL Q X2 (pc + 3) L rest) : Z z (yK D cI ad) nL Q X pc L (.int a1 :: .ref (ad 7) :: rest) := by
  obtain ⟨v, h1, h2⟩ := zB1_some hf
  exact z_cVV (As := [.int a1]) F (c_X2_hear X a1 h1) kn_X2_hear kv_X2_hear hw (q0 := 7) rfl rfl hd rfl hst hdg rfl (kk v h2)
theorem kv_X6_speak : zKv yX6_speak := ⟨wm_498, wm_499⟩
theorem kn_X6_speak : zKn yX6_speak cX6_speak 2 (some .int) 0 := ⟨wm_500, wm_55, by decide +kernel, by decide⟩
set_option maxHeartbeats 4000000 in
set_option maxRecDepth 100000 in
theorem z_X6_speak {z : ZC} {D : va_G} {cI : ClassId} {ad : Nat → Nat} {R : Int32 × KX} (F : ZF z (yK D cI ad) cX6_speak RX6 2 (some .int) 3) (X : KX)  (hf : f_X6_speak X = some R) : Z z (yK D cI ad) 2 (zQI z (yK D cI ad) R) X 0 [(0, .ref (ad 0))] [] := by
  unfold f_X6_speak at hf
  refine z_aload_n F dX6_speak_0 0 rfl rfl ?_
  refine gK_0_2 F wm_276 dX6_speak_1 ?_
  refine gK_7_14 F wm_173 dX6_speak_4 ?_
  refine z_top hf (fun v1_1 hf => ?_)
  refine z_istore_n (L' := [(1, .int v1_1), (0, .ref (ad 0))]) F dX6_speak_7 rfl (Nat.le_of_ble_eq_true rfl) rfl ?_
  refine z_iload_n F dX6_speak_8 0 rfl rfl ?_
  refine z_iconst (v := (-1)) F dX6_speak_9 (by decide +kernel) ?_
  refine z_icmp_ne (tgt := 16) F hf dX6_speak_10 (by decide) (fun hf => ?_) (fun hf => ?_)
  · refine z_aload_n F dX6_speak_16 1 rfl rfl ?_
    refine gK_0_6 F wm_280 dX6_speak_17 ?_
    refine z_iconst (v := 2) F dX6_speak_20 (by decide +kernel) ?_
    refine z_iload_n F dX6_speak_21 0 rfl rfl ?_
    refine z_aload_n F dX6_speak_22 1 rfl rfl ?_
    refine gK_0_2 F wm_276 dX6_speak_23 ?_
    refine gK_7_16 F wm_176 dX6_speak_26 ?_
    refine k_X0_keep F (by decide) wm_458 (Nat.le_of_ble_eq_true rfl) hf dX6_speak_29 (fun X_2 hf => ?_)
    refine z_aload_n F dX6_speak_32 1 rfl rfl ?_
    refine gK_0_2 F wm_276 dX6_speak_33 ?_
    refine z_iload_n F dX6_speak_36 0 rfl rfl ?_
    refine k_X2_hear F (by decide) wm_501 (Nat.le_of_ble_eq_true rfl) hf dX6_speak_37 (fun X_3 hf => ?_)
    refine z_aload_n F dX6_speak_40 1 rfl rfl ?_
    refine gK_0_2 F wm_276 dX6_speak_41 ?_
    refine gK_7_13 F wm_171 dX6_speak_44 ?_
    refine z_iload_n F dX6_speak_47 0 rfl rfl ?_
    refine lK_15 F hf dX6_speak_48 (fun hf => ?_)
    exact z_iret F dX6_speak_49 (Option.some.inj hf)
  · refine z_ldc F wm_457 dX6_speak_13 ?_
    exact z_iret F dX6_speak_15 (Option.some.inj hf)
theorem c_X6_speak {D : va_G} {cI : ClassId} {ad : Nat → Nat} {R : Int32 × KX} (X : KX)  (hf : f_X6_speak X = some R) : zMI (yK D cI ad) yX6_speak cX6_speak 2 (some .int) 3 [.ref (ad 0)] X R := zMI_of (by decide +kernel) (Nat.le_of_ble_eq_true rfl) (fun z F => z_sub [0] rfl (z_X6_speak F X hf))
theorem k_X6_speak {z : ZC} {D : va_G} {cI : ClassId} {ad : Nat → Nat} {cc : ByteArray} {own : String} {nL d pc index : Nat} {ret : Option FieldType} {Q : State → Prop} {X : KX} {L : List (Nat × Value)} {rest : List Value} (F : ZF z (yK D cI ad) cc own nL ret d) (hd : 3 + 1 ≤ d) (hw : Cond.methodLink own index yX6_speak ∈ wsA) (hst : (rest.map fun v => v.category).sum ≤ 8) {β : Type} {e : Int32 → KX → Option β} {r : β} (hf : zB2 (f_X6_speak X) e = some r) (hdg : decode cc pc = .ok (.invokevirtual index, 3)) (kk : ∀ (v : Int32) (X2 : KX), e v X2 = some r → Z z (yK D cI ad) nL Q X2 (pc + 3) L (.int v :: rest)) : Z z (yK D cI ad) nL Q X pc L (.ref (ad 0) :: rest) := by
  obtain ⟨v, X2, h1, h2⟩ := zB2_some hf
  exact z_cVI (As := []) F (c_X6_speak X h1) kn_X6_speak kv_X6_speak hw (q0 := 0) rfl rfl hd rfl hst hdg rfl (kk v X2 h2)
theorem kv_X6_tale : zKv yX6_tale := ⟨wm_510, wm_511⟩
theorem kn_X6_tale : zKn yX6_tale cX6_tale 3 (some .int) 2 := ⟨wm_512, wm_55, by decide +kernel, by decide⟩
set_option maxHeartbeats 4000000 in
set_option maxRecDepth 100000 in
theorem z_X6_tale {z : ZC} {D : va_G} {cI : ClassId} {ad : Nat → Nat} {R : Int32 × KX} (F : ZF z (yK D cI ad) cX6_tale RX6 3 (some .int) 3) (X : KX) (a1 : Int32) (a2 : Int32) (hf : f_X6_tale X a1 a2 = some R) : Z z (yK D cI ad) 3 (zQI z (yK D cI ad) R) X 0 [(0, .ref (ad 0)), (1, .int a1), (2, .int a2)] [] := by
  unfold f_X6_tale at hf
  refine z_aload_n F dX6_tale_0 0 rfl rfl ?_
  refine gK_0_2 F wm_276 dX6_tale_1 ?_
  refine z_iload_n F dX6_tale_4 1 rfl rfl ?_
  refine k_X2_isGuest F (by decide) wm_445 (Nat.le_of_ble_eq_true rfl) dX6_tale_5 ?_
  refine z_if_eq (tgt := 27) F hf dX6_tale_8 (by decide) (fun hf => ?_) (fun hf => ?_)
  · refine z_ldc F wm_315 dX6_tale_27 ?_
    exact z_iret F dX6_tale_29 (Option.some.inj hf)
  · refine z_iload_n F dX6_tale_11 2 rfl rfl ?_
    refine z_bipush (v := (-20)) F dX6_tale_12 (by decide +kernel) ?_
    refine z_icmp_lt (tgt := 27) F hf dX6_tale_14 (by decide) (fun hf => ?_) (fun hf => ?_)
    · refine z_ldc F wm_315 dX6_tale_27 ?_
      exact z_iret F dX6_tale_29 (Option.some.inj hf)
    · refine z_iload_n F dX6_tale_17 2 rfl rfl ?_
      refine z_bipush (v := 20) F dX6_tale_18 (by decide +kernel) ?_
      refine z_icmp_gt (tgt := 27) F hf dX6_tale_20 (by decide) (fun hf => ?_) (fun hf => ?_)
      · refine z_ldc F wm_315 dX6_tale_27 ?_
        exact z_iret F dX6_tale_29 (Option.some.inj hf)
      · refine z_iload_n F dX6_tale_23 2 rfl rfl ?_
        refine z_if_ne (tgt := 30) F hf dX6_tale_24 (by decide) (fun hf => ?_) (fun hf => ?_)
        · refine z_aload_n F dX6_tale_30 0 rfl rfl ?_
          refine gK_0_2 F wm_276 dX6_tale_31 ?_
          refine z_iload_n F dX6_tale_34 1 rfl rfl ?_
          refine k_X2_stateOf F (by decide) wm_450 (Nat.le_of_ble_eq_true rfl) dX6_tale_35 ?_
          refine z_if_eq (tgt := 44) F hf dX6_tale_38 (by decide) (fun hf => ?_) (fun hf => ?_)
          · refine z_aload_n F dX6_tale_44 0 rfl rfl ?_
            refine gK_0_6 F wm_280 dX6_tale_45 ?_
            refine z_iconst (v := 3) F dX6_tale_48 (by decide +kernel) ?_
            refine z_iload_n F dX6_tale_49 1 rfl rfl ?_
            refine z_aload_n F dX6_tale_50 0 rfl rfl ?_
            refine gK_0_2 F wm_276 dX6_tale_51 ?_
            refine gK_7_12 F wm_169 dX6_tale_54 ?_
            refine z_iload_n F dX6_tale_57 1 rfl rfl ?_
            refine lK_14 F hf dX6_tale_58 (fun hf => ?_)
            refine k_X0_keep F (by decide) wm_458 (Nat.le_of_ble_eq_true rfl) hf dX6_tale_59 (fun X_1 hf => ?_)
            refine z_aload_n F dX6_tale_62 0 rfl rfl ?_
            refine gK_0_2 F wm_276 dX6_tale_63 ?_
            refine gK_7_12 F wm_169 dX6_tale_66 ?_
            refine z_iload_n F dX6_tale_69 1 rfl rfl ?_
            refine z_iconst (v := 0) F dX6_tale_70 (by decide +kernel) ?_
            refine z_bipush (v := 20) F dX6_tale_71 (by decide +kernel) ?_
            refine z_aload_n F dX6_tale_73 0 rfl rfl ?_
            refine gK_0_2 F wm_276 dX6_tale_74 ?_
            refine gK_7_12 F wm_169 dX6_tale_77 ?_
            refine z_iload_n F dX6_tale_80 1 rfl rfl ?_
            refine lK_14 F hf dX6_tale_81 (fun hf => ?_)
            refine z_iload_n F dX6_tale_82 2 rfl rfl ?_
            refine z_iadd F dX6_tale_83 ?_
            refine z_min F (by decide) wm_513 wm_514 wm_65 wm_515 (Nat.le_of_ble_eq_true rfl) dX6_tale_84 ?_
            refine z_max F (by decide) wm_516 wm_517 wm_65 wm_518 (Nat.le_of_ble_eq_true rfl) dX6_tale_87 ?_
            refine sK_14 F hf dX6_tale_90 (fun X_2 hf => ?_)
            refine z_aload_n F dX6_tale_91 0 rfl rfl ?_
            refine gK_0_2 F wm_276 dX6_tale_92 ?_
            refine gK_7_12 F wm_169 dX6_tale_95 ?_
            refine z_iload_n F dX6_tale_98 1 rfl rfl ?_
            refine lK_14 F hf dX6_tale_99 (fun hf => ?_)
            exact z_iret F dX6_tale_100 (Option.some.inj hf)
          · refine z_ldc F wm_457 dX6_tale_41 ?_
            exact z_iret F dX6_tale_43 (Option.some.inj hf)
        · refine z_ldc F wm_315 dX6_tale_27 ?_
          exact z_iret F dX6_tale_29 (Option.some.inj hf)
theorem c_X6_tale {D : va_G} {cI : ClassId} {ad : Nat → Nat} {R : Int32 × KX} (X : KX) (a1 : Int32) (a2 : Int32) (hf : f_X6_tale X a1 a2 = some R) : zMI (yK D cI ad) yX6_tale cX6_tale 3 (some .int) 3 [.ref (ad 0), .int a1, .int a2] X R := zMI_of (by decide +kernel) (Nat.le_of_ble_eq_true rfl) (fun z F => z_sub [0, 1, 2] rfl (z_X6_tale F X a1 a2 hf))
theorem k_X6_tale {z : ZC} {D : va_G} {cI : ClassId} {ad : Nat → Nat} {cc : ByteArray} {own : String} {nL d pc index : Nat} {ret : Option FieldType} {Q : State → Prop} {X : KX} {L : List (Nat × Value)} {rest : List Value} {a1 a2 : Int32} (F : ZF z (yK D cI ad) cc own nL ret d) (hd : 3 + 1 ≤ d) (hw : Cond.methodLink own index yX6_tale ∈ wsA) (hst : (rest.map fun v => v.category).sum ≤ 8) {β : Type} {e : Int32 → KX → Option β} {r : β} (hf : zB2 (f_X6_tale X a1 a2) e = some r) (hdg : decode cc pc = .ok (.invokevirtual index, 3)) (kk : ∀ (v : Int32) (X2 : KX), e v X2 = some r → Z z (yK D cI ad) nL Q X2 (pc + 3) L (.int v :: rest)) : Z z (yK D cI ad) nL Q X pc L (.int a2 :: .int a1 :: .ref (ad 0) :: rest) := by
  obtain ⟨v, X2, h1, h2⟩ := zB2_some hf
  exact z_cVI (As := [.int a1, .int a2]) F (c_X6_tale X a1 a2 h1) kn_X6_tale kv_X6_tale hw (q0 := 0) rfl rfl hd rfl hst hdg rfl (kk v X2 h2)
theorem kv_X0_takeLatest : zKv yX0_takeLatest := ⟨wm_524, wm_525⟩
theorem kn_X0_takeLatest : zKn yX0_takeLatest cX0_takeLatest 1 (some .int) 0 := ⟨wm_526, wm_59, by decide +kernel, by decide⟩
set_option maxHeartbeats 4000000 in
set_option maxRecDepth 100000 in
theorem z_X0_takeLatest {z : ZC} {D : va_G} {cI : ClassId} {ad : Nat → Nat} {R : Int32 × KX} (F : ZF z (yK D cI ad) cX0_takeLatest RX0 1 (some .int) 1) (X : KX)  (hf : f_X0_takeLatest X = some R) : Z z (yK D cI ad) 1 (zQI z (yK D cI ad) R) X 0 [(0, .ref (ad 43))] [] := by
  unfold f_X0_takeLatest at hf
  refine z_aload_n F dX0_takeLatest_0 0 rfl rfl ?_
  refine z_dup F dX0_takeLatest_1 rfl ?_
  refine gK_43_3 F wm_232 dX0_takeLatest_2 ?_
  refine z_iconst (v := 1) F dX0_takeLatest_5 (by decide +kernel) ?_
  refine z_isub F dX0_takeLatest_6 ?_
  refine pK_43_3 F hf wm_232 dX0_takeLatest_7 (fun X_1 hf => ?_)
  refine z_aload_n F dX0_takeLatest_10 0 rfl rfl ?_
  refine gK_43_4 F wm_234 dX0_takeLatest_11 ?_
  refine z_aload_n F dX0_takeLatest_14 0 rfl rfl ?_
  refine gK_43_3 F wm_232 dX0_takeLatest_15 ?_
  refine z_iadd F dX0_takeLatest_18 ?_
  refine z_bipush (v := 24) F dX0_takeLatest_19 (by decide +kernel) ?_
  refine z_iremL F (by decide) dX0_takeLatest_21 ?_
  exact z_iret F dX0_takeLatest_22 (Option.some.inj hf)
theorem c_X0_takeLatest {D : va_G} {cI : ClassId} {ad : Nat → Nat} {R : Int32 × KX} (X : KX)  (hf : f_X0_takeLatest X = some R) : zMI (yK D cI ad) yX0_takeLatest cX0_takeLatest 1 (some .int) 1 [.ref (ad 43)] X R := zMI_of (by decide +kernel) (Nat.le_of_ble_eq_true rfl) (fun z F => z_sub [0] rfl (z_X0_takeLatest F X hf))
theorem k_X0_takeLatest {z : ZC} {D : va_G} {cI : ClassId} {ad : Nat → Nat} {cc : ByteArray} {own : String} {nL d pc index : Nat} {ret : Option FieldType} {Q : State → Prop} {X : KX} {L : List (Nat × Value)} {rest : List Value} (F : ZF z (yK D cI ad) cc own nL ret d) (hd : 1 + 1 ≤ d) (hw : Cond.methodLink own index yX0_takeLatest ∈ wsA) (hst : (rest.map fun v => v.category).sum ≤ 8) {β : Type} {e : Int32 → KX → Option β} {r : β} (hf : zB2 (f_X0_takeLatest X) e = some r) (hdg : decode cc pc = .ok (.invokevirtual index, 3)) (kk : ∀ (v : Int32) (X2 : KX), e v X2 = some r → Z z (yK D cI ad) nL Q X2 (pc + 3) L (.int v :: rest)) : Z z (yK D cI ad) nL Q X pc L (.ref (ad 43) :: rest) := by
  obtain ⟨v, X2, h1, h2⟩ := zB2_some hf
  exact z_cVI (As := []) F (c_X0_takeLatest X h1) kn_X0_takeLatest kv_X0_takeLatest hw (q0 := 43) rfl rfl hd rfl hst hdg rfl (kk v X2 h2)
theorem kv_X2_dismiss : zKv yX2_dismiss := ⟨wm_532, wm_533⟩
theorem kn_X2_dismiss : zKn yX2_dismiss cX2_dismiss 1 none 0 := ⟨wm_534, wm_58, by decide +kernel, by decide⟩
set_option maxHeartbeats 4000000 in
set_option maxRecDepth 100000 in
theorem z_X2_dismiss {z : ZC} {D : va_G} {cI : ClassId} {ad : Nat → Nat} {R : KX} (F : ZF z (yK D cI ad) cX2_dismiss RX2 1 none 1) (X : KX)  (hf : f_X2_dismiss X = some R) : Z z (yK D cI ad) 1 (zQV z (yK D cI ad) R) X 0 [(0, .ref (ad 7))] [] := by
  unfold f_X2_dismiss at hf
  refine z_aload_n F dX2_dismiss_0 0 rfl rfl ?_
  refine z_iconst (v := (-1)) F dX2_dismiss_1 (by decide +kernel) ?_
  refine pK_7_14 F hf wm_172 dX2_dismiss_2 (fun X_1 hf => ?_)
  exact z_vret F dX2_dismiss_5 (Option.some.inj hf)
theorem c_X2_dismiss {D : va_G} {cI : ClassId} {ad : Nat → Nat} {R : KX} (X : KX)  (hf : f_X2_dismiss X = some R) : zMV (yK D cI ad) yX2_dismiss cX2_dismiss 1 none 1 [.ref (ad 7)] X R := zMV_of (by decide +kernel) (Nat.le_of_ble_eq_true rfl) (fun z F => z_sub [0] rfl (z_X2_dismiss F X hf))
theorem k_X2_dismiss {z : ZC} {D : va_G} {cI : ClassId} {ad : Nat → Nat} {cc : ByteArray} {own : String} {nL d pc index : Nat} {ret : Option FieldType} {Q : State → Prop} {X : KX} {L : List (Nat × Value)} {rest : List Value} (F : ZF z (yK D cI ad) cc own nL ret d) (hd : 1 + 1 ≤ d) (hw : Cond.methodLink own index yX2_dismiss ∈ wsA) (hst : (rest.map fun v => v.category).sum ≤ 8) {β : Type} {e : KX → Option β} {r : β} (hf : zB1 (f_X2_dismiss X) e = some r) (hdg : decode cc pc = .ok (.invokevirtual index, 3)) (kk : ∀ X2 : KX, e X2 = some r → Z z (yK D cI ad) nL Q X2 (pc + 3) L rest) : Z z (yK D cI ad) nL Q X pc L (.ref (ad 7) :: rest) := by
  obtain ⟨v, h1, h2⟩ := zB1_some hf
  exact z_cVV (As := []) F (c_X2_dismiss X h1) kn_X2_dismiss kv_X2_dismiss hw (q0 := 7) rfl rfl hd rfl hst hdg rfl (kk v h2)
theorem kv_X2_conceal : zKv yX2_conceal := ⟨wm_536, wm_537⟩
theorem kn_X2_conceal : zKn yX2_conceal cX2_conceal 3 none 2 := ⟨wm_538, wm_58, by decide +kernel, by decide⟩
set_option maxHeartbeats 4000000 in
set_option maxRecDepth 100000 in
theorem z_X2_conceal_21 {z : ZC} {D : va_G} {cI : ClassId} {ad : Nat → Nat} {R : KX} (F : ZF z (yK D cI ad) cX2_conceal RX2 3 none 3)  (X : KX) (v1 : Int32) (hf : f_X2_conceal_21 X v1 = some R) : Z z (yK D cI ad) 3 (zQV z (yK D cI ad) R) X 21 [(0, .ref (ad 7)), (1, .int v1)] [] := by
  unfold f_X2_conceal_21 at hf
  refine z_aload_n F dX2_conceal_21 0 rfl rfl ?_
  refine gK_7_9 F wm_156 dX2_conceal_22 ?_
  refine z_iload_n F dX2_conceal_25 1 rfl rfl ?_
  refine z_dup2 F dX2_conceal_26 rfl rfl ?_
  refine lK_11 F hf dX2_conceal_27 (fun hf => ?_)
  refine z_iconst (v := 1) F dX2_conceal_28 (by decide +kernel) ?_
  refine z_isub F dX2_conceal_29 ?_
  refine sK_11 F hf dX2_conceal_30 (fun X_1 hf => ?_)
  refine z_aload_n F dX2_conceal_31 0 rfl rfl ?_
  refine z_dup F dX2_conceal_32 rfl ?_
  refine gK_7_16 F wm_175 dX2_conceal_33 ?_
  refine z_iconst (v := 1) F dX2_conceal_36 (by decide +kernel) ?_
  refine z_iload_n F dX2_conceal_37 1 rfl rfl ?_
  refine z_ishl F dX2_conceal_38 ?_
  refine z_iconst (v := (-1)) F dX2_conceal_39 (by decide +kernel) ?_
  refine z_ixor F dX2_conceal_40 ?_
  refine z_iand F dX2_conceal_41 ?_
  refine pK_7_16 F hf wm_175 dX2_conceal_42 (fun X_2 hf => ?_)
  exact z_vret F dX2_conceal_45 (Option.some.inj hf)
set_option maxHeartbeats 4000000 in
set_option maxRecDepth 100000 in
theorem z_X2_conceal {z : ZC} {D : va_G} {cI : ClassId} {ad : Nat → Nat} {R : KX} (F : ZF z (yK D cI ad) cX2_conceal RX2 3 none 3) (X : KX) (a1 : Int32) (a2 : Int32) (hf : f_X2_conceal X a1 a2 = some R) : Z z (yK D cI ad) 3 (zQV z (yK D cI ad) R) X 0 [(0, .ref (ad 7)), (1, .int a1), (2, .int a2)] [] := by
  unfold f_X2_conceal at hf
  refine z_aload_n F dX2_conceal_0 0 rfl rfl ?_
  refine z_aload_n F dX2_conceal_1 0 rfl rfl ?_
  refine gK_7_14 F wm_172 dX2_conceal_2 ?_
  refine k_X2_isGuest F (by decide) wm_539 (Nat.le_of_ble_eq_true rfl) dX2_conceal_5 ?_
  refine z_if_eq (tgt := 21) F hf dX2_conceal_8 (by decide) (fun hf => ?_) (fun hf => ?_)
  · exact z_sub [0, 1] rfl (z_X2_conceal_21 F X a1 hf)
  · refine z_aload_n F dX2_conceal_11 0 rfl rfl ?_
    refine gK_7_10 F wm_160 dX2_conceal_12 ?_
    refine z_aload_n F dX2_conceal_15 0 rfl rfl ?_
    refine gK_7_14 F wm_172 dX2_conceal_16 ?_
    refine z_iload_n F dX2_conceal_19 2 rfl rfl ?_
    refine sK_12 F hf dX2_conceal_20 (fun X_1 hf => ?_)
    exact z_sub [0, 1] rfl (z_X2_conceal_21 F X_1 a1 hf)
theorem c_X2_conceal {D : va_G} {cI : ClassId} {ad : Nat → Nat} {R : KX} (X : KX) (a1 : Int32) (a2 : Int32) (hf : f_X2_conceal X a1 a2 = some R) : zMV (yK D cI ad) yX2_conceal cX2_conceal 3 none 3 [.ref (ad 7), .int a1, .int a2] X R := zMV_of (by decide +kernel) (Nat.le_of_ble_eq_true rfl) (fun z F => z_sub [0, 1, 2] rfl (z_X2_conceal F X a1 a2 hf))
theorem k_X2_conceal {z : ZC} {D : va_G} {cI : ClassId} {ad : Nat → Nat} {cc : ByteArray} {own : String} {nL d pc index : Nat} {ret : Option FieldType} {Q : State → Prop} {X : KX} {L : List (Nat × Value)} {rest : List Value} {a1 a2 : Int32} (F : ZF z (yK D cI ad) cc own nL ret d) (hd : 3 + 1 ≤ d) (hw : Cond.methodLink own index yX2_conceal ∈ wsA) (hst : (rest.map fun v => v.category).sum ≤ 8) {β : Type} {e : KX → Option β} {r : β} (hf : zB1 (f_X2_conceal X a1 a2) e = some r) (hdg : decode cc pc = .ok (.invokevirtual index, 3)) (kk : ∀ X2 : KX, e X2 = some r → Z z (yK D cI ad) nL Q X2 (pc + 3) L rest) : Z z (yK D cI ad) nL Q X pc L (.int a2 :: .int a1 :: .ref (ad 7) :: rest) := by
  obtain ⟨v, h1, h2⟩ := zB1_some hf
  exact z_cVV (As := [.int a1, .int a2]) F (c_X2_conceal X a1 a2 h1) kn_X2_conceal kv_X2_conceal hw (q0 := 7) rfl rfl hd rfl hst hdg rfl (kk v h2)
theorem kv_X2_unhear : zKv yX2_unhear := ⟨wm_541, wm_542⟩
theorem kn_X2_unhear : zKn yX2_unhear cX2_unhear 3 none 2 := ⟨wm_543, wm_58, by decide +kernel, by decide⟩
set_option maxHeartbeats 4000000 in
set_option maxRecDepth 100000 in
theorem z_X2_unhear_28 {z : ZC} {D : va_G} {cI : ClassId} {ad : Nat → Nat} {R : KX} (F : ZF z (yK D cI ad) cX2_unhear RX2 3 none 1)  (X : KX) (s0 : Int32) (s1 : Int32) (v1 : Int32) (v2 : Int32) (hf : f_X2_unhear_28 X s0 s1 v1 v2 = some R) : Z z (yK D cI ad) 3 (zQV z (yK D cI ad) R) X 28 [(0, .ref (ad 7)), (1, .int v1), (2, .int v2)] [.int s0, .int s1, .ref (ad 7)] := by
  unfold f_X2_unhear_28 at hf
  refine z_isub F dX2_unhear_28 ?_
  refine pK_7_17 F hf wm_177 dX2_unhear_29 (fun X_1 hf => ?_)
  refine z_aload_n F dX2_unhear_32 0 rfl rfl ?_
  refine gK_7_13 F wm_170 dX2_unhear_33 ?_
  refine z_iload_n F dX2_unhear_36 1 rfl rfl ?_
  refine z_ldc F wm_122 dX2_unhear_37 ?_
  refine sK_15 F hf dX2_unhear_39 (fun X_2 hf => ?_)
  refine z_aload_n F dX2_unhear_40 0 rfl rfl ?_
  refine z_dup F dX2_unhear_41 rfl ?_
  refine gK_7_15 F wm_174 dX2_unhear_42 ?_
  refine z_iconst (v := 1) F dX2_unhear_45 (by decide +kernel) ?_
  refine z_iload_n F dX2_unhear_46 1 rfl rfl ?_
  refine z_ishl F dX2_unhear_47 ?_
  refine z_iconst (v := (-1)) F dX2_unhear_48 (by decide +kernel) ?_
  refine z_ixor F dX2_unhear_49 ?_
  refine z_iand F dX2_unhear_50 ?_
  refine pK_7_15 F hf wm_174 dX2_unhear_51 (fun X_3 hf => ?_)
  refine z_aload_n F dX2_unhear_54 0 rfl rfl ?_
  refine z_iload_n F dX2_unhear_55 1 rfl rfl ?_
  refine pK_7_14 F hf wm_172 dX2_unhear_56 (fun X_4 hf => ?_)
  refine z_aload_n F dX2_unhear_59 0 rfl rfl ?_
  refine z_iload_n F dX2_unhear_60 2 rfl rfl ?_
  refine pK_7_16 F hf wm_175 dX2_unhear_61 (fun X_5 hf => ?_)
  exact z_vret F dX2_unhear_64 (Option.some.inj hf)
set_option maxHeartbeats 4000000 in
set_option maxRecDepth 100000 in
theorem z_X2_unhear {z : ZC} {D : va_G} {cI : ClassId} {ad : Nat → Nat} {R : KX} (F : ZF z (yK D cI ad) cX2_unhear RX2 3 none 1) (X : KX) (a1 : Int32) (a2 : Int32) (hf : f_X2_unhear X a1 a2 = some R) : Z z (yK D cI ad) 3 (zQV z (yK D cI ad) R) X 0 [(0, .ref (ad 7)), (1, .int a1), (2, .int a2)] [] := by
  unfold f_X2_unhear at hf
  refine z_aload_n F dX2_unhear_0 0 rfl rfl ?_
  refine z_iconst (v := 0) F dX2_unhear_1 (by decide +kernel) ?_
  refine pK_7_18 F hf wm_179 dX2_unhear_2 (fun X_1 hf => ?_)
  refine z_aload_n F dX2_unhear_5 0 rfl rfl ?_
  refine z_dup F dX2_unhear_6 rfl ?_
  refine gK_7_17 F wm_177 dX2_unhear_7 ?_
  refine z_aload_n F dX2_unhear_10 0 rfl rfl ?_
  refine gK_7_13 F wm_170 dX2_unhear_11 ?_
  refine z_iload_n F dX2_unhear_14 1 rfl rfl ?_
  refine lK_15 F hf dX2_unhear_15 (fun hf => ?_)
  refine z_aload_n F dX2_unhear_16 0 rfl rfl ?_
  refine gK_7_2 F wm_129 dX2_unhear_17 ?_
  refine z_icmp_ne (tgt := 27) F hf dX2_unhear_20 (by decide) (fun hf => ?_) (fun hf => ?_)
  · refine z_iconst (v := 0) F dX2_unhear_27 (by decide +kernel) ?_
    exact z_sub [0, 1, 2] rfl (z_X2_unhear_28 F X_1 0 (X_1 7 17) a1 a2 hf)
  · refine z_iconst (v := 1) F dX2_unhear_23 (by decide +kernel) ?_
    refine z_goto (tgt := 28) F dX2_unhear_24 (by decide) ?_
    exact z_sub [0, 1, 2] rfl (z_X2_unhear_28 F X_1 1 (X_1 7 17) a1 a2 hf)
theorem c_X2_unhear {D : va_G} {cI : ClassId} {ad : Nat → Nat} {R : KX} (X : KX) (a1 : Int32) (a2 : Int32) (hf : f_X2_unhear X a1 a2 = some R) : zMV (yK D cI ad) yX2_unhear cX2_unhear 3 none 1 [.ref (ad 7), .int a1, .int a2] X R := zMV_of (by decide +kernel) (Nat.le_of_ble_eq_true rfl) (fun z F => z_sub [0, 1, 2] rfl (z_X2_unhear F X a1 a2 hf))
theorem k_X2_unhear {z : ZC} {D : va_G} {cI : ClassId} {ad : Nat → Nat} {cc : ByteArray} {own : String} {nL d pc index : Nat} {ret : Option FieldType} {Q : State → Prop} {X : KX} {L : List (Nat × Value)} {rest : List Value} {a1 a2 : Int32} (F : ZF z (yK D cI ad) cc own nL ret d) (hd : 1 + 1 ≤ d) (hw : Cond.methodLink own index yX2_unhear ∈ wsA) (hst : (rest.map fun v => v.category).sum ≤ 8) {β : Type} {e : KX → Option β} {r : β} (hf : zB1 (f_X2_unhear X a1 a2) e = some r) (hdg : decode cc pc = .ok (.invokevirtual index, 3)) (kk : ∀ X2 : KX, e X2 = some r → Z z (yK D cI ad) nL Q X2 (pc + 3) L rest) : Z z (yK D cI ad) nL Q X pc L (.int a2 :: .int a1 :: .ref (ad 7) :: rest) := by
  obtain ⟨v, h1, h2⟩ := zB1_some hf
  exact z_cVV (As := [.int a1, .int a2]) F (c_X2_unhear X a1 a2 h1) kn_X2_unhear kv_X2_unhear hw (q0 := 7) rfl rfl hd rfl hst hdg rfl (kk v h2)
theorem kv_X6_takeBack : zKv yX6_takeBack := ⟨wm_529, wm_11⟩
theorem kn_X6_takeBack : zKn yX6_takeBack cX6_takeBack 4 none 3 := ⟨wm_530, wm_55, by decide +kernel, by decide⟩
set_option maxHeartbeats 4000000 in
set_option maxRecDepth 100000 in
theorem z_X6_takeBack {z : ZC} {D : va_G} {cI : ClassId} {ad : Nat → Nat} {R : KX} (F : ZF z (yK D cI ad) cX6_takeBack RX6 4 none 4) (X : KX) (a1 : Int32) (a2 : Int32) (a3 : Int32) (hf : f_X6_takeBack X a1 a2 a3 = some R) : Z z (yK D cI ad) 4 (zQV z (yK D cI ad) R) X 0 [(0, .ref (ad 0)), (1, .int a1), (2, .int a2), (3, .int a3)] [] := by
  unfold f_X6_takeBack at hf
  refine z_iload_n F dX6_takeBack_0 1 rfl rfl ?_
  refine zIte hf (fun c0 hf => ?_) (fun c0 hf => ?_)
  · refine z_swIn (v := 0) (off := 27) (tgt := 28) F c0 dX6_takeBack_1 (by decide +kernel) ?_
    refine z_aload_n F dX6_takeBack_28 0 rfl rfl ?_
    refine gK_0_2 F wm_276 dX6_takeBack_29 ?_
    refine k_X2_dismiss F (by decide) wm_531 (Nat.le_of_ble_eq_true rfl) hf dX6_takeBack_32 (fun X_1 hf => ?_)
    refine z_goto (tgt := 72) F dX6_takeBack_35 (by decide) ?_
    exact z_vret F dX6_takeBack_72 (Option.some.inj hf)
  · refine zIte hf (fun c1 hf => ?_) (fun c1 hf => ?_)
    · refine z_swIn (v := 1) (off := 37) (tgt := 38) F c1 dX6_takeBack_1 (by decide +kernel) ?_
      refine z_aload_n F dX6_takeBack_38 0 rfl rfl ?_
      refine gK_0_2 F wm_276 dX6_takeBack_39 ?_
      refine z_iload_n F dX6_takeBack_42 2 rfl rfl ?_
      refine z_iload_n F dX6_takeBack_43 3 rfl rfl ?_
      refine k_X2_conceal F (by decide) wm_535 (Nat.le_of_ble_eq_true rfl) hf dX6_takeBack_44 (fun X_2 hf => ?_)
      refine z_goto (tgt := 72) F dX6_takeBack_47 (by decide) ?_
      exact z_vret F dX6_takeBack_72 (Option.some.inj hf)
    · refine zIte hf (fun c2 hf => ?_) (fun c2 hf => ?_)
      · refine z_swIn (v := 2) (off := 49) (tgt := 50) F c2 dX6_takeBack_1 (by decide +kernel) ?_
        refine z_aload_n F dX6_takeBack_50 0 rfl rfl ?_
        refine gK_0_2 F wm_276 dX6_takeBack_51 ?_
        refine z_iload_n F dX6_takeBack_54 2 rfl rfl ?_
        refine z_iload_n F dX6_takeBack_55 3 rfl rfl ?_
        refine k_X2_unhear F (by decide) wm_540 (Nat.le_of_ble_eq_true rfl) hf dX6_takeBack_56 (fun X_3 hf => ?_)
        refine z_goto (tgt := 72) F dX6_takeBack_59 (by decide) ?_
        exact z_vret F dX6_takeBack_72 (Option.some.inj hf)
      · refine z_swOut (tgt := 62) F dX6_takeBack_1 (by have e0 := lv_neT c0 (show (0 : Int32).toInt = 0 by decide +kernel); have e1 := lv_neT c1 (show (1 : Int32).toInt = 1 by decide +kernel); have e2 := lv_neT c2 (show (2 : Int32).toInt = 2 by decide +kernel); omega) (by decide) ?_
        refine z_aload_n F dX6_takeBack_62 0 rfl rfl ?_
        refine gK_0_2 F wm_276 dX6_takeBack_63 ?_
        refine gK_7_12 F wm_169 dX6_takeBack_66 ?_
        refine z_iload_n F dX6_takeBack_69 2 rfl rfl ?_
        refine z_iload_n F dX6_takeBack_70 3 rfl rfl ?_
        refine sK_14 F hf dX6_takeBack_71 (fun X_4 hf => ?_)
        exact z_vret F dX6_takeBack_72 (Option.some.inj hf)
theorem c_X6_takeBack {D : va_G} {cI : ClassId} {ad : Nat → Nat} {R : KX} (X : KX) (a1 : Int32) (a2 : Int32) (a3 : Int32) (hf : f_X6_takeBack X a1 a2 a3 = some R) : zMV (yK D cI ad) yX6_takeBack cX6_takeBack 4 none 4 [.ref (ad 0), .int a1, .int a2, .int a3] X R := zMV_of (by decide +kernel) (Nat.le_of_ble_eq_true rfl) (fun z F => z_sub [0, 1, 2, 3] rfl (z_X6_takeBack F X a1 a2 a3 hf))
theorem k_X6_takeBack {z : ZC} {D : va_G} {cI : ClassId} {ad : Nat → Nat} {cc : ByteArray} {own : String} {nL d pc index : Nat} {ret : Option FieldType} {Q : State → Prop} {X : KX} {L : List (Nat × Value)} {rest : List Value} {a1 a2 a3 : Int32} (F : ZF z (yK D cI ad) cc own nL ret d) (hd : 4 + 1 ≤ d) (hw : Cond.methodLink own index yX6_takeBack ∈ wsA) (hst : (rest.map fun v => v.category).sum ≤ 8) {β : Type} {e : KX → Option β} {r : β} (hf : zB1 (f_X6_takeBack X a1 a2 a3) e = some r) (hdg : decode cc pc = .ok (.invokevirtual index, 3)) (kk : ∀ X2 : KX, e X2 = some r → Z z (yK D cI ad) nL Q X2 (pc + 3) L rest) : Z z (yK D cI ad) nL Q X pc L (.int a3 :: .int a2 :: .int a1 :: .ref (ad 0) :: rest) := by
  obtain ⟨v, h1, h2⟩ := zB1_some hf
  exact z_cVV (As := [.int a1, .int a2, .int a3]) F (c_X6_takeBack X a1 a2 a3 h1) kn_X6_takeBack kv_X6_takeBack hw (q0 := 0) rfl rfl hd rfl hst hdg rfl (kk v h2)
theorem kv_X6_undo : zKv yX6_undo := ⟨wm_520, wm_521⟩
theorem kn_X6_undo : zKn yX6_undo cX6_undo 2 (some .int) 0 := ⟨wm_522, wm_55, by decide +kernel, by decide⟩
set_option maxHeartbeats 4000000 in
set_option maxRecDepth 100000 in
theorem z_X6_undo {z : ZC} {D : va_G} {cI : ClassId} {ad : Nat → Nat} {R : Int32 × KX} (F : ZF z (yK D cI ad) cX6_undo RX6 2 (some .int) 5) (X : KX)  (hf : f_X6_undo X = some R) : Z z (yK D cI ad) 2 (zQI z (yK D cI ad) R) X 0 [(0, .ref (ad 0))] [] := by
  unfold f_X6_undo at hf
  refine z_aload_n F dX6_undo_0 0 rfl rfl ?_
  refine gK_0_6 F wm_280 dX6_undo_1 ?_
  refine gK_43_3 F wm_233 dX6_undo_4 ?_
  refine z_if_ne (tgt := 13) F hf dX6_undo_7 (by decide) (fun hf => ?_) (fun hf => ?_)
  · refine z_aload_n F dX6_undo_13 0 rfl rfl ?_
    refine gK_0_6 F wm_280 dX6_undo_14 ?_
    refine k_X0_takeLatest F (by decide) wm_523 (Nat.le_of_ble_eq_true rfl) hf dX6_undo_17 (fun r_1 X_2 hf => ?_)
    refine z_istore_n (L' := [(1, .int r_1), (0, .ref (ad 0))]) F dX6_undo_20 rfl (Nat.le_of_ble_eq_true rfl) rfl ?_
    refine z_aload_n F dX6_undo_21 1 rfl rfl ?_
    refine z_aload_n F dX6_undo_22 1 rfl rfl ?_
    refine gK_0_6 F wm_280 dX6_undo_23 ?_
    refine gK_43_0 F wm_227 dX6_undo_26 ?_
    refine z_iload_n F dX6_undo_29 0 rfl rfl ?_
    refine lK_44 F hf dX6_undo_30 (fun hf => ?_)
    refine z_aload_n F dX6_undo_31 1 rfl rfl ?_
    refine gK_0_6 F wm_280 dX6_undo_32 ?_
    refine gK_43_1 F wm_229 dX6_undo_35 ?_
    refine z_iload_n F dX6_undo_38 0 rfl rfl ?_
    refine lK_45 F hf dX6_undo_39 (fun hf => ?_)
    refine z_aload_n F dX6_undo_40 1 rfl rfl ?_
    refine gK_0_6 F wm_280 dX6_undo_41 ?_
    refine gK_43_2 F wm_231 dX6_undo_44 ?_
    refine z_iload_n F dX6_undo_47 0 rfl rfl ?_
    refine lK_46 F hf dX6_undo_48 (fun hf => ?_)
    refine k_X6_takeBack F (by decide) wm_527 (Nat.le_of_ble_eq_true rfl) hf dX6_undo_49 (fun X_3 hf => ?_)
    refine z_aload_n F dX6_undo_52 1 rfl rfl ?_
    refine gK_0_6 F wm_280 dX6_undo_53 ?_
    refine gK_43_3 F wm_233 dX6_undo_56 ?_
    exact z_iret F dX6_undo_59 (Option.some.inj hf)
  · refine z_ldc F wm_457 dX6_undo_10 ?_
    exact z_iret F dX6_undo_12 (Option.some.inj hf)
theorem c_X6_undo {D : va_G} {cI : ClassId} {ad : Nat → Nat} {R : Int32 × KX} (X : KX)  (hf : f_X6_undo X = some R) : zMI (yK D cI ad) yX6_undo cX6_undo 2 (some .int) 5 [.ref (ad 0)] X R := zMI_of (by decide +kernel) (Nat.le_of_ble_eq_true rfl) (fun z F => z_sub [0] rfl (z_X6_undo F X hf))
theorem k_X6_undo {z : ZC} {D : va_G} {cI : ClassId} {ad : Nat → Nat} {cc : ByteArray} {own : String} {nL d pc index : Nat} {ret : Option FieldType} {Q : State → Prop} {X : KX} {L : List (Nat × Value)} {rest : List Value} (F : ZF z (yK D cI ad) cc own nL ret d) (hd : 5 + 1 ≤ d) (hw : Cond.methodLink own index yX6_undo ∈ wsA) (hst : (rest.map fun v => v.category).sum ≤ 8) {β : Type} {e : Int32 → KX → Option β} {r : β} (hf : zB2 (f_X6_undo X) e = some r) (hdg : decode cc pc = .ok (.invokevirtual index, 3)) (kk : ∀ (v : Int32) (X2 : KX), e v X2 = some r → Z z (yK D cI ad) nL Q X2 (pc + 3) L (.int v :: rest)) : Z z (yK D cI ad) nL Q X pc L (.ref (ad 0) :: rest) := by
  obtain ⟨v, X2, h1, h2⟩ := zB2_some hf
  exact z_cVI (As := []) F (c_X6_undo X h1) kn_X6_undo kv_X6_undo hw (q0 := 0) rfl rfl hd rfl hst hdg rfl (kk v X2 h2)
theorem kv_X6_guest : zKv yX6_guest := ⟨wm_545, wm_546⟩
theorem kn_X6_guest : zKn yX6_guest cX6_guest 3 (some .int) 2 := ⟨wm_547, wm_55, by decide +kernel, by decide⟩
set_option maxHeartbeats 4000000 in
set_option maxRecDepth 100000 in
theorem z_X6_guest {z : ZC} {D : va_G} {cI : ClassId} {ad : Nat → Nat} {r : Int32} (F : ZF z (yK D cI ad) cX6_guest RX6 3 (some .int) 3) (X : KX) (a1 : Int32) (a2 : Int32) (hf : f_X6_guest X a1 a2 = some r) : Z z (yK D cI ad) 3 (zQI z (yK D cI ad) (r, X)) X 0 [(0, .ref (ad 0)), (1, .int a1), (2, .int a2)] [] := by
  unfold f_X6_guest at hf
  refine z_aload_n F dX6_guest_0 0 rfl rfl ?_
  refine gK_0_2 F wm_276 dX6_guest_1 ?_
  refine z_iload_n F dX6_guest_4 1 rfl rfl ?_
  refine k_X2_isGuest F (by decide) wm_445 (Nat.le_of_ble_eq_true rfl) dX6_guest_5 ?_
  refine z_if_ne (tgt := 14) F hf dX6_guest_8 (by decide) (fun hf => ?_) (fun hf => ?_)
  · refine z_iload_n F dX6_guest_14 2 rfl rfl ?_
    refine zIte hf (fun c0 hf => ?_) (fun c0 hf => ?_)
    · refine z_swIn (v := 0) (off := 33) (tgt := 48) F c0 dX6_guest_15 (by decide +kernel) ?_
      refine z_aload_n F dX6_guest_48 0 rfl rfl ?_
      refine gK_0_2 F wm_276 dX6_guest_49 ?_
      refine gK_7_10 F wm_163 dX6_guest_52 ?_
      refine z_iload_n F dX6_guest_55 1 rfl rfl ?_
      refine lK_12 F hf dX6_guest_56 (fun hf => ?_)
      exact z_iret F dX6_guest_57 (Prod.ext (Option.some.inj hf) rfl)
    · refine zIte hf (fun c1 hf => ?_) (fun c1 hf => ?_)
      · refine z_swIn (v := 1) (off := 43) (tgt := 58) F c1 dX6_guest_15 (by decide +kernel) ?_
        refine z_aload_n F dX6_guest_58 0 rfl rfl ?_
        refine gK_0_2 F wm_276 dX6_guest_59 ?_
        refine gK_7_11 F wm_166 dX6_guest_62 ?_
        refine z_iload_n F dX6_guest_65 1 rfl rfl ?_
        refine lK_13 F hf dX6_guest_66 (fun hf => ?_)
        exact z_iret F dX6_guest_67 (Prod.ext (Option.some.inj hf) rfl)
      · refine zIte hf (fun c2 hf => ?_) (fun c2 hf => ?_)
        · refine z_swIn (v := 2) (off := 53) (tgt := 68) F c2 dX6_guest_15 (by decide +kernel) ?_
          refine z_aload_n F dX6_guest_68 0 rfl rfl ?_
          refine gK_0_2 F wm_276 dX6_guest_69 ?_
          refine gK_7_12 F wm_169 dX6_guest_72 ?_
          refine z_iload_n F dX6_guest_75 1 rfl rfl ?_
          refine lK_14 F hf dX6_guest_76 (fun hf => ?_)
          exact z_iret F dX6_guest_77 (Prod.ext (Option.some.inj hf) rfl)
        · refine zIte hf (fun c3 hf => ?_) (fun c3 hf => ?_)
          · refine z_swIn (v := 3) (off := 63) (tgt := 78) F c3 dX6_guest_15 (by decide +kernel) ?_
            refine z_aload_n F dX6_guest_78 0 rfl rfl ?_
            refine gK_0_2 F wm_276 dX6_guest_79 ?_
            refine z_iload_n F dX6_guest_82 1 rfl rfl ?_
            refine k_X2_stateOf F (by decide) wm_450 (Nat.le_of_ble_eq_true rfl) dX6_guest_83 ?_
            exact z_iret F dX6_guest_86 (Prod.ext (Option.some.inj hf) rfl)
          · refine zIte hf (fun c4 hf => ?_) (fun c4 hf => ?_)
            · refine z_swIn (v := 4) (off := 72) (tgt := 87) F c4 dX6_guest_15 (by decide +kernel) ?_
              refine z_aload_n F dX6_guest_87 0 rfl rfl ?_
              refine gK_0_2 F wm_276 dX6_guest_88 ?_
              refine gK_7_13 F wm_171 dX6_guest_91 ?_
              refine z_iload_n F dX6_guest_94 1 rfl rfl ?_
              refine lK_15 F hf dX6_guest_95 (fun hf => ?_)
              exact z_iret F dX6_guest_96 (Prod.ext (Option.some.inj hf) rfl)
            · refine z_swOut (tgt := 97) F dX6_guest_15 (by have e0 := lv_neT c0 (show (0 : Int32).toInt = 0 by decide +kernel); have e1 := lv_neT c1 (show (1 : Int32).toInt = 1 by decide +kernel); have e2 := lv_neT c2 (show (2 : Int32).toInt = 2 by decide +kernel); have e3 := lv_neT c3 (show (3 : Int32).toInt = 3 by decide +kernel); have e4 := lv_neT c4 (show (4 : Int32).toInt = 4 by decide +kernel); omega) (by decide) ?_
              refine z_ldc F wm_315 dX6_guest_97 ?_
              exact z_iret F dX6_guest_99 (Prod.ext (Option.some.inj hf) rfl)
  · refine z_ldc F wm_315 dX6_guest_11 ?_
    exact z_iret F dX6_guest_13 (Prod.ext (Option.some.inj hf) rfl)
theorem c_X6_guest {D : va_G} {cI : ClassId} {ad : Nat → Nat} {r : Int32} (X : KX) (a1 : Int32) (a2 : Int32) (hf : f_X6_guest X a1 a2 = some r) : zMI (yK D cI ad) yX6_guest cX6_guest 3 (some .int) 3 [.ref (ad 0), .int a1, .int a2] X (r, X) := zMI_of (by decide +kernel) (Nat.le_of_ble_eq_true rfl) (fun z F => z_sub [0, 1, 2] rfl (z_X6_guest F X a1 a2 hf))
theorem k_X6_guest {z : ZC} {D : va_G} {cI : ClassId} {ad : Nat → Nat} {cc : ByteArray} {own : String} {nL d pc index : Nat} {ret : Option FieldType} {Q : State → Prop} {X : KX} {L : List (Nat × Value)} {rest : List Value} {a1 a2 : Int32} (F : ZF z (yK D cI ad) cc own nL ret d) (hd : 3 + 1 ≤ d) (hw : Cond.methodLink own index yX6_guest ∈ wsA) (hst : (rest.map fun v => v.category).sum ≤ 8) {β : Type} {e : Int32 → Option β} {r : β} (hf : zB1 (f_X6_guest X a1 a2) e = some r) (hdg : decode cc pc = .ok (.invokevirtual index, 3)) (kk : ∀ v : Int32, e v = some r → Z z (yK D cI ad) nL Q X (pc + 3) L (.int v :: rest)) : Z z (yK D cI ad) nL Q X pc L (.int a2 :: .int a1 :: .ref (ad 0) :: rest) := by
  obtain ⟨v, h1, h2⟩ := zB1_some hf
  exact z_cVI (As := [.int a1, .int a2]) F (c_X6_guest X a1 a2 h1) kn_X6_guest kv_X6_guest hw (q0 := 0) rfl rfl hd rfl hst hdg rfl (kk v h2)
theorem kv_X6_hint : zKv yX6_hint := ⟨wm_549, wm_550⟩
theorem kn_X6_hint : zKn yX6_hint cX6_hint 3 (some .int) 2 := ⟨wm_551, wm_55, by decide +kernel, by decide⟩
set_option maxHeartbeats 4000000 in
set_option maxRecDepth 100000 in
theorem z_X6_hint {z : ZC} {D : va_G} {cI : ClassId} {ad : Nat → Nat} {r : Int32} (F : ZF z (yK D cI ad) cX6_hint RX6 3 (some .int) 3) (X : KX) (a1 : Int32) (a2 : Int32) (hf : f_X6_hint X a1 a2 = some r) : Z z (yK D cI ad) 3 (zQI z (yK D cI ad) (r, X)) X 0 [(0, .ref (ad 0)), (1, .int a1), (2, .int a2)] [] := by
  unfold f_X6_hint at hf
  refine z_aload_n F dX6_hint_0 0 rfl rfl ?_
  refine gK_0_2 F wm_276 dX6_hint_1 ?_
  refine z_iload_n F dX6_hint_4 1 rfl rfl ?_
  refine k_X2_isHint F (by decide) wm_470 (Nat.le_of_ble_eq_true rfl) dX6_hint_5 ?_
  refine z_if_ne (tgt := 14) F hf dX6_hint_8 (by decide) (fun hf => ?_) (fun hf => ?_)
  · refine z_iload_n F dX6_hint_14 2 rfl rfl ?_
    refine zIte hf (fun c0 hf => ?_) (fun c0 hf => ?_)
    · refine z_swIn (v := 0) (off := 29) (tgt := 44) F c0 dX6_hint_15 (by decide +kernel) ?_
      refine z_aload_n F dX6_hint_44 0 rfl rfl ?_
      refine gK_0_2 F wm_276 dX6_hint_45 ?_
      refine gK_7_7 F wm_151 dX6_hint_48 ?_
      refine z_iload_n F dX6_hint_51 1 rfl rfl ?_
      refine lK_9 F hf dX6_hint_52 (fun hf => ?_)
      exact z_iret F dX6_hint_53 (Prod.ext (Option.some.inj hf) rfl)
    · refine zIte hf (fun c1 hf => ?_) (fun c1 hf => ?_)
      · refine z_swIn (v := 1) (off := 39) (tgt := 54) F c1 dX6_hint_15 (by decide +kernel) ?_
        refine z_aload_n F dX6_hint_54 0 rfl rfl ?_
        refine gK_0_2 F wm_276 dX6_hint_55 ?_
        refine gK_7_8 F wm_155 dX6_hint_58 ?_
        refine z_iload_n F dX6_hint_61 1 rfl rfl ?_
        refine lK_10 F hf dX6_hint_62 (fun hf => ?_)
        exact z_iret F dX6_hint_63 (Prod.ext (Option.some.inj hf) rfl)
      · refine zIte hf (fun c2 hf => ?_) (fun c2 hf => ?_)
        · refine z_swIn (v := 2) (off := 49) (tgt := 64) F c2 dX6_hint_15 (by decide +kernel) ?_
          refine z_aload_n F dX6_hint_64 0 rfl rfl ?_
          refine gK_0_2 F wm_276 dX6_hint_65 ?_
          refine gK_7_9 F wm_159 dX6_hint_68 ?_
          refine z_iload_n F dX6_hint_71 1 rfl rfl ?_
          refine lK_11 F hf dX6_hint_72 (fun hf => ?_)
          exact z_iret F dX6_hint_73 (Prod.ext (Option.some.inj hf) rfl)
        · refine zIte hf (fun c3 hf => ?_) (fun c3 hf => ?_)
          · refine z_swIn (v := 3) (off := 59) (tgt := 74) F c3 dX6_hint_15 (by decide +kernel) ?_
            refine z_aload_n F dX6_hint_74 0 rfl rfl ?_
            refine gK_0_2 F wm_276 dX6_hint_75 ?_
            refine gK_7_16 F wm_176 dX6_hint_78 ?_
            refine z_iload_n F dX6_hint_81 1 rfl rfl ?_
            refine k_X6_has F (by decide) wm_474 (Nat.le_of_ble_eq_true rfl) dX6_hint_82 ?_
            refine z_if_eq (tgt := 92) F hf dX6_hint_85 (by decide) (fun hf => ?_) (fun hf => ?_)
            · refine z_iconst (v := 0) F dX6_hint_92 (by decide +kernel) ?_
              exact z_iret F dX6_hint_93 (Prod.ext (Option.some.inj hf) rfl)
            · refine z_iconst (v := 1) F dX6_hint_88 (by decide +kernel) ?_
              refine z_goto (tgt := 93) F dX6_hint_89 (by decide) ?_
              exact z_iret F dX6_hint_93 (Prod.ext (Option.some.inj hf) rfl)
          · refine z_swOut (tgt := 94) F dX6_hint_15 (by have e0 := lv_neT c0 (show (0 : Int32).toInt = 0 by decide +kernel); have e1 := lv_neT c1 (show (1 : Int32).toInt = 1 by decide +kernel); have e2 := lv_neT c2 (show (2 : Int32).toInt = 2 by decide +kernel); have e3 := lv_neT c3 (show (3 : Int32).toInt = 3 by decide +kernel); omega) (by decide) ?_
            refine z_ldc F wm_315 dX6_hint_94 ?_
            exact z_iret F dX6_hint_96 (Prod.ext (Option.some.inj hf) rfl)
  · refine z_ldc F wm_315 dX6_hint_11 ?_
    exact z_iret F dX6_hint_13 (Prod.ext (Option.some.inj hf) rfl)
theorem c_X6_hint {D : va_G} {cI : ClassId} {ad : Nat → Nat} {r : Int32} (X : KX) (a1 : Int32) (a2 : Int32) (hf : f_X6_hint X a1 a2 = some r) : zMI (yK D cI ad) yX6_hint cX6_hint 3 (some .int) 3 [.ref (ad 0), .int a1, .int a2] X (r, X) := zMI_of (by decide +kernel) (Nat.le_of_ble_eq_true rfl) (fun z F => z_sub [0, 1, 2] rfl (z_X6_hint F X a1 a2 hf))
theorem k_X6_hint {z : ZC} {D : va_G} {cI : ClassId} {ad : Nat → Nat} {cc : ByteArray} {own : String} {nL d pc index : Nat} {ret : Option FieldType} {Q : State → Prop} {X : KX} {L : List (Nat × Value)} {rest : List Value} {a1 a2 : Int32} (F : ZF z (yK D cI ad) cc own nL ret d) (hd : 3 + 1 ≤ d) (hw : Cond.methodLink own index yX6_hint ∈ wsA) (hst : (rest.map fun v => v.category).sum ≤ 8) {β : Type} {e : Int32 → Option β} {r : β} (hf : zB1 (f_X6_hint X a1 a2) e = some r) (hdg : decode cc pc = .ok (.invokevirtual index, 3)) (kk : ∀ v : Int32, e v = some r → Z z (yK D cI ad) nL Q X (pc + 3) L (.int v :: rest)) : Z z (yK D cI ad) nL Q X pc L (.int a2 :: .int a1 :: .ref (ad 0) :: rest) := by
  obtain ⟨v, h1, h2⟩ := zB1_some hf
  exact z_cVI (As := [.int a1, .int a2]) F (c_X6_hint X a1 a2 h1) kn_X6_hint kv_X6_hint hw (q0 := 0) rfl rfl hd rfl hst hdg rfl (kk v h2)
theorem kv_X6_leads : zKv yX6_leads := ⟨wm_553, wm_554⟩
theorem kn_X6_leads : zKn yX6_leads cX6_leads 3 (some .int) 2 := ⟨wm_555, wm_55, by decide +kernel, by decide⟩
set_option maxHeartbeats 4000000 in
set_option maxRecDepth 100000 in
theorem z_X6_leads {z : ZC} {D : va_G} {cI : ClassId} {ad : Nat → Nat} {r : Int32} (F : ZF z (yK D cI ad) cX6_leads RX6 3 (some .int) 3) (X : KX) (a1 : Int32) (a2 : Int32) (hf : f_X6_leads X a1 a2 = some r) : Z z (yK D cI ad) 3 (zQI z (yK D cI ad) (r, X)) X 0 [(0, .ref (ad 0)), (1, .int a1), (2, .int a2)] [] := by
  unfold f_X6_leads at hf
  refine z_aload_n F dX6_leads_0 0 rfl rfl ?_
  refine gK_0_2 F wm_276 dX6_leads_1 ?_
  refine z_iload_n F dX6_leads_4 1 rfl rfl ?_
  refine k_X2_isHint F (by decide) wm_470 (Nat.le_of_ble_eq_true rfl) dX6_leads_5 ?_
  refine z_if_eq (tgt := 20) F hf dX6_leads_8 (by decide) (fun hf => ?_) (fun hf => ?_)
  · refine z_ldc F wm_315 dX6_leads_20 ?_
    exact z_iret F dX6_leads_22 (Prod.ext (Option.some.inj hf) rfl)
  · refine z_iload_n F dX6_leads_11 2 rfl rfl ?_
    refine z_bipush (v := 8) F dX6_leads_12 (by decide +kernel) ?_
    refine k_X6_isBelow F (by decide) wm_312 (Nat.le_of_ble_eq_true rfl) dX6_leads_14 ?_
    refine z_if_ne (tgt := 23) F hf dX6_leads_17 (by decide) (fun hf => ?_) (fun hf => ?_)
    · refine z_aload_n F dX6_leads_23 0 rfl rfl ?_
      refine gK_0_2 F wm_276 dX6_leads_24 ?_
      refine z_iload_n F dX6_leads_27 2 rfl rfl ?_
      refine z_iload_n F dX6_leads_28 1 rfl rfl ?_
      refine z_aload_n F dX6_leads_29 0 rfl rfl ?_
      refine gK_0_2 F wm_276 dX6_leads_30 ?_
      refine gK_7_9 F wm_159 dX6_leads_33 ?_
      refine z_iload_n F dX6_leads_36 1 rfl rfl ?_
      refine lK_11 F hf dX6_leads_37 (fun hf => ?_)
      refine k_X2_ledFrom F (by decide) wm_556 (Nat.le_of_ble_eq_true rfl) hf dX6_leads_38 (fun r_1 hf => ?_)
      exact z_iret F dX6_leads_41 (Prod.ext (Option.some.inj hf) rfl)
    · refine z_ldc F wm_315 dX6_leads_20 ?_
      exact z_iret F dX6_leads_22 (Prod.ext (Option.some.inj hf) rfl)
theorem c_X6_leads {D : va_G} {cI : ClassId} {ad : Nat → Nat} {r : Int32} (X : KX) (a1 : Int32) (a2 : Int32) (hf : f_X6_leads X a1 a2 = some r) : zMI (yK D cI ad) yX6_leads cX6_leads 3 (some .int) 3 [.ref (ad 0), .int a1, .int a2] X (r, X) := zMI_of (by decide +kernel) (Nat.le_of_ble_eq_true rfl) (fun z F => z_sub [0, 1, 2] rfl (z_X6_leads F X a1 a2 hf))
theorem k_X6_leads {z : ZC} {D : va_G} {cI : ClassId} {ad : Nat → Nat} {cc : ByteArray} {own : String} {nL d pc index : Nat} {ret : Option FieldType} {Q : State → Prop} {X : KX} {L : List (Nat × Value)} {rest : List Value} {a1 a2 : Int32} (F : ZF z (yK D cI ad) cc own nL ret d) (hd : 3 + 1 ≤ d) (hw : Cond.methodLink own index yX6_leads ∈ wsA) (hst : (rest.map fun v => v.category).sum ≤ 8) {β : Type} {e : Int32 → Option β} {r : β} (hf : zB1 (f_X6_leads X a1 a2) e = some r) (hdg : decode cc pc = .ok (.invokevirtual index, 3)) (kk : ∀ v : Int32, e v = some r → Z z (yK D cI ad) nL Q X (pc + 3) L (.int v :: rest)) : Z z (yK D cI ad) nL Q X pc L (.int a2 :: .int a1 :: .ref (ad 0) :: rest) := by
  obtain ⟨v, h1, h2⟩ := zB1_some hf
  exact z_cVI (As := [.int a1, .int a2]) F (c_X6_leads X a1 a2 h1) kn_X6_leads kv_X6_leads hw (q0 := 0) rfl rfl hd rfl hst hdg rfl (kk v h2)
theorem kv_X2_allHints : zKv yX2_allHints := ⟨wm_566, wm_567⟩
theorem kn_X2_allHints : zKn yX2_allHints cX2_allHints 1 (some .int) 0 := ⟨wm_568, wm_58, by decide +kernel, by decide⟩
set_option maxHeartbeats 4000000 in
set_option maxRecDepth 100000 in
theorem z_X2_allHints {z : ZC} {D : va_G} {cI : ClassId} {ad : Nat → Nat} {r : Int32} (F : ZF z (yK D cI ad) cX2_allHints RX2 1 (some .int) 1) (X : KX)  (hf : f_X2_allHints X = r) : Z z (yK D cI ad) 1 (zQI z (yK D cI ad) (r, X)) X 0 [(0, .ref (ad 7))] [] := by
  unfold f_X2_allHints at hf
  refine z_iconst (v := 1) F dX2_allHints_0 (by decide +kernel) ?_
  refine z_aload_n F dX2_allHints_1 0 rfl rfl ?_
  refine gK_7_4 F wm_135 dX2_allHints_2 ?_
  refine z_ishl F dX2_allHints_5 ?_
  refine z_iconst (v := 1) F dX2_allHints_6 (by decide +kernel) ?_
  refine z_isub F dX2_allHints_7 ?_
  exact z_iret F dX2_allHints_8 (Prod.ext hf rfl)
theorem c_X2_allHints {D : va_G} {cI : ClassId} {ad : Nat → Nat} (X : KX)  : zMI (yK D cI ad) yX2_allHints cX2_allHints 1 (some .int) 1 [.ref (ad 7)] X (f_X2_allHints X, X) := zMI_of (by decide +kernel) (Nat.le_of_ble_eq_true rfl) (fun z F => z_sub [0] rfl (z_X2_allHints F X rfl))
theorem k_X2_allHints {z : ZC} {D : va_G} {cI : ClassId} {ad : Nat → Nat} {cc : ByteArray} {own : String} {nL d pc index : Nat} {ret : Option FieldType} {Q : State → Prop} {X : KX} {L : List (Nat × Value)} {rest : List Value} (F : ZF z (yK D cI ad) cc own nL ret d) (hd : 1 + 1 ≤ d) (hw : Cond.methodLink own index yX2_allHints ∈ wsA) (hst : (rest.map fun v => v.category).sum ≤ 8) (hdg : decode cc pc = .ok (.invokevirtual index, 3)) (kk : Z z (yK D cI ad) nL Q X (pc + 3) L (.int (f_X2_allHints X) :: rest)) : Z z (yK D cI ad) nL Q X pc L (.ref (ad 7) :: rest) := z_cVI (As := []) F (c_X2_allHints X) kn_X2_allHints kv_X2_allHints hw (q0 := 7) rfl rfl hd rfl hst hdg rfl kk
theorem kv_X2_hintsAhead : zKv yX2_hintsAhead := ⟨wm_562, wm_563⟩
theorem kn_X2_hintsAhead : zKn yX2_hintsAhead cX2_hintsAhead 2 (some .int) 1 := ⟨wm_564, wm_58, by decide +kernel, by decide⟩
set_option maxHeartbeats 4000000 in
set_option maxRecDepth 100000 in
theorem z_X2_hintsAhead {z : ZC} {D : va_G} {cI : ClassId} {ad : Nat → Nat} {r : Int32} (F : ZF z (yK D cI ad) cX2_hintsAhead RX2 2 (some .int) 2) (X : KX) (a1 : Int32) (hf : f_X2_hintsAhead X a1 = r) : Z z (yK D cI ad) 2 (zQI z (yK D cI ad) (r, X)) X 0 [(0, .ref (ad 7)), (1, .int a1)] [] := by
  unfold f_X2_hintsAhead at hf
  refine z_aload_n F dX2_hintsAhead_0 0 rfl rfl ?_
  refine gK_7_14 F wm_172 dX2_hintsAhead_1 ?_
  refine z_iload_n F dX2_hintsAhead_4 1 rfl rfl ?_
  refine z_icmp_ne (tgt := 22) F hf dX2_hintsAhead_5 (by decide) (fun hf => ?_) (fun hf => ?_)
  · refine z_aload_n F dX2_hintsAhead_22 0 rfl rfl ?_
    refine k_X2_allHints F (by decide) wm_565 (Nat.le_of_ble_eq_true rfl) dX2_hintsAhead_23 ?_
    exact z_iret F dX2_hintsAhead_26 (Prod.ext hf rfl)
  · refine z_aload_n F dX2_hintsAhead_8 0 rfl rfl ?_
    refine k_X2_allHints F (by decide) wm_565 (Nat.le_of_ble_eq_true rfl) dX2_hintsAhead_9 ?_
    refine z_aload_n F dX2_hintsAhead_12 0 rfl rfl ?_
    refine gK_7_16 F wm_175 dX2_hintsAhead_13 ?_
    refine z_iconst (v := (-1)) F dX2_hintsAhead_16 (by decide +kernel) ?_
    refine z_ixor F dX2_hintsAhead_17 ?_
    refine z_iand F dX2_hintsAhead_18 ?_
    refine z_goto (tgt := 26) F dX2_hintsAhead_19 (by decide) ?_
    exact z_iret F dX2_hintsAhead_26 (Prod.ext hf rfl)
theorem c_X2_hintsAhead {D : va_G} {cI : ClassId} {ad : Nat → Nat} (X : KX) (a1 : Int32) : zMI (yK D cI ad) yX2_hintsAhead cX2_hintsAhead 2 (some .int) 2 [.ref (ad 7), .int a1] X (f_X2_hintsAhead X a1, X) := zMI_of (by decide +kernel) (Nat.le_of_ble_eq_true rfl) (fun z F => z_sub [0, 1] rfl (z_X2_hintsAhead F X a1 rfl))
theorem k_X2_hintsAhead {z : ZC} {D : va_G} {cI : ClassId} {ad : Nat → Nat} {cc : ByteArray} {own : String} {nL d pc index : Nat} {ret : Option FieldType} {Q : State → Prop} {X : KX} {L : List (Nat × Value)} {rest : List Value} {a1 : Int32} (F : ZF z (yK D cI ad) cc own nL ret d) (hd : 2 + 1 ≤ d) (hw : Cond.methodLink own index yX2_hintsAhead ∈ wsA) (hst : (rest.map fun v => v.category).sum ≤ 8) (hdg : decode cc pc = .ok (.invokevirtual index, 3)) (kk : Z z (yK D cI ad) nL Q X (pc + 3) L (.int (f_X2_hintsAhead X a1) :: rest)) : Z z (yK D cI ad) nL Q X pc L (.int a1 :: .ref (ad 7) :: rest) := z_cVI (As := [.int a1]) F (c_X2_hintsAhead X a1) kn_X2_hintsAhead kv_X2_hintsAhead hw (q0 := 7) rfl rfl hd rfl hst hdg rfl kk
theorem kv_X3_leadingInto : zKv yX3_leadingInto := ⟨wm_575, wm_12⟩
theorem kn_X3_leadingInto : zKn yX3_leadingInto cX3_leadingInto 5 (some .int) 2 := ⟨wm_576, wm_60, by decide +kernel, by decide⟩
set_option maxHeartbeats 4000000 in
set_option maxRecDepth 100000 in
theorem z_X3_leadingInto_87 {z : ZC} {D : va_G} {cI : ClassId} {ad : Nat → Nat} {r : Int32} {k5 : Int32 → Int32 → Int32 → Option Int32} (F : ZF z (yK D cI ad) cX3_leadingInto RX3 5 (some .int) 2) (n : Nat) (X : KX) (hk5 : ∀ (v2 : Int32) (v3 : Int32) (v4 : Int32), k5 v2 v3 v4 = some r → Z z (yK D cI ad) 5 (zQI z (yK D cI ad) (r, X)) X 5 [(0, .ref (ad 47)), (1, .ref (ad 7)), (2, .int v2), (3, .int v3), (4, .int v4)] []) (v2 : Int32) (v3 : Int32) (v4 : Int32) (hf : f_X3_leadingInto_87 n X k5 v2 v3 v4 = some r) : Z z (yK D cI ad) 5 (zQI z (yK D cI ad) (r, X)) X 87 [(0, .ref (ad 47)), (1, .ref (ad 7)), (2, .int v2), (3, .int v3), (4, .int v4)] [] := by
  unfold f_X3_leadingInto_87 at hf
  refine z_iinc (w := 1) (L' := fun v4_1 => [(4, .int v4_1), (0, .ref (ad 47)), (1, .ref (ad 7)), (2, .int v2), (3, .int v3)]) F hf dX3_leadingInto_87 4 rfl (by decide +kernel) (Nat.le_of_ble_eq_true rfl) (fun _ => rfl) (fun v4_1 hf => ?_)
  refine z_goto (tgt := 5) F dX3_leadingInto_90 (by decide) ?_
  exact z_sub [1, 2, 3, 4, 0] rfl (hk5 v2 v3 v4_1 hf)
set_option maxHeartbeats 4000000 in
set_option maxRecDepth 100000 in
theorem z_X3_leadingInto_85 {z : ZC} {D : va_G} {cI : ClassId} {ad : Nat → Nat} {r : Int32} {k5 : Int32 → Int32 → Int32 → Option Int32} (F : ZF z (yK D cI ad) cX3_leadingInto RX3 5 (some .int) 2) (n : Nat) (X : KX) (hk5 : ∀ (v2 : Int32) (v3 : Int32) (v4 : Int32), k5 v2 v3 v4 = some r → Z z (yK D cI ad) 5 (zQI z (yK D cI ad) (r, X)) X 5 [(0, .ref (ad 47)), (1, .ref (ad 7)), (2, .int v2), (3, .int v3), (4, .int v4)] []) (s0 : Int32) (s1 : Int32) (v2 : Int32) (v4 : Int32) (hf : f_X3_leadingInto_85 n X k5 s0 s1 v2 v4 = some r) : Z z (yK D cI ad) 5 (zQI z (yK D cI ad) (r, X)) X 85 [(0, .ref (ad 47)), (1, .ref (ad 7)), (2, .int v2), (4, .int v4)] [.int s0, .int s1] := by
  unfold f_X3_leadingInto_85 at hf
  refine z_ior F dX3_leadingInto_85 ?_
  refine z_top hf (fun v3_1 hf => ?_)
  refine z_istore_n (L' := [(3, .int v3_1), (0, .ref (ad 47)), (1, .ref (ad 7)), (2, .int v2), (4, .int v4)]) F dX3_leadingInto_86 rfl (Nat.le_of_ble_eq_true rfl) rfl ?_
  exact z_sub [1, 2, 3, 0, 4] rfl (z_X3_leadingInto_87 F n X hk5 v2 v3_1 v4 hf)
set_option maxHeartbeats 4000000 in
set_option maxRecDepth 100000 in
theorem z_X3_leadingInto_58 {z : ZC} {D : va_G} {cI : ClassId} {ad : Nat → Nat} {r : Int32} {k5 : Int32 → Int32 → Int32 → Option Int32} (F : ZF z (yK D cI ad) cX3_leadingInto RX3 5 (some .int) 2) (n : Nat) (X : KX) (hk5 : ∀ (v2 : Int32) (v3 : Int32) (v4 : Int32), k5 v2 v3 v4 = some r → Z z (yK D cI ad) 5 (zQI z (yK D cI ad) (r, X)) X 5 [(0, .ref (ad 47)), (1, .ref (ad 7)), (2, .int v2), (3, .int v3), (4, .int v4)] []) (s0 : Int32) (s1 : Int32) (v2 : Int32) (v4 : Int32) (hf : f_X3_leadingInto_58 n X k5 s0 s1 v2 v4 = some r) : Z z (yK D cI ad) 5 (zQI z (yK D cI ad) (r, X)) X 58 [(0, .ref (ad 47)), (1, .ref (ad 7)), (2, .int v2), (4, .int v4)] [.int s0, .int s1] := by
  unfold f_X3_leadingInto_58 at hf
  refine z_ior F dX3_leadingInto_58 ?_
  refine z_top hf (fun v3_1 hf => ?_)
  refine z_istore_n (L' := [(3, .int v3_1), (0, .ref (ad 47)), (1, .ref (ad 7)), (2, .int v2), (4, .int v4)]) F dX3_leadingInto_59 rfl (Nat.le_of_ble_eq_true rfl) rfl ?_
  refine z_iload_n F dX3_leadingInto_60 0 rfl rfl ?_
  refine z_iload_n F dX3_leadingInto_61 3 rfl rfl ?_
  refine z_aload_n F dX3_leadingInto_62 2 rfl rfl ?_
  refine gK_7_7 F wm_148 dX3_leadingInto_63 ?_
  refine z_iload F dX3_leadingInto_66 4 rfl ?_
  refine lK_9 F hf dX3_leadingInto_68 (fun hf => ?_)
  refine k_X6_hasN F (by decide) (fun _ h => h.2.2.1) (Nat.le_of_ble_eq_true rfl) dX3_leadingInto_69 ?_
  refine z_if_eq (tgt := 84) F hf dX3_leadingInto_72 (by decide) (fun hf => ?_) (fun hf => ?_)
  · refine z_iconst (v := 0) F dX3_leadingInto_84 (by decide +kernel) ?_
    exact z_sub [1, 2, 3, 4] rfl (z_X3_leadingInto_85 F n X hk5 0 v3_1 v2 v4 hf)
  · refine z_aload_n F dX3_leadingInto_75 2 rfl rfl ?_
    refine z_iload F dX3_leadingInto_76 4 rfl ?_
    refine k_X2_back F (by decide) wm_579 (Nat.le_of_ble_eq_true rfl) hf dX3_leadingInto_78 (fun r_2 hf => ?_)
    refine z_goto (tgt := 85) F dX3_leadingInto_81 (by decide) ?_
    exact z_sub [1, 2, 3, 4] rfl (z_X3_leadingInto_85 F n X hk5 r_2 v3_1 v2 v4 hf)
set_option maxHeartbeats 4000000 in
set_option maxRecDepth 100000 in
theorem z_X3_leadingInto_5 {z : ZC} {D : va_G} {cI : ClassId} {ad : Nat → Nat} {r : Int32} (F : ZF z (yK D cI ad) cX3_leadingInto RX3 5 (some .int) 2) (n : Nat) (X : KX) : ∀ (t : Nat) (v2 : Int32) (v3 : Int32) (v4 : Int32), f_X3_leadingInto_5 n X t v2 v3 v4 = some r → Z z (yK D cI ad) 5 (zQI z (yK D cI ad) (r, X)) X 5 [(0, .ref (ad 47)), (1, .ref (ad 7)), (2, .int v2), (3, .int v3), (4, .int v4)] [] := by
  intro t
  induction t with
  | zero => intro v2 v3 v4 hf; rw [f_X3_leadingInto_5] at hf; exact zNone hf
  | succ t ih =>
    intro v2 v3 v4 hf
    rw [f_X3_leadingInto_5] at hf
    refine z_iload F dX3_leadingInto_5 4 rfl ?_
    refine z_aload_n F dX3_leadingInto_7 1 rfl rfl ?_
    refine gK_7_4 F wm_136 dX3_leadingInto_8 ?_
    refine z_icmp_ge (tgt := 93) F hf dX3_leadingInto_11 (by decide) (fun hf => ?_) (fun hf => ?_)
    · refine z_iload_n F dX3_leadingInto_93 3 rfl rfl ?_
      exact z_iret F dX3_leadingInto_94 (Prod.ext (Option.some.inj hf) rfl)
    · refine z_aload_n F dX3_leadingInto_14 0 rfl rfl ?_
      refine gK_47_1 F wm_253 dX3_leadingInto_15 ?_
      refine z_iload F dX3_leadingInto_18 4 rfl ?_
      refine k_X6_hasN F (by decide) (fun _ h => h.2.2.1) (Nat.le_of_ble_eq_true rfl) dX3_leadingInto_20 ?_
      refine z_if_eq (tgt := 87) F hf dX3_leadingInto_23 (by decide) (fun hf => ?_) (fun hf => ?_)
      · exact z_sub [0, 1, 2, 3, 4] rfl (z_X3_leadingInto_87 F n X ih v2 v3 v4 hf)
      · refine z_iload_n F dX3_leadingInto_26 3 rfl rfl ?_
        refine z_iload_n F dX3_leadingInto_27 2 rfl rfl ?_
        refine z_aload_n F dX3_leadingInto_28 1 rfl rfl ?_
        refine gK_7_8 F wm_153 dX3_leadingInto_29 ?_
        refine z_iload F dX3_leadingInto_32 4 rfl ?_
        refine lK_10 F hf dX3_leadingInto_34 (fun hf => ?_)
        refine k_X6_hasN F (by decide) (fun _ h => h.2.2.1) (Nat.le_of_ble_eq_true rfl) dX3_leadingInto_35 ?_
        refine z_if_eq (tgt := 57) F hf dX3_leadingInto_38 (by decide) (fun hf => ?_) (fun hf => ?_)
        · refine z_iconst (v := 0) F dX3_leadingInto_57 (by decide +kernel) ?_
          exact z_sub [0, 1, 2, 4] rfl (z_X3_leadingInto_58 F n X ih 0 v3 v2 v4 hf)
        · refine z_aload_n F dX3_leadingInto_41 1 rfl rfl ?_
          refine z_iload F dX3_leadingInto_42 4 rfl ?_
          refine z_aload_n F dX3_leadingInto_44 1 rfl rfl ?_
          refine gK_7_9 F wm_157 dX3_leadingInto_45 ?_
          refine z_iload F dX3_leadingInto_48 4 rfl ?_
          refine lK_11 F hf dX3_leadingInto_50 (fun hf => ?_)
          refine k_X2_forth F (by decide) wm_578 (Nat.le_of_ble_eq_true rfl) hf dX3_leadingInto_51 (fun r_1 hf => ?_)
          refine z_goto (tgt := 58) F dX3_leadingInto_54 (by decide) ?_
          exact z_sub [0, 1, 2, 4] rfl (z_X3_leadingInto_58 F n X ih r_1 v3 v2 v4 hf)
set_option maxHeartbeats 4000000 in
set_option maxRecDepth 100000 in
theorem z_X3_leadingInto {z : ZC} {D : va_G} {cI : ClassId} {ad : Nat → Nat} {r : Int32} (F : ZF z (yK D cI ad) cX3_leadingInto RX3 5 (some .int) 2) (n : Nat) (X : KX) (a2 : Int32) (hf : f_X3_leadingInto n X a2 = some r) : Z z (yK D cI ad) 5 (zQI z (yK D cI ad) (r, X)) X 0 [(0, .ref (ad 47)), (1, .ref (ad 7)), (2, .int a2)] [] := by
  unfold f_X3_leadingInto at hf
  refine z_iload_n F dX3_leadingInto_0 2 rfl rfl ?_
  refine z_istore_n (L' := [(3, .int a2), (0, .ref (ad 47)), (1, .ref (ad 7)), (2, .int a2)]) F dX3_leadingInto_1 rfl (Nat.le_of_ble_eq_true rfl) rfl ?_
  refine z_iconst (v := 0) F dX3_leadingInto_2 (by decide +kernel) ?_
  refine z_istore (L' := [(4, .int 0), (3, .int a2), (0, .ref (ad 47)), (1, .ref (ad 7)), (2, .int a2)]) F dX3_leadingInto_3 (Nat.le_of_ble_eq_true rfl) rfl ?_
  exact z_sub [2, 3, 4, 1, 0] rfl (z_X3_leadingInto_5 F n X n a2 a2 0 hf)
theorem c_X3_leadingInto {D : va_G} {cI : ClassId} {ad : Nat → Nat} {r : Int32} (n : Nat) (X : KX) (a2 : Int32) (hf : f_X3_leadingInto n X a2 = some r) : zMI (yK D cI ad) yX3_leadingInto cX3_leadingInto 5 (some .int) 2 [.ref (ad 47), .ref (ad 7), .int a2] X (r, X) := zMI_of (by decide +kernel) (Nat.le_of_ble_eq_true rfl) (fun z F => z_sub [0, 1, 2] rfl (z_X3_leadingInto F n X a2 hf))
theorem k_X3_leadingInto {z : ZC} {D : va_G} {cI : ClassId} {ad : Nat → Nat} {cc : ByteArray} {own : String} {nL d pc index : Nat} {ret : Option FieldType} {Q : State → Prop} {X : KX} {L : List (Nat × Value)} {rest : List Value} {n : Nat} {a2 : Int32} (F : ZF z (yK D cI ad) cc own nL ret d) (hd : 2 + 1 ≤ d) (hw : Cond.methodLink own index yX3_leadingInto ∈ wsA) (hst : (rest.map fun v => v.category).sum ≤ 8) {β : Type} {e : Int32 → Option β} {r : β} (hf : zB1 (f_X3_leadingInto n X a2) e = some r) (hdg : decode cc pc = .ok (.invokevirtual index, 3)) (kk : ∀ v : Int32, e v = some r → Z z (yK D cI ad) nL Q X (pc + 3) L (.int v :: rest)) : Z z (yK D cI ad) nL Q X pc L (.int a2 :: .ref (ad 7) :: .ref (ad 47) :: rest) := by
  obtain ⟨v, h1, h2⟩ := zB1_some hf
  exact z_cVI (As := [.ref (ad 7), .int a2]) F (c_X3_leadingInto n X a2 h1) kn_X3_leadingInto kv_X3_leadingInto hw (q0 := 47) rfl rfl hd rfl hst hdg rfl (kk v h2)
