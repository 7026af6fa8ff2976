theorem kv_X6_isBelow : Cond.static yX6_isBelow ∈ wsA := wm_313
theorem kn_X6_isBelow : zKn yX6_isBelow cX6_isBelow 2 (some .boolean) 2 := ⟨wm_314, wm_55, by decide +kernel, by decide⟩
set_option maxHeartbeats 4000000 in
set_option maxRecDepth 100000 in
theorem z_X6_isBelow {z : ZC} {D : va_G} {cI : ClassId} {ad : Nat → Nat} {r : Int32} (F : ZF z (yK D cI ad) cX6_isBelow RX6 2 (some .boolean) 1) {X : KX} (a0 : Int32) (a1 : Int32) (hf : f_X6_isBelow a0 a1 = r) : Z z (yK D cI ad) 2 (zQI z (yK D cI ad) (r, X)) X 0 [(0, .int a0), (1, .int a1)] [] := by
  unfold f_X6_isBelow at hf
  refine z_iload_n F dX6_isBelow_0 0 rfl rfl ?_
  refine z_if_lt (tgt := 13) F hf dX6_isBelow_1 (by decide) (fun hf => ?_) (fun hf => ?_)
  · refine z_iconst (v := 0) F dX6_isBelow_13 (by decide +kernel) ?_
    exact z_zret F (by decide) dX6_isBelow_14 (Prod.ext hf rfl)
  · refine z_iload_n F dX6_isBelow_4 0 rfl rfl ?_
    refine z_iload_n F dX6_isBelow_5 1 rfl rfl ?_
    refine z_icmp_ge (tgt := 13) F hf dX6_isBelow_6 (by decide) (fun hf => ?_) (fun hf => ?_)
    · refine z_iconst (v := 0) F dX6_isBelow_13 (by decide +kernel) ?_
      exact z_zret F (by decide) dX6_isBelow_14 (Prod.ext hf rfl)
    · refine z_iconst (v := 1) F dX6_isBelow_9 (by decide +kernel) ?_
      refine z_goto (tgt := 14) F dX6_isBelow_10 (by decide) ?_
      exact z_zret F (by decide) dX6_isBelow_14 (Prod.ext hf rfl)
theorem c_X6_isBelow {D : va_G} {cI : ClassId} {ad : Nat → Nat} (X : KX) (a0 : Int32) (a1 : Int32) : zMI (yK D cI ad) yX6_isBelow cX6_isBelow 2 (some .boolean) 1 [.int a0, .int a1] X (f_X6_isBelow a0 a1, X) := zMI_of (by decide +kernel) (Nat.le_of_ble_eq_true rfl) (fun z F => z_sub [0, 1] rfl (z_X6_isBelow F a0 a1 rfl))
theorem k_X6_isBelow {z : ZC} {D : va_G} {cI : ClassId} {ad : Nat → Nat} {cc : ByteArray} {own : String} {nL d pc index : Nat} {ret : Option FieldType} {Q : State → Prop} {X : KX} {L : List (Nat × Value)} {rest : List Value} {a0 a1 : Int32} (F : ZF z (yK D cI ad) cc own nL ret d) (hd : 1 + 1 ≤ d) (hw : Cond.methodLink own index yX6_isBelow ∈ wsA) (hst : (rest.map fun v => v.category).sum ≤ 8) (hdg : decode cc pc = .ok (.invokestatic index, 3)) (kk : Z z (yK D cI ad) nL Q X (pc + 3) L (.int (f_X6_isBelow a0 a1) :: rest)) : Z z (yK D cI ad) nL Q X pc L (.int a1 :: .int a0 :: rest) := z_cSI (As := [.int a0, .int a1]) F (c_X6_isBelow X a0 a1) kn_X6_isBelow kv_X6_isBelow hw hd rfl hst hdg rfl kk
theorem k_X6_isBelowN {z : ZC} {D : va_G} {cI : ClassId} {ad : Nat → Nat} {cc : ByteArray} {own : String} {nL d pc index : Nat} {ret : Option FieldType} {Q : State → Prop} {X : KX} {L : List (Nat × Value)} {rest : List Value} {a0 a1 : Int32} (F : ZF z (yK D cI ad) cc own nL ret d) (hd : 1 + 1 ≤ d) (hw : ∀ s, zN s → va_Nw (.methodLinkNest own index yX6_isBelow "AilingKing") s) (hst : (rest.map fun v => v.category).sum ≤ 8) (hdg : decode cc pc = .ok (.invokestatic index, 3)) (kk : Z z (yK D cI ad) nL Q X (pc + 3) L (.int (f_X6_isBelow a0 a1) :: rest)) : Z z (yK D cI ad) nL Q X pc L (.int a1 :: .int a0 :: rest) := z_cNI (As := [.int a0, .int a1]) F (c_X6_isBelow X a0 a1) kn_X6_isBelow kv_X6_isBelow hw hd rfl hst hdg rfl kk
theorem bz_X6_isBelow (a0 : Int32) (a1 : Int32) : f_X6_isBelow a0 a1 = 0 ∨ f_X6_isBelow a0 a1 = 1 := by
  unfold f_X6_isBelow
  repeat' split
  all_goals first | exact Or.inl rfl | exact Or.inr rfl
theorem kv_X4_make : zKv yX4_make := ⟨wm_322, wm_323⟩
theorem kn_X4_make : zKn yX4_make cX4_make 5 none 3 := ⟨wm_324, wm_56, by decide +kernel, by decide⟩
set_option maxHeartbeats 4000000 in
set_option maxRecDepth 100000 in
theorem z_X4_make_17 {z : ZC} {D : va_G} {cI : ClassId} {ad : Nat → Nat} {R : KX} (F : ZF z (yK D cI ad) cX4_make RX4 5 none 1) (n : Nat) : ∀ (t : Nat) (X : KX) (v1 : Int32) (v3 : Int32) (v4 : Int32), f_X4_make_17 n t X v1 v3 v4 = some R → Z z (yK D cI ad) 5 (zQV z (yK D cI ad) R) X 17 [(0, .ref (ad 1)), (1, .int v1), (3, .int v3), (4, .int v4)] [] := by
  intro t
  induction t with
  | zero => intro X v1 v3 v4 hf; rw [f_X4_make_17] at hf; exact zNone hf
  | succ t ih =>
    intro X v1 v3 v4 hf
    rw [f_X4_make_17] at hf
    refine z_iload F dX4_make_17 3 rfl ?_
    refine z_iload_n F dX4_make_19 2 rfl rfl ?_
    refine z_icmp_ge (tgt := 42) F hf dX4_make_20 (by decide) (fun hf => ?_) (fun hf => ?_)
    · exact z_vret F dX4_make_42 (Option.some.inj hf)
    · refine z_aload_n F dX4_make_23 0 rfl rfl ?_
      refine gK_1_0 F wm_80 dX4_make_24 ?_
      refine z_iload_n F dX4_make_27 1 rfl rfl ?_
      refine z_bipush (v := 40) F dX4_make_28 (by decide +kernel) ?_
      refine z_imul F dX4_make_30 ?_
      refine z_iload F dX4_make_31 3 rfl ?_
      refine z_iadd F dX4_make_33 ?_
      refine z_iconst (v := 0) F dX4_make_34 (by decide +kernel) ?_
      refine sK_2 F hf dX4_make_35 (fun X_1 hf => ?_)
      refine z_iinc (w := 1) (L' := fun v4_2 => [(4, .int v4_2), (0, .ref (ad 1)), (1, .int v1), (3, .int v3)]) F hf dX4_make_36 3 rfl (by decide +kernel) (Nat.le_of_ble_eq_true rfl) (fun _ => rfl) (fun v4_2 hf => ?_)
      refine z_goto (tgt := 17) F dX4_make_39 (by decide) ?_
      exact z_sub [1, 2, 3, 0] rfl (ih X_1 v1 v3 v4_2 hf)
set_option maxHeartbeats 4000000 in
set_option maxRecDepth 100000 in
theorem z_X4_make {z : ZC} {D : va_G} {cI : ClassId} {ad : Nat → Nat} {R : KX} (F : ZF z (yK D cI ad) cX4_make RX4 5 none 1) (n : Nat) (X : KX) (a1 : Int32) (a2 : Int32) (a3 : Int32) (hf : f_X4_make n X a1 a2 a3 = some R) : Z z (yK D cI ad) 5 (zQV z (yK D cI ad) R) X 0 [(0, .ref (ad 1)), (1, .int a1), (2, .int a2), (3, .int a3)] [] := by
  unfold f_X4_make at hf
  refine z_aload_n F dX4_make_0 0 rfl rfl ?_
  refine gK_1_1 F wm_81 dX4_make_1 ?_
  refine z_iload_n F dX4_make_4 1 rfl rfl ?_
  refine z_iload_n F dX4_make_5 2 rfl rfl ?_
  refine sK_3 F hf dX4_make_6 (fun X_1 hf => ?_)
  refine z_aload_n F dX4_make_7 0 rfl rfl ?_
  refine gK_1_2 F wm_82 dX4_make_8 ?_
  refine z_iload_n F dX4_make_11 1 rfl rfl ?_
  refine z_iload_n F dX4_make_12 3 rfl rfl ?_
  refine sK_4 F hf dX4_make_13 (fun X_2 hf => ?_)
  refine z_iconst (v := 0) F dX4_make_14 (by decide +kernel) ?_
  refine z_istore (L' := [(4, .int 0), (0, .ref (ad 1)), (1, .int a1), (2, .int a2), (3, .int a3)]) F dX4_make_15 (Nat.le_of_ble_eq_true rfl) rfl ?_
  exact z_sub [1, 2, 4, 0] rfl (z_X4_make_17 F n n X_2 a1 a3 0 hf)
theorem c_X4_make {D : va_G} {cI : ClassId} {ad : Nat → Nat} {R : KX} (n : Nat) (X : KX) (a1 : Int32) (a2 : Int32) (a3 : Int32) (hf : f_X4_make n X a1 a2 a3 = some R) : zMV (yK D cI ad) yX4_make cX4_make 5 none 1 [.ref (ad 1), .int a1, .int a2, .int a3] X R := zMV_of (by decide +kernel) (Nat.le_of_ble_eq_true rfl) (fun z F => z_sub [0, 1, 2, 3] rfl (z_X4_make F n X a1 a2 a3 hf))
theorem k_X4_make {z : ZC} {D : va_G} {cI : ClassId} {ad : Nat → Nat} {cc : ByteArray} {own : String} {nL d pc index : Nat} {ret : Option FieldType} {Q : State → Prop} {X : KX} {L : List (Nat × Value)} {rest : List Value} {n : Nat} {a1 a2 a3 : Int32} (F : ZF z (yK D cI ad) cc own nL ret d) (hd : 1 + 1 ≤ d) (hw : Cond.methodLink own index yX4_make ∈ wsA) (hst : (rest.map fun v => v.category).sum ≤ 8) {β : Type} {e : KX → Option β} {r : β} (hf : zB1 (f_X4_make n X a1 a2 a3) e = some r) (hdg : decode cc pc = .ok (.invokevirtual index, 3)) (kk : ∀ X2 : KX, e X2 = some r → Z z (yK D cI ad) nL Q X2 (pc + 3) L rest) : Z z (yK D cI ad) nL Q X pc L (.int a3 :: .int a2 :: .int a1 :: .ref (ad 1) :: rest) := by
  obtain ⟨v, h1, h2⟩ := zB1_some hf
  exact z_cVV (As := [.int a1, .int a2, .int a3]) F (c_X4_make n X a1 a2 a3 h1) kn_X4_make kv_X4_make hw (q0 := 1) rfl rfl hd rfl hst hdg rfl (kk v h2)
theorem kv_X6_foundNothing : zKv yX6_foundNothing := ⟨wm_327, wm_1⟩
theorem kn_X6_foundNothing : zKn yX6_foundNothing cX6_foundNothing 2 (some .int) 1 := ⟨wm_328, wm_55, by decide +kernel, by decide⟩
set_option maxHeartbeats 4000000 in
set_option maxRecDepth 100000 in
theorem z_X6_foundNothing {z : ZC} {D : va_G} {cI : ClassId} {ad : Nat → Nat} {R : Int32 × KX} (F : ZF z (yK D cI ad) cX6_foundNothing RX6 2 (some .int) 1) (X : KX) (a1 : Int32) (hf : f_X6_foundNothing X a1 = some R) : Z z (yK D cI ad) 2 (zQI z (yK D cI ad) R) X 0 [(0, .ref (ad 0)), (1, .int a1)] [] := by
  unfold f_X6_foundNothing at hf
  refine z_aload_n F dX6_foundNothing_0 0 rfl rfl ?_
  refine z_iconst (v := 0) F dX6_foundNothing_1 (by decide +kernel) ?_
  refine pK_0_10 F hf wm_284 dX6_foundNothing_2 (fun X_1 hf => ?_)
  refine z_iload_n F dX6_foundNothing_5 1 rfl rfl ?_
  exact z_iret F dX6_foundNothing_6 (Option.some.inj hf)
theorem c_X6_foundNothing {D : va_G} {cI : ClassId} {ad : Nat → Nat} {R : Int32 × KX} (X : KX) (a1 : Int32) (hf : f_X6_foundNothing X a1 = some R) : zMI (yK D cI ad) yX6_foundNothing cX6_foundNothing 2 (some .int) 1 [.ref (ad 0), .int a1] X R := zMI_of (by decide +kernel) (Nat.le_of_ble_eq_true rfl) (fun z F => z_sub [0, 1] rfl (z_X6_foundNothing F X a1 hf))
theorem k_X6_foundNothing {z : ZC} {D : va_G} {cI : ClassId} {ad : Nat → Nat} {cc : ByteArray} {own : String} {nL d pc index : Nat} {ret : Option FieldType} {Q : State → Prop} {X : KX} {L : List (Nat × Value)} {rest : List Value} {a1 : Int32} (F : ZF z (yK D cI ad) cc own nL ret d) (hd : 1 + 1 ≤ d) (hw : Cond.methodLink own index yX6_foundNothing ∈ wsA) (hst : (rest.map fun v => v.category).sum ≤ 8) {β : Type} {e : Int32 → KX → Option β} {r : β} (hf : zB2 (f_X6_foundNothing X a1) e = some r) (hdg : decode cc pc = .ok (.invokevirtual index, 3)) (kk : ∀ (v : Int32) (X2 : KX), e v X2 = some r → Z z (yK D cI ad) nL Q X2 (pc + 3) L (.int v :: rest)) : Z z (yK D cI ad) nL Q X pc L (.int a1 :: .ref (ad 0) :: rest) := by
  obtain ⟨v, X2, h1, h2⟩ := zB2_some hf
  exact z_cVI (As := [.int a1]) F (c_X6_foundNothing X a1 h1) kn_X6_foundNothing kv_X6_foundNothing hw (q0 := 0) rfl rfl hd rfl hst hdg rfl (kk v X2 h2)
theorem kv_X6_found : zKv yX6_found := ⟨wm_318, wm_0⟩
theorem kn_X6_found : zKn yX6_found cX6_found 2 (some .int) 1 := ⟨wm_319, wm_55, by decide +kernel, by decide⟩
set_option maxHeartbeats 4000000 in
set_option maxRecDepth 100000 in
theorem z_X6_found {z : ZC} {D : va_G} {cI : ClassId} {ad : Nat → Nat} {R : Int32 × KX} (F : ZF z (yK D cI ad) cX6_found RX6 2 (some .int) 1) (X : KX) (a1 : Int32) (hf : f_X6_found X a1 = some R) : Z z (yK D cI ad) 2 (zQI z (yK D cI ad) R) X 0 [(0, .ref (ad 0)), (1, .int a1)] [] := by
  unfold f_X6_found at hf
  refine z_aload_n F dX6_found_0 0 rfl rfl ?_
  refine z_iload_n F dX6_found_1 1 rfl rfl ?_
  refine pK_0_10 F hf wm_284 dX6_found_2 (fun X_1 hf => ?_)
  refine z_ldcw F wm_320 dX6_found_5 ?_
  refine z_iload_n F dX6_found_8 1 rfl rfl ?_
  refine z_isub F dX6_found_9 ?_
  exact z_iret F dX6_found_10 (Option.some.inj hf)
theorem c_X6_found {D : va_G} {cI : ClassId} {ad : Nat → Nat} {R : Int32 × KX} (X : KX) (a1 : Int32) (hf : f_X6_found X a1 = some R) : zMI (yK D cI ad) yX6_found cX6_found 2 (some .int) 1 [.ref (ad 0), .int a1] X R := zMI_of (by decide +kernel) (Nat.le_of_ble_eq_true rfl) (fun z F => z_sub [0, 1] rfl (z_X6_found F X a1 hf))
theorem k_X6_found {z : ZC} {D : va_G} {cI : ClassId} {ad : Nat → Nat} {cc : ByteArray} {own : String} {nL d pc index : Nat} {ret : Option FieldType} {Q : State → Prop} {X : KX} {L : List (Nat × Value)} {rest : List Value} {a1 : Int32} (F : ZF z (yK D cI ad) cc own nL ret d) (hd : 1 + 1 ≤ d) (hw : Cond.methodLink own index yX6_found ∈ wsA) (hst : (rest.map fun v => v.category).sum ≤ 8) {β : Type} {e : Int32 → KX → Option β} {r : β} (hf : zB2 (f_X6_found X a1) e = some r) (hdg : decode cc pc = .ok (.invokevirtual index, 3)) (kk : ∀ (v : Int32) (X2 : KX), e v X2 = some r → Z z (yK D cI ad) nL Q X2 (pc + 3) L (.int v :: rest)) : Z z (yK D cI ad) nL Q X pc L (.int a1 :: .ref (ad 0) :: rest) := by
  obtain ⟨v, X2, h1, h2⟩ := zB2_some hf
  exact z_cVI (As := [.int a1]) F (c_X6_found X a1 h1) kn_X6_found kv_X6_found hw (q0 := 0) rfl rfl hd rfl hst hdg rfl (kk v X2 h2)
theorem kv_X6_row : zKv yX6_row := ⟨wm_309, wm_310⟩
theorem kn_X6_row : zKn yX6_row cX6_row 4 (some .int) 3 := ⟨wm_311, wm_55, by decide +kernel, by decide⟩
set_option maxHeartbeats 4000000 in
set_option maxRecDepth 100000 in
theorem z_X6_row {z : ZC} {D : va_G} {cI : ClassId} {ad : Nat → Nat} {R : Int32 × KX} (F : ZF z (yK D cI ad) cX6_row RX6 4 (some .int) 2) (n : Nat) (X : KX) (a1 : Int32) (a2 : Int32) (a3 : Int32) (hf : f_X6_row n X a1 a2 a3 = some R) : Z z (yK D cI ad) 4 (zQI z (yK D cI ad) R) X 0 [(0, .ref (ad 0)), (1, .int a1), (2, .int a2), (3, .int a3)] [] := by
  unfold f_X6_row at hf
  refine z_iload_n F dX6_row_0 1 rfl rfl ?_
  refine z_bipush (v := 8) F dX6_row_1 (by decide +kernel) ?_
  refine k_X6_isBelow F (by decide) wm_312 (Nat.le_of_ble_eq_true rfl) dX6_row_3 ?_
  refine z_if_eq (tgt := 23) F hf dX6_row_6 (by decide) (fun hf => ?_) (fun hf => ?_)
  · refine z_ldc F wm_315 dX6_row_23 ?_
    exact z_iret F dX6_row_25 (Option.some.inj hf)
  · refine z_iload_n F dX6_row_9 2 rfl rfl ?_
    refine z_iconst (v := 3) F dX6_row_10 (by decide +kernel) ?_
    refine k_X6_isBelow F (by decide) wm_312 (Nat.le_of_ble_eq_true rfl) dX6_row_11 ?_
    refine z_if_eq (tgt := 23) F hf dX6_row_14 (by decide) (fun hf => ?_) (fun hf => ?_)
    · refine z_ldc F wm_315 dX6_row_23 ?_
      exact z_iret F dX6_row_25 (Option.some.inj hf)
    · refine z_iload_n F dX6_row_17 3 rfl rfl ?_
      refine z_bipush (v := 40) F dX6_row_18 (by decide +kernel) ?_
      refine z_icmp_le (tgt := 26) F hf dX6_row_20 (by decide) (fun hf => ?_) (fun hf => ?_)
      · refine z_iload_n F dX6_row_26 3 rfl rfl ?_
        refine z_if_ge (tgt := 36) F hf dX6_row_27 (by decide) (fun hf => ?_) (fun hf => ?_)
        · refine z_aload_n F dX6_row_36 0 rfl rfl ?_
          refine gK_0_0 F wm_274 dX6_row_37 ?_
          refine z_iload_n F dX6_row_40 1 rfl rfl ?_
          refine z_iload_n F dX6_row_41 2 rfl rfl ?_
          refine z_iload_n F dX6_row_42 3 rfl rfl ?_
          refine k_X4_make F (by decide) wm_321 (Nat.le_of_ble_eq_true rfl) hf dX6_row_43 (fun X_1 hf => ?_)
          refine z_aload_n F dX6_row_46 0 rfl rfl ?_
          refine z_iload_n F dX6_row_47 3 rfl rfl ?_
          refine k_X6_foundNothing F (by decide) wm_325 (Nat.le_of_ble_eq_true rfl) hf dX6_row_48 (fun r_2 X_3 hf => ?_)
          exact z_iret F dX6_row_51 (Option.some.inj hf)
        · refine z_aload_n F dX6_row_30 0 rfl rfl ?_
          refine z_iconst (v := 4) F dX6_row_31 (by decide +kernel) ?_
          refine k_X6_found F (by decide) wm_316 (Nat.le_of_ble_eq_true rfl) hf dX6_row_32 (fun r_4 X_5 hf => ?_)
          exact z_iret F dX6_row_35 (Option.some.inj hf)
      · refine z_ldc F wm_315 dX6_row_23 ?_
        exact z_iret F dX6_row_25 (Option.some.inj hf)
theorem c_X6_row {D : va_G} {cI : ClassId} {ad : Nat → Nat} {R : Int32 × KX} (n : Nat) (X : KX) (a1 : Int32) (a2 : Int32) (a3 : Int32) (hf : f_X6_row n X a1 a2 a3 = some R) : zMI (yK D cI ad) yX6_row cX6_row 4 (some .int) 2 [.ref (ad 0), .int a1, .int a2, .int a3] X R := zMI_of (by decide +kernel) (Nat.le_of_ble_eq_true rfl) (fun z F => z_sub [0, 1, 2, 3] rfl (z_X6_row F n X a1 a2 a3 hf))
theorem k_X6_row {z : ZC} {D : va_G} {cI : ClassId} {ad : Nat → Nat} {cc : ByteArray} {own : String} {nL d pc index : Nat} {ret : Option FieldType} {Q : State → Prop} {X : KX} {L : List (Nat × Value)} {rest : List Value} {n : Nat} {a1 a2 a3 : Int32} (F : ZF z (yK D cI ad) cc own nL ret d) (hd : 2 + 1 ≤ d) (hw : Cond.methodLink own index yX6_row ∈ wsA) (hst : (rest.map fun v => v.category).sum ≤ 8) {β : Type} {e : Int32 → KX → Option β} {r : β} (hf : zB2 (f_X6_row n X a1 a2 a3) e = some r) (hdg : decode cc pc = .ok (.invokevirtual index, 3)) (kk : ∀ (v : Int32) (X2 : KX), e v X2 = some r → Z z (yK D cI ad) nL Q X2 (pc + 3) L (.int v :: rest)) : Z z (yK D cI ad) nL Q X pc L (.int a3 :: .int a2 :: .int a1 :: .ref (ad 0) :: rest) := by
  obtain ⟨v, X2, h1, h2⟩ := zB2_some hf
  exact z_cVI (As := [.int a1, .int a2, .int a3]) F (c_X6_row n X a1 a2 a3 h1) kn_X6_row kv_X6_row hw (q0 := 0) rfl rfl hd rfl hst hdg rfl (kk v X2 h2)
theorem kv_X4_isMissing : zKv yX4_isMissing := ⟨wm_334, wm_335⟩
theorem kn_X4_isMissing : zKn yX4_isMissing cX4_isMissing 2 (some .boolean) 1 := ⟨wm_336, wm_56, by decide +kernel, by decide⟩
set_option maxHeartbeats 4000000 in
set_option maxRecDepth 100000 in
theorem z_X4_isMissing {z : ZC} {D : va_G} {cI : ClassId} {ad : Nat → Nat} {r : Int32} (F : ZF z (yK D cI ad) cX4_isMissing RX4 2 (some .boolean) 1) (X : KX) (a1 : Int32) (hf : f_X4_isMissing X a1 = some r) : Z z (yK D cI ad) 2 (zQI z (yK D cI ad) (r, X)) X 0 [(0, .ref (ad 1)), (1, .int a1)] [] := by
  unfold f_X4_isMissing at hf
  refine z_aload_n F dX4_isMissing_0 0 rfl rfl ?_
  refine gK_1_2 F wm_82 dX4_isMissing_1 ?_
  refine z_iload_n F dX4_isMissing_4 1 rfl rfl ?_
  refine lK_4 F hf dX4_isMissing_5 (fun hf => ?_)
  refine z_iconst (v := (-1)) F dX4_isMissing_6 (by decide +kernel) ?_
  refine z_icmp_ne (tgt := 14) F hf dX4_isMissing_7 (by decide) (fun hf => ?_) (fun hf => ?_)
  · refine z_iconst (v := 0) F dX4_isMissing_14 (by decide +kernel) ?_
    exact z_zret F (by decide) dX4_isMissing_15 (Prod.ext (Option.some.inj hf) rfl)
  · refine z_iconst (v := 1) F dX4_isMissing_10 (by decide +kernel) ?_
    refine z_goto (tgt := 15) F dX4_isMissing_11 (by decide) ?_
    exact z_zret F (by decide) dX4_isMissing_15 (Prod.ext (Option.some.inj hf) rfl)
theorem c_X4_isMissing {D : va_G} {cI : ClassId} {ad : Nat → Nat} {r : Int32} (X : KX) (a1 : Int32) (hf : f_X4_isMissing X a1 = some r) : zMI (yK D cI ad) yX4_isMissing cX4_isMissing 2 (some .boolean) 1 [.ref (ad 1), .int a1] X (r, X) := zMI_of (by decide +kernel) (Nat.le_of_ble_eq_true rfl) (fun z F => z_sub [0, 1] rfl (z_X4_isMissing F X a1 hf))
theorem k_X4_isMissing {z : ZC} {D : va_G} {cI : ClassId} {ad : Nat → Nat} {cc : ByteArray} {own : String} {nL d pc index : Nat} {ret : Option FieldType} {Q : State → Prop} {X : KX} {L : List (Nat × Value)} {rest : List Value} {a1 : Int32} (F : ZF z (yK D cI ad) cc own nL ret d) (hd : 1 + 1 ≤ d) (hw : Cond.methodLink own index yX4_isMissing ∈ wsA) (hst : (rest.map fun v => v.category).sum ≤ 8) {β : Type} {e : Int32 → Option β} {r : β} (hf : zB1 (f_X4_isMissing X a1) e = some r) (hdg : decode cc pc = .ok (.invokevirtual index, 3)) (kk : ∀ v : Int32, e v = some r → Z z (yK D cI ad) nL Q X (pc + 3) L (.int v :: rest)) : Z z (yK D cI ad) nL Q X pc L (.int a1 :: .ref (ad 1) :: rest) := by
  obtain ⟨v, h1, h2⟩ := zB1_some hf
  exact z_cVI (As := [.int a1]) F (c_X4_isMissing X a1 h1) kn_X4_isMissing kv_X4_isMissing hw (q0 := 1) rfl rfl hd rfl hst hdg rfl (kk v h2)
theorem kv_X4_holds : zKv yX4_holds := ⟨wm_338, wm_339⟩
theorem kn_X4_holds : zKn yX4_holds cX4_holds 4 (some .boolean) 3 := ⟨wm_340, wm_56, by decide +kernel, by decide⟩
set_option maxHeartbeats 4000000 in
set_option maxRecDepth 100000 in
theorem z_X4_holds {z : ZC} {D : va_G} {cI : ClassId} {ad : Nat → Nat} {r : Int32} (F : ZF z (yK D cI ad) cX4_holds RX4 4 (some .boolean) 1) (X : KX) (a1 : Int32) (a2 : Int32) (a3 : Int32) (hf : f_X4_holds X a1 a2 a3 = some r) : Z z (yK D cI ad) 4 (zQI z (yK D cI ad) (r, X)) X 0 [(0, .ref (ad 1)), (1, .int a1), (2, .int a2), (3, .int a3)] [] := by
  unfold f_X4_holds at hf
  refine z_iload_n F dX4_holds_0 2 rfl rfl ?_
  refine z_if_lt (tgt := 24) F hf dX4_holds_1 (by decide) (fun hf => ?_) (fun hf => ?_)
  · refine z_iconst (v := 0) F dX4_holds_24 (by decide +kernel) ?_
    exact z_zret F (by decide) dX4_holds_25 (Prod.ext (Option.some.inj hf) rfl)
  · refine z_iload_n F dX4_holds_4 3 rfl rfl ?_
    refine z_if_lt (tgt := 24) F hf dX4_holds_5 (by decide) (fun hf => ?_) (fun hf => ?_)
    · refine z_iconst (v := 0) F dX4_holds_24 (by decide +kernel) ?_
      exact z_zret F (by decide) dX4_holds_25 (Prod.ext (Option.some.inj hf) rfl)
    · refine z_iload_n F dX4_holds_8 2 rfl rfl ?_
      refine z_aload_n F dX4_holds_9 0 rfl rfl ?_
      refine gK_1_2 F wm_82 dX4_holds_10 ?_
      refine z_iload_n F dX4_holds_13 1 rfl rfl ?_
      refine lK_4 F hf dX4_holds_14 (fun hf => ?_)
      refine z_iload_n F dX4_holds_15 3 rfl rfl ?_
      refine z_isub F dX4_holds_16 ?_
      refine z_icmp_gt (tgt := 24) F hf dX4_holds_17 (by decide) (fun hf => ?_) (fun hf => ?_)
      · refine z_iconst (v := 0) F dX4_holds_24 (by decide +kernel) ?_
        exact z_zret F (by decide) dX4_holds_25 (Prod.ext (Option.some.inj hf) rfl)
      · refine z_iconst (v := 1) F dX4_holds_20 (by decide +kernel) ?_
        refine z_goto (tgt := 25) F dX4_holds_21 (by decide) ?_
        exact z_zret F (by decide) dX4_holds_25 (Prod.ext (Option.some.inj hf) rfl)
theorem c_X4_holds {D : va_G} {cI : ClassId} {ad : Nat → Nat} {r : Int32} (X : KX) (a1 : Int32) (a2 : Int32) (a3 : Int32) (hf : f_X4_holds X a1 a2 a3 = some r) : zMI (yK D cI ad) yX4_holds cX4_holds 4 (some .boolean) 1 [.ref (ad 1), .int a1, .int a2, .int a3] X (r, X) := zMI_of (by decide +kernel) (Nat.le_of_ble_eq_true rfl) (fun z F => z_sub [0, 1, 2, 3] rfl (z_X4_holds F X a1 a2 a3 hf))
theorem k_X4_holds {z : ZC} {D : va_G} {cI : ClassId} {ad : Nat → Nat} {cc : ByteArray} {own : String} {nL d pc index : Nat} {ret : Option FieldType} {Q : State → Prop} {X : KX} {L : List (Nat × Value)} {rest : List Value} {a1 a2 a3 : Int32} (F : ZF z (yK D cI ad) cc own nL ret d) (hd : 1 + 1 ≤ d) (hw : Cond.methodLink own index yX4_holds ∈ wsA) (hst : (rest.map fun v => v.category).sum ≤ 8) {β : Type} {e : Int32 → Option β} {r : β} (hf : zB1 (f_X4_holds X a1 a2 a3) e = some r) (hdg : decode cc pc = .ok (.invokevirtual index, 3)) (kk : ∀ v : Int32, e v = some r → Z z (yK D cI ad) nL Q X (pc + 3) L (.int v :: rest)) : Z z (yK D cI ad) nL Q X pc L (.int a3 :: .int a2 :: .int a1 :: .ref (ad 1) :: rest) := by
  obtain ⟨v, h1, h2⟩ := zB1_some hf
  exact z_cVI (As := [.int a1, .int a2, .int a3]) F (c_X4_holds X a1 a2 a3 h1) kn_X4_holds kv_X4_holds hw (q0 := 1) rfl rfl hd rfl hst hdg rfl (kk v h2)
theorem kv_X4_put : zKv yX4_put := ⟨wm_342, wm_343⟩
theorem kn_X4_put : zKn yX4_put cX4_put 5 (some .int) 3 := ⟨wm_344, wm_56, by decide +kernel, by decide⟩
set_option maxHeartbeats 4000000 in
set_option maxRecDepth 100000 in
theorem z_X4_put_30 {z : ZC} {D : va_G} {cI : ClassId} {ad : Nat → Nat} {R : Int32 × KX} (F : ZF z (yK D cI ad) cX4_put RX4 5 (some .int) 1)  (X : KX) (s0 : Int32) (v1 : Int32) (v2 : Int32) (hf : f_X4_put_30 X s0 v1 v2 = some R) : Z z (yK D cI ad) 5 (zQI z (yK D cI ad) R) X 30 [(0, .ref (ad 1)), (1, .int v1), (2, .int v2)] [.int s0] := by
  unfold f_X4_put_30 at hf
  refine z_istore (L' := [(4, .int s0), (0, .ref (ad 1)), (1, .int v1), (2, .int v2)]) F dX4_put_30 (Nat.le_of_ble_eq_true rfl) rfl ?_
  refine z_aload_n F dX4_put_32 1 rfl rfl ?_
  refine gK_1_0 F wm_80 dX4_put_33 ?_
  refine z_iload_n F dX4_put_36 2 rfl rfl ?_
  refine z_bipush (v := 40) F dX4_put_37 (by decide +kernel) ?_
  refine z_imul F dX4_put_39 ?_
  refine z_iload_n F dX4_put_40 3 rfl rfl ?_
  refine z_iadd F dX4_put_41 ?_
  refine z_iload F dX4_put_42 0 rfl ?_
  refine sK_2 F hf dX4_put_44 (fun X_1 hf => ?_)
  refine z_iload F dX4_put_45 0 rfl ?_
  exact z_iret F dX4_put_47 (Option.some.inj hf)
set_option maxHeartbeats 4000000 in
set_option maxRecDepth 100000 in
theorem z_X4_put {z : ZC} {D : va_G} {cI : ClassId} {ad : Nat → Nat} {R : Int32 × KX} (F : ZF z (yK D cI ad) cX4_put RX4 5 (some .int) 1) (X : KX) (a1 : Int32) (a2 : Int32) (a3 : Int32) (hf : f_X4_put X a1 a2 a3 = some R) : Z z (yK D cI ad) 5 (zQI z (yK D cI ad) R) X 0 [(0, .ref (ad 1)), (1, .int a1), (2, .int a2), (3, .int a3)] [] := by
  unfold f_X4_put at hf
  refine z_aload_n F dX4_put_0 0 rfl rfl ?_
  refine gK_1_1 F wm_81 dX4_put_1 ?_
  refine z_iload_n F dX4_put_4 1 rfl rfl ?_
  refine lK_3 F hf dX4_put_5 (fun hf => ?_)
  refine z_if_ne (tgt := 14) F hf dX4_put_6 (by decide) (fun hf => ?_) (fun hf => ?_)
  · refine z_aload_n F dX4_put_14 0 rfl rfl ?_
    refine gK_1_1 F wm_81 dX4_put_15 ?_
    refine z_iload_n F dX4_put_18 1 rfl rfl ?_
    refine lK_3 F hf dX4_put_19 (fun hf => ?_)
    refine z_iconst (v := 1) F dX4_put_20 (by decide +kernel) ?_
    refine z_icmp_ne (tgt := 29) F hf dX4_put_21 (by decide) (fun hf => ?_) (fun hf => ?_)
    · refine z_iload_n F dX4_put_29 3 rfl rfl ?_
      exact z_sub [0, 1, 2] rfl (z_X4_put_30 F X a3 a1 a2 hf)
    · refine z_iload_n F dX4_put_24 3 rfl rfl ?_
      refine z_i2s F dX4_put_25 ?_
      refine z_goto (tgt := 30) F dX4_put_26 (by decide) ?_
      exact z_sub [0, 1, 2] rfl (z_X4_put_30 F X a3.toInt16.toInt32 a1 a2 hf)
  · refine z_iload_n F dX4_put_9 3 rfl rfl ?_
    refine z_i2b F dX4_put_10 ?_
    refine z_goto (tgt := 30) F dX4_put_11 (by decide) ?_
    exact z_sub [0, 1, 2] rfl (z_X4_put_30 F X a3.toInt8.toInt32 a1 a2 hf)
theorem c_X4_put {D : va_G} {cI : ClassId} {ad : Nat → Nat} {R : Int32 × KX} (X : KX) (a1 : Int32) (a2 : Int32) (a3 : Int32) (hf : f_X4_put X a1 a2 a3 = some R) : zMI (yK D cI ad) yX4_put cX4_put 5 (some .int) 1 [.ref (ad 1), .int a1, .int a2, .int a3] X R := zMI_of (by decide +kernel) (Nat.le_of_ble_eq_true rfl) (fun z F => z_sub [0, 1, 2, 3] rfl (z_X4_put F X a1 a2 a3 hf))
theorem k_X4_put {z : ZC} {D : va_G} {cI : ClassId} {ad : Nat → Nat} {cc : ByteArray} {own : String} {nL d pc index : Nat} {ret : Option FieldType} {Q : State → Prop} {X : KX} {L : List (Nat × Value)} {rest : List Value} {a1 a2 a3 : Int32} (F : ZF z (yK D cI ad) cc own nL ret d) (hd : 1 + 1 ≤ d) (hw : Cond.methodLink own index yX4_put ∈ wsA) (hst : (rest.map fun v => v.category).sum ≤ 8) {β : Type} {e : Int32 → KX → Option β} {r : β} (hf : zB2 (f_X4_put X a1 a2 a3) e = some r) (hdg : decode cc pc = .ok (.invokevirtual index, 3)) (kk : ∀ (v : Int32) (X2 : KX), e v X2 = some r → Z z (yK D cI ad) nL Q X2 (pc + 3) L (.int v :: rest)) : Z z (yK D cI ad) nL Q X pc L (.int a3 :: .int a2 :: .int a1 :: .ref (ad 1) :: rest) := by
  obtain ⟨v, X2, h1, h2⟩ := zB2_some hf
  exact z_cVI (As := [.int a1, .int a2, .int a3]) F (c_X4_put X a1 a2 a3 h1) kn_X4_put kv_X4_put hw (q0 := 1) rfl rfl hd rfl hst hdg rfl (kk v X2 h2)
theorem kv_X6_set : zKv yX6_set := ⟨wm_330, wm_331⟩
theorem kn_X6_set : zKn yX6_set cX6_set 4 (some .int) 3 := ⟨wm_332, wm_55, by decide +kernel, by decide⟩
set_option maxHeartbeats 4000000 in
set_option maxRecDepth 100000 in
theorem z_X6_set {z : ZC} {D : va_G} {cI : ClassId} {ad : Nat → Nat} {R : Int32 × KX} (F : ZF z (yK D cI ad) cX6_set RX6 4 (some .int) 2) (X : KX) (a1 : Int32) (a2 : Int32) (a3 : Int32) (hf : f_X6_set X a1 a2 a3 = some R) : Z z (yK D cI ad) 4 (zQI z (yK D cI ad) R) X 0 [(0, .ref (ad 0)), (1, .int a1), (2, .int a2), (3, .int a3)] [] := by
  unfold f_X6_set at hf
  refine z_iload_n F dX6_set_0 1 rfl rfl ?_
  refine z_bipush (v := 8) F dX6_set_1 (by decide +kernel) ?_
  refine k_X6_isBelow F (by decide) wm_312 (Nat.le_of_ble_eq_true rfl) dX6_set_3 ?_
  refine z_if_ne (tgt := 12) F hf dX6_set_6 (by decide) (fun hf => ?_) (fun hf => ?_)
  · refine z_aload_n F dX6_set_12 0 rfl rfl ?_
    refine gK_0_0 F wm_274 dX6_set_13 ?_
    refine z_iload_n F dX6_set_16 1 rfl rfl ?_
    refine k_X4_isMissing F (by decide) wm_333 (Nat.le_of_ble_eq_true rfl) hf dX6_set_17 (fun r_1 hf => ?_)
    refine z_if_eq (tgt := 29) F hf dX6_set_20 (by decide) (fun hf => ?_) (fun hf => ?_)
    · refine z_aload_n F dX6_set_29 0 rfl rfl ?_
      refine gK_0_0 F wm_274 dX6_set_30 ?_
      refine z_iload_n F dX6_set_33 1 rfl rfl ?_
      refine z_iload_n F dX6_set_34 2 rfl rfl ?_
      refine z_iconst (v := 1) F dX6_set_35 (by decide +kernel) ?_
      refine k_X4_holds F (by decide) wm_337 (Nat.le_of_ble_eq_true rfl) hf dX6_set_36 (fun r_2 hf => ?_)
      refine z_if_ne (tgt := 48) F hf dX6_set_39 (by decide) (fun hf => ?_) (fun hf => ?_)
      · refine z_aload_n F dX6_set_48 0 rfl rfl ?_
        refine z_aload_n F dX6_set_49 0 rfl rfl ?_
        refine gK_0_0 F wm_274 dX6_set_50 ?_
        refine z_iload_n F dX6_set_53 1 rfl rfl ?_
        refine z_iload_n F dX6_set_54 2 rfl rfl ?_
        refine z_iload_n F dX6_set_55 3 rfl rfl ?_
        refine k_X4_put F (by decide) wm_341 (Nat.le_of_ble_eq_true rfl) hf dX6_set_56 (fun r_3 X_4 hf => ?_)
        refine k_X6_foundNothing F (by decide) wm_325 (Nat.le_of_ble_eq_true rfl) hf dX6_set_59 (fun r_5 X_6 hf => ?_)
        exact z_iret F dX6_set_62 (Option.some.inj hf)
      · refine z_aload_n F dX6_set_42 0 rfl rfl ?_
        refine z_iconst (v := 2) F dX6_set_43 (by decide +kernel) ?_
        refine k_X6_found F (by decide) wm_316 (Nat.le_of_ble_eq_true rfl) hf dX6_set_44 (fun r_7 X_8 hf => ?_)
        exact z_iret F dX6_set_47 (Option.some.inj hf)
    · refine z_aload_n F dX6_set_23 0 rfl rfl ?_
      refine z_iconst (v := 1) F dX6_set_24 (by decide +kernel) ?_
      refine k_X6_found F (by decide) wm_316 (Nat.le_of_ble_eq_true rfl) hf dX6_set_25 (fun r_9 X_10 hf => ?_)
      exact z_iret F dX6_set_28 (Option.some.inj hf)
  · refine z_ldc F wm_315 dX6_set_9 ?_
    exact z_iret F dX6_set_11 (Option.some.inj hf)
theorem c_X6_set {D : va_G} {cI : ClassId} {ad : Nat → Nat} {R : Int32 × KX} (X : KX) (a1 : Int32) (a2 : Int32) (a3 : Int32) (hf : f_X6_set X a1 a2 a3 = some R) : zMI (yK D cI ad) yX6_set cX6_set 4 (some .int) 2 [.ref (ad 0), .int a1, .int a2, .int a3] X R := zMI_of (by decide +kernel) (Nat.le_of_ble_eq_true rfl) (fun z F => z_sub [0, 1, 2, 3] rfl (z_X6_set F X a1 a2 a3 hf))
theorem k_X6_set {z : ZC} {D : va_G} {cI : ClassId} {ad : Nat → Nat} {cc : ByteArray} {own : String} {nL d pc index : Nat} {ret : Option FieldType} {Q : State → Prop} {X : KX} {L : List (Nat × Value)} {rest : List Value} {a1 a2 a3 : Int32} (F : ZF z (yK D cI ad) cc own nL ret d) (hd : 2 + 1 ≤ d) (hw : Cond.methodLink own index yX6_set ∈ wsA) (hst : (rest.map fun v => v.category).sum ≤ 8) {β : Type} {e : Int32 → KX → Option β} {r : β} (hf : zB2 (f_X6_set X a1 a2 a3) e = some r) (hdg : decode cc pc = .ok (.invokevirtual index, 3)) (kk : ∀ (v : Int32) (X2 : KX), e v X2 = some r → Z z (yK D cI ad) nL Q X2 (pc + 3) L (.int v :: rest)) : Z z (yK D cI ad) nL Q X pc L (.int a3 :: .int a2 :: .int a1 :: .ref (ad 0) :: rest) := by
  obtain ⟨v, X2, h1, h2⟩ := zB2_some hf
  exact z_cVI (As := [.int a1, .int a2, .int a3]) F (c_X6_set X a1 a2 a3 h1) kn_X6_set kv_X6_set hw (q0 := 0) rfl rfl hd rfl hst hdg rfl (kk v X2 h2)
theorem kv_X4_laneOf : zKv yX4_laneOf := ⟨wm_350, wm_351⟩
theorem kn_X4_laneOf : zKn yX4_laneOf cX4_laneOf 2 (some .int) 1 := ⟨wm_352, wm_56, by decide +kernel, by decide⟩
set_option maxHeartbeats 4000000 in
set_option maxRecDepth 100000 in
theorem z_X4_laneOf {z : ZC} {D : va_G} {cI : ClassId} {ad : Nat → Nat} {r : Int32} (F : ZF z (yK D cI ad) cX4_laneOf RX4 2 (some .int) 1) (X : KX) (a1 : Int32) (hf : f_X4_laneOf X a1 = some r) : Z z (yK D cI ad) 2 (zQI z (yK D cI ad) (r, X)) X 0 [(0, .ref (ad 1)), (1, .int a1)] [] := by
  unfold f_X4_laneOf at hf
  refine z_aload_n F dX4_laneOf_0 0 rfl rfl ?_
  refine gK_1_1 F wm_81 dX4_laneOf_1 ?_
  refine z_iload_n F dX4_laneOf_4 1 rfl rfl ?_
  refine lK_3 F hf dX4_laneOf_5 (fun hf => ?_)
  exact z_iret F dX4_laneOf_6 (Prod.ext (Option.some.inj hf) rfl)
theorem c_X4_laneOf {D : va_G} {cI : ClassId} {ad : Nat → Nat} {r : Int32} (X : KX) (a1 : Int32) (hf : f_X4_laneOf X a1 = some r) : zMI (yK D cI ad) yX4_laneOf cX4_laneOf 2 (some .int) 1 [.ref (ad 1), .int a1] X (r, X) := zMI_of (by decide +kernel) (Nat.le_of_ble_eq_true rfl) (fun z F => z_sub [0, 1] rfl (z_X4_laneOf F X a1 hf))
theorem k_X4_laneOf {z : ZC} {D : va_G} {cI : ClassId} {ad : Nat → Nat} {cc : ByteArray} {own : String} {nL d pc index : Nat} {ret : Option FieldType} {Q : State → Prop} {X : KX} {L : List (Nat × Value)} {rest : List Value} {a1 : Int32} (F : ZF z (yK D cI ad) cc own nL ret d) (hd : 1 + 1 ≤ d) (hw : Cond.methodLink own index yX4_laneOf ∈ wsA) (hst : (rest.map fun v => v.category).sum ≤ 8) {β : Type} {e : Int32 → Option β} {r : β} (hf : zB1 (f_X4_laneOf X a1) e = some r) (hdg : decode cc pc = .ok (.invokevirtual index, 3)) (kk : ∀ v : Int32, e v = some r → Z z (yK D cI ad) nL Q X (pc + 3) L (.int v :: rest)) : Z z (yK D cI ad) nL Q X pc L (.int a1 :: .ref (ad 1) :: rest) := by
  obtain ⟨v, h1, h2⟩ := zB1_some hf
  exact z_cVI (As := [.int a1]) F (c_X4_laneOf X a1 h1) kn_X4_laneOf kv_X4_laneOf hw (q0 := 1) rfl rfl hd rfl hst hdg rfl (kk v h2)
theorem kv_X4_carry : zKv yX4_carry := ⟨wm_354, wm_355⟩
theorem kn_X4_carry : zKn yX4_carry cX4_carry 6 none 5 := ⟨wm_356, wm_56, by decide +kernel, by decide⟩
set_option maxHeartbeats 4000000 in
set_option maxRecDepth 100000 in
theorem z_X4_carry {z : ZC} {D : va_G} {cI : ClassId} {ad : Nat → Nat} {R : KX} (F : ZF z (yK D cI ad) cX4_carry RX4 6 none 1) (X : KX) (a1 : Int32) (a2 : Int32) (a3 : Int32) (a4 : Int32) (a5 : Int32) (hf : f_X4_carry X a1 a2 a3 a4 a5 = some R) : Z z (yK D cI ad) 6 (zQV z (yK D cI ad) R) X 0 [(0, .ref (ad 1)), (1, .int a1), (2, .int a2), (3, .int a3), (4, .int a4), (5, .int a5)] [] := by
  unfold f_X4_carry at hf
  refine z_aload_n F dX4_carry_0 0 rfl rfl ?_
  refine gK_1_0 F wm_80 dX4_carry_1 ?_
  refine z_iload_n F dX4_carry_4 1 rfl rfl ?_
  refine z_bipush (v := 40) F dX4_carry_5 (by decide +kernel) ?_
  refine z_imul F dX4_carry_7 ?_
  refine z_iload_n F dX4_carry_8 2 rfl rfl ?_
  refine z_iadd F dX4_carry_9 ?_
  refine z_aload_n F dX4_carry_10 0 rfl rfl ?_
  refine gK_1_0 F wm_80 dX4_carry_11 ?_
  refine z_iload_n F dX4_carry_14 3 rfl rfl ?_
  refine z_bipush (v := 40) F dX4_carry_15 (by decide +kernel) ?_
  refine z_imul F dX4_carry_17 ?_
  refine z_iload F dX4_carry_18 4 rfl ?_
  refine z_iadd F dX4_carry_20 ?_
  refine z_iload F dX4_carry_21 5 rfl ?_
  refine yK_2_2 F (by decide) wm_357 wm_359 wm_358 wm_63 hf (Nat.le_of_ble_eq_true rfl) dX4_carry_23 (fun X_1 hf => ?_)
  exact z_vret F dX4_carry_26 (Option.some.inj hf)
theorem c_X4_carry {D : va_G} {cI : ClassId} {ad : Nat → Nat} {R : KX} (X : KX) (a1 : Int32) (a2 : Int32) (a3 : Int32) (a4 : Int32) (a5 : Int32) (hf : f_X4_carry X a1 a2 a3 a4 a5 = some R) : zMV (yK D cI ad) yX4_carry cX4_carry 6 none 1 [.ref (ad 1), .int a1, .int a2, .int a3, .int a4, .int a5] X R := zMV_of (by decide +kernel) (Nat.le_of_ble_eq_true rfl) (fun z F => z_sub [0, 1, 2, 3, 4, 5] rfl (z_X4_carry F X a1 a2 a3 a4 a5 hf))
theorem k_X4_carry {z : ZC} {D : va_G} {cI : ClassId} {ad : Nat → Nat} {cc : ByteArray} {own : String} {nL d pc index : Nat} {ret : Option FieldType} {Q : State → Prop} {X : KX} {L : List (Nat × Value)} {rest : List Value} {a1 a2 a3 a4 a5 : Int32} (F : ZF z (yK D cI ad) cc own nL ret d) (hd : 1 + 1 ≤ d) (hw : Cond.methodLink own index yX4_carry ∈ wsA) (hst : (rest.map fun v => v.category).sum ≤ 8) {β : Type} {e : KX → Option β} {r : β} (hf : zB1 (f_X4_carry X a1 a2 a3 a4 a5) e = some r) (hdg : decode cc pc = .ok (.invokevirtual index, 3)) (kk : ∀ X2 : KX, e X2 = some r → Z z (yK D cI ad) nL Q X2 (pc + 3) L rest) : Z z (yK D cI ad) nL Q X pc L (.int a5 :: .int a4 :: .int a3 :: .int a2 :: .int a1 :: .ref (ad 1) :: rest) := by
  obtain ⟨v, h1, h2⟩ := zB1_some hf
  exact z_cVV (As := [.int a1, .int a2, .int a3, .int a4, .int a5]) F (c_X4_carry X a1 a2 a3 a4 a5 h1) kn_X4_carry kv_X4_carry hw (q0 := 1) rfl rfl hd rfl hst hdg rfl (kk v h2)
theorem kv_X6_copy : zKv yX6_copy := ⟨wm_346, wm_347⟩
theorem kn_X6_copy : zKn yX6_copy cX6_copy 6 (some .int) 5 := ⟨wm_348, wm_55, by decide +kernel, by decide⟩
set_option maxHeartbeats 4000000 in
set_option maxRecDepth 100000 in
theorem z_X6_copy_103 {z : ZC} {D : va_G} {cI : ClassId} {ad : Nat → Nat} {R : Int32 × KX} (F : ZF z (yK D cI ad) cX6_copy RX6 6 (some .int) 2)  (X : KX) (hf : f_X6_copy_103 X = some R) : Z z (yK D cI ad) 6 (zQI z (yK D cI ad) R) X 103 [(0, .ref (ad 0))] [] := by
  unfold f_X6_copy_103 at hf
  refine z_aload_n F dX6_copy_103 0 rfl rfl ?_
  refine z_iconst (v := 2) F dX6_copy_104 (by decide +kernel) ?_
  refine k_X6_found F (by decide) wm_316 (Nat.le_of_ble_eq_true rfl) hf dX6_copy_105 (fun r_1 X_2 hf => ?_)
  exact z_iret F dX6_copy_108 (Option.some.inj hf)
set_option maxHeartbeats 4000000 in
set_option maxRecDepth 100000 in
theorem z_X6_copy_43 {z : ZC} {D : va_G} {cI : ClassId} {ad : Nat → Nat} {R : Int32 × KX} (F : ZF z (yK D cI ad) cX6_copy RX6 6 (some .int) 2)  (X : KX) (hf : f_X6_copy_43 X = some R) : Z z (yK D cI ad) 6 (zQI z (yK D cI ad) R) X 43 [(0, .ref (ad 0))] [] := by
  unfold f_X6_copy_43 at hf
  refine z_aload_n F dX6_copy_43 0 rfl rfl ?_
  refine z_iconst (v := 1) F dX6_copy_44 (by decide +kernel) ?_
  refine k_X6_found F (by decide) wm_316 (Nat.le_of_ble_eq_true rfl) hf dX6_copy_45 (fun r_1 X_2 hf => ?_)
  exact z_iret F dX6_copy_48 (Option.some.inj hf)
set_option maxHeartbeats 4000000 in
set_option maxRecDepth 100000 in
theorem z_X6_copy {z : ZC} {D : va_G} {cI : ClassId} {ad : Nat → Nat} {R : Int32 × KX} (F : ZF z (yK D cI ad) cX6_copy RX6 6 (some .int) 2) (X : KX) (a1 : Int32) (a2 : Int32) (a3 : Int32) (a4 : Int32) (a5 : Int32) (hf : f_X6_copy X a1 a2 a3 a4 a5 = some R) : Z z (yK D cI ad) 6 (zQI z (yK D cI ad) R) X 0 [(0, .ref (ad 0)), (1, .int a1), (2, .int a2), (3, .int a3), (4, .int a4), (5, .int a5)] [] := by
  unfold f_X6_copy at hf
  refine z_iload_n F dX6_copy_0 1 rfl rfl ?_
  refine z_bipush (v := 8) F dX6_copy_1 (by decide +kernel) ?_
  refine k_X6_isBelow F (by decide) wm_312 (Nat.le_of_ble_eq_true rfl) dX6_copy_3 ?_
  refine z_if_eq (tgt := 18) F hf dX6_copy_6 (by decide) (fun hf => ?_) (fun hf => ?_)
  · refine z_ldc F wm_315 dX6_copy_18 ?_
    exact z_iret F dX6_copy_20 (Option.some.inj hf)
  · refine z_iload_n F dX6_copy_9 3 rfl rfl ?_
    refine z_bipush (v := 8) F dX6_copy_10 (by decide +kernel) ?_
    refine k_X6_isBelow F (by decide) wm_312 (Nat.le_of_ble_eq_true rfl) dX6_copy_12 ?_
    refine z_if_ne (tgt := 21) F hf dX6_copy_15 (by decide) (fun hf => ?_) (fun hf => ?_)
    · refine z_aload_n F dX6_copy_21 0 rfl rfl ?_
      refine gK_0_0 F wm_274 dX6_copy_22 ?_
      refine z_iload_n F dX6_copy_25 1 rfl rfl ?_
      refine k_X4_isMissing F (by decide) wm_333 (Nat.le_of_ble_eq_true rfl) hf dX6_copy_26 (fun r_1 hf => ?_)
      refine z_if_ne (tgt := 43) F hf dX6_copy_29 (by decide) (fun hf => ?_) (fun hf => ?_)
      · exact z_sub [0] rfl (z_X6_copy_43 F X hf)
      · refine z_aload_n F dX6_copy_32 0 rfl rfl ?_
        refine gK_0_0 F wm_274 dX6_copy_33 ?_
        refine z_iload_n F dX6_copy_36 3 rfl rfl ?_
        refine k_X4_isMissing F (by decide) wm_333 (Nat.le_of_ble_eq_true rfl) hf dX6_copy_37 (fun r_2 hf => ?_)
        refine z_if_eq (tgt := 49) F hf dX6_copy_40 (by decide) (fun hf => ?_) (fun hf => ?_)
        · refine z_aload_n F dX6_copy_49 0 rfl rfl ?_
          refine gK_0_0 F wm_274 dX6_copy_50 ?_
          refine z_iload_n F dX6_copy_53 1 rfl rfl ?_
          refine k_X4_laneOf F (by decide) wm_349 (Nat.le_of_ble_eq_true rfl) hf dX6_copy_54 (fun r_3 hf => ?_)
          refine z_aload_n F dX6_copy_57 0 rfl rfl ?_
          refine gK_0_0 F wm_274 dX6_copy_58 ?_
          refine z_iload_n F dX6_copy_61 3 rfl rfl ?_
          refine k_X4_laneOf F (by decide) wm_349 (Nat.le_of_ble_eq_true rfl) hf dX6_copy_62 (fun r_4 hf => ?_)
          refine z_icmp_eq (tgt := 74) F hf dX6_copy_65 (by decide) (fun hf => ?_) (fun hf => ?_)
          · refine z_aload_n F dX6_copy_74 0 rfl rfl ?_
            refine gK_0_0 F wm_274 dX6_copy_75 ?_
            refine z_iload_n F dX6_copy_78 1 rfl rfl ?_
            refine z_iload_n F dX6_copy_79 2 rfl rfl ?_
            refine z_iload F dX6_copy_80 5 rfl ?_
            refine k_X4_holds F (by decide) wm_337 (Nat.le_of_ble_eq_true rfl) hf dX6_copy_82 (fun r_5 hf => ?_)
            refine z_if_eq (tgt := 103) F hf dX6_copy_85 (by decide) (fun hf => ?_) (fun hf => ?_)
            · exact z_sub [0] rfl (z_X6_copy_103 F X hf)
            · refine z_aload_n F dX6_copy_88 0 rfl rfl ?_
              refine gK_0_0 F wm_274 dX6_copy_89 ?_
              refine z_iload_n F dX6_copy_92 3 rfl rfl ?_
              refine z_iload F dX6_copy_93 4 rfl ?_
              refine z_iload F dX6_copy_95 5 rfl ?_
              refine k_X4_holds F (by decide) wm_337 (Nat.le_of_ble_eq_true rfl) hf dX6_copy_97 (fun r_6 hf => ?_)
              refine z_if_ne (tgt := 109) F hf dX6_copy_100 (by decide) (fun hf => ?_) (fun hf => ?_)
              · refine z_aload_n F dX6_copy_109 0 rfl rfl ?_
                refine gK_0_0 F wm_274 dX6_copy_110 ?_
                refine z_iload_n F dX6_copy_113 1 rfl rfl ?_
                refine z_iload_n F dX6_copy_114 2 rfl rfl ?_
                refine z_iload_n F dX6_copy_115 3 rfl rfl ?_
                refine z_iload F dX6_copy_116 4 rfl ?_
                refine z_iload F dX6_copy_118 5 rfl ?_
                refine k_X4_carry F (by decide) wm_353 (Nat.le_of_ble_eq_true rfl) hf dX6_copy_120 (fun X_7 hf => ?_)
                refine z_aload_n F dX6_copy_123 0 rfl rfl ?_
                refine z_iload F dX6_copy_124 5 rfl ?_
                refine k_X6_foundNothing F (by decide) wm_325 (Nat.le_of_ble_eq_true rfl) hf dX6_copy_126 (fun r_8 X_9 hf => ?_)
                exact z_iret F dX6_copy_129 (Option.some.inj hf)
              · exact z_sub [0] rfl (z_X6_copy_103 F X hf)
          · refine z_aload_n F dX6_copy_68 0 rfl rfl ?_
            refine z_iconst (v := 5) F dX6_copy_69 (by decide +kernel) ?_
            refine k_X6_found F (by decide) wm_316 (Nat.le_of_ble_eq_true rfl) hf dX6_copy_70 (fun r_10 X_11 hf => ?_)
            exact z_iret F dX6_copy_73 (Option.some.inj hf)
        · exact z_sub [0] rfl (z_X6_copy_43 F X hf)
    · refine z_ldc F wm_315 dX6_copy_18 ?_
      exact z_iret F dX6_copy_20 (Option.some.inj hf)
theorem c_X6_copy {D : va_G} {cI : ClassId} {ad : Nat → Nat} {R : Int32 × KX} (X : KX) (a1 : Int32) (a2 : Int32) (a3 : Int32) (a4 : Int32) (a5 : Int32) (hf : f_X6_copy X a1 a2 a3 a4 a5 = some R) : zMI (yK D cI ad) yX6_copy cX6_copy 6 (some .int) 2 [.ref (ad 0), .int a1, .int a2, .int a3, .int a4, .int a5] X R := zMI_of (by decide +kernel) (Nat.le_of_ble_eq_true rfl) (fun z F => z_sub [0, 1, 2, 3, 4, 5] rfl (z_X6_copy F X a1 a2 a3 a4 a5 hf))
theorem k_X6_copy {z : ZC} {D : va_G} {cI : ClassId} {ad : Nat → Nat} {cc : ByteArray} {own : String} {nL d pc index : Nat} {ret : Option FieldType} {Q : State → Prop} {X : KX} {L : List (Nat × Value)} {rest : List Value} {a1 a2 a3 a4 a5 : Int32} (F : ZF z (yK D cI ad) cc own nL ret d) (hd : 2 + 1 ≤ d) (hw : Cond.methodLink own index yX6_copy ∈ wsA) (hst : (rest.map fun v => v.category).sum ≤ 8) {β : Type} {e : Int32 → KX → Option β} {r : β} (hf : zB2 (f_X6_copy X a1 a2 a3 a4 a5) e = some r) (hdg : decode cc pc = .ok (.invokevirtual index, 3)) (kk : ∀ (v : Int32) (X2 : KX), e v X2 = some r → Z z (yK D cI ad) nL Q X2 (pc + 3) L (.int v :: rest)) : Z z (yK D cI ad) nL Q X pc L (.int a5 :: .int a4 :: .int a3 :: .int a2 :: .int a1 :: .ref (ad 0) :: rest) := by
  obtain ⟨v, X2, h1, h2⟩ := zB2_some hf
  exact z_cVI (As := [.int a1, .int a2, .int a3, .int a4, .int a5]) F (c_X6_copy X a1 a2 a3 a4 a5 h1) kn_X6_copy kv_X6_copy hw (q0 := 0) rfl rfl hd rfl hst hdg rfl (kk v X2 h2)
theorem kv_X4_remove : zKv yX4_remove := ⟨wm_365, wm_366⟩
theorem kn_X4_remove : zKn yX4_remove cX4_remove 3 (some .int) 1 := ⟨wm_367, wm_56, by decide +kernel, by decide⟩
set_option maxHeartbeats 4000000 in
set_option maxRecDepth 100000 in
theorem z_X4_remove {z : ZC} {D : va_G} {cI : ClassId} {ad : Nat → Nat} {R : Int32 × KX} (F : ZF z (yK D cI ad) cX4_remove RX4 3 (some .int) 1) (X : KX) (a1 : Int32) (hf : f_X4_remove X a1 = some R) : Z z (yK D cI ad) 3 (zQI z (yK D cI ad) R) X 0 [(0, .ref (ad 1)), (1, .int a1)] [] := by
  unfold f_X4_remove at hf
  refine z_aload_n F dX4_remove_0 0 rfl rfl ?_
  refine gK_1_2 F wm_82 dX4_remove_1 ?_
  refine z_iload_n F dX4_remove_4 1 rfl rfl ?_
  refine lK_4 F hf dX4_remove_5 (fun hf => ?_)
  refine z_top hf (fun v2_1 hf => ?_)
  refine z_istore_n (L' := [(2, .int v2_1), (0, .ref (ad 1)), (1, .int a1)]) F dX4_remove_6 rfl (Nat.le_of_ble_eq_true rfl) rfl ?_
  refine z_aload_n F dX4_remove_7 1 rfl rfl ?_
  refine gK_1_2 F wm_82 dX4_remove_8 ?_
  refine z_iload_n F dX4_remove_11 2 rfl rfl ?_
  refine z_iconst (v := (-1)) F dX4_remove_12 (by decide +kernel) ?_
  refine sK_4 F hf dX4_remove_13 (fun X_2 hf => ?_)
  refine z_iload_n F dX4_remove_14 0 rfl rfl ?_
  exact z_iret F dX4_remove_15 (Option.some.inj hf)
theorem c_X4_remove {D : va_G} {cI : ClassId} {ad : Nat → Nat} {R : Int32 × KX} (X : KX) (a1 : Int32) (hf : f_X4_remove X a1 = some R) : zMI (yK D cI ad) yX4_remove cX4_remove 3 (some .int) 1 [.ref (ad 1), .int a1] X R := zMI_of (by decide +kernel) (Nat.le_of_ble_eq_true rfl) (fun z F => z_sub [0, 1] rfl (z_X4_remove F X a1 hf))
theorem k_X4_remove {z : ZC} {D : va_G} {cI : ClassId} {ad : Nat → Nat} {cc : ByteArray} {own : String} {nL d pc index : Nat} {ret : Option FieldType} {Q : State → Prop} {X : KX} {L : List (Nat × Value)} {rest : List Value} {a1 : Int32} (F : ZF z (yK D cI ad) cc own nL ret d) (hd : 1 + 1 ≤ d) (hw : Cond.methodLink own index yX4_remove ∈ wsA) (hst : (rest.map fun v => v.category).sum ≤ 8) {β : Type} {e : Int32 → KX → Option β} {r : β} (hf : zB2 (f_X4_remove X a1) e = some r) (hdg : decode cc pc = .ok (.invokevirtual index, 3)) (kk : ∀ (v : Int32) (X2 : KX), e v X2 = some r → Z z (yK D cI ad) nL Q X2 (pc + 3) L (.int v :: rest)) : Z z (yK D cI ad) nL Q X pc L (.int a1 :: .ref (ad 1) :: rest) := by
  obtain ⟨v, X2, h1, h2⟩ := zB2_some hf
  exact z_cVI (As := [.int a1]) F (c_X4_remove X a1 h1) kn_X4_remove kv_X4_remove hw (q0 := 1) rfl rfl hd rfl hst hdg rfl (kk v X2 h2)
theorem kv_X6_drop : zKv yX6_drop := ⟨wm_361, wm_362⟩
theorem kn_X6_drop : zKn yX6_drop cX6_drop 2 (some .int) 1 := ⟨wm_363, wm_55, by decide +kernel, by decide⟩
set_option maxHeartbeats 4000000 in
set_option maxRecDepth 100000 in
theorem z_X6_drop {z : ZC} {D : va_G} {cI : ClassId} {ad : Nat → Nat} {R : Int32 × KX} (F : ZF z (yK D cI ad) cX6_drop RX6 2 (some .int) 2) (X : KX) (a1 : Int32) (hf : f_X6_drop X a1 = some R) : Z z (yK D cI ad) 2 (zQI z (yK D cI ad) R) X 0 [(0, .ref (ad 0)), (1, .int a1)] [] := by
  unfold f_X6_drop at hf
  refine z_iload_n F dX6_drop_0 1 rfl rfl ?_
  refine z_bipush (v := 8) F dX6_drop_1 (by decide +kernel) ?_
  refine k_X6_isBelow F (by decide) wm_312 (Nat.le_of_ble_eq_true rfl) dX6_drop_3 ?_
  refine z_if_ne (tgt := 12) F hf dX6_drop_6 (by decide) (fun hf => ?_) (fun hf => ?_)
  · refine z_aload_n F dX6_drop_12 0 rfl rfl ?_
    refine gK_0_0 F wm_274 dX6_drop_13 ?_
    refine z_iload_n F dX6_drop_16 1 rfl rfl ?_
    refine k_X4_isMissing F (by decide) wm_333 (Nat.le_of_ble_eq_true rfl) hf dX6_drop_17 (fun r_1 hf => ?_)
    refine z_if_eq (tgt := 29) F hf dX6_drop_20 (by decide) (fun hf => ?_) (fun hf => ?_)
    · refine z_aload_n F dX6_drop_29 0 rfl rfl ?_
      refine z_aload_n F dX6_drop_30 0 rfl rfl ?_
      refine gK_0_0 F wm_274 dX6_drop_31 ?_
      refine z_iload_n F dX6_drop_34 1 rfl rfl ?_
      refine k_X4_remove F (by decide) wm_364 (Nat.le_of_ble_eq_true rfl) hf dX6_drop_35 (fun r_2 X_3 hf => ?_)
      refine k_X6_foundNothing F (by decide) wm_325 (Nat.le_of_ble_eq_true rfl) hf dX6_drop_38 (fun r_4 X_5 hf => ?_)
      exact z_iret F dX6_drop_41 (Option.some.inj hf)
    · refine z_aload_n F dX6_drop_23 0 rfl rfl ?_
      refine z_iconst (v := 1) F dX6_drop_24 (by decide +kernel) ?_
      refine k_X6_found F (by decide) wm_316 (Nat.le_of_ble_eq_true rfl) hf dX6_drop_25 (fun r_6 X_7 hf => ?_)
      exact z_iret F dX6_drop_28 (Option.some.inj hf)
  · refine z_ldc F wm_315 dX6_drop_9 ?_
    exact z_iret F dX6_drop_11 (Option.some.inj hf)
theorem c_X6_drop {D : va_G} {cI : ClassId} {ad : Nat → Nat} {R : Int32 × KX} (X : KX) (a1 : Int32) (hf : f_X6_drop X a1 = some R) : zMI (yK D cI ad) yX6_drop cX6_drop 2 (some .int) 2 [.ref (ad 0), .int a1] X R := zMI_of (by decide +kernel) (Nat.le_of_ble_eq_true rfl) (fun z F => z_sub [0, 1] rfl (z_X6_drop F X a1 hf))
theorem k_X6_drop {z : ZC} {D : va_G} {cI : ClassId} {ad : Nat → Nat} {cc : ByteArray} {own : String} {nL d pc index : Nat} {ret : Option FieldType} {Q : State → Prop} {X : KX} {L : List (Nat × Value)} {rest : List Value} {a1 : Int32} (F : ZF z (yK D cI ad) cc own nL ret d) (hd : 2 + 1 ≤ d) (hw : Cond.methodLink own index yX6_drop ∈ wsA) (hst : (rest.map fun v => v.category).sum ≤ 8) {β : Type} {e : Int32 → KX → Option β} {r : β} (hf : zB2 (f_X6_drop X a1) e = some r) (hdg : decode cc pc = .ok (.invokevirtual index, 3)) (kk : ∀ (v : Int32) (X2 : KX), e v X2 = some r → Z z (yK D cI ad) nL Q X2 (pc + 3) L (.int v :: rest)) : Z z (yK D cI ad) nL Q X pc L (.int a1 :: .ref (ad 0) :: rest) := by
  obtain ⟨v, X2, h1, h2⟩ := zB2_some hf
  exact z_cVI (As := [.int a1]) F (c_X6_drop X a1 h1) kn_X6_drop kv_X6_drop hw (q0 := 0) rfl rfl hd rfl hst hdg rfl (kk v X2 h2)
theorem kv_X5_append : zKv yX5_append := ⟨wm_374, wm_375⟩
theorem kn_X5_append : zKn yX5_append cX5_append 2 (some .int) 1 := ⟨wm_376, wm_57, by decide +kernel, by decide⟩
set_option maxHeartbeats 4000000 in
set_option maxRecDepth 100000 in
theorem z_X5_append {z : ZC} {D : va_G} {cI : ClassId} {ad : Nat → Nat} {R : Int32 × KX} (F : ZF z (yK D cI ad) cX5_append RX5 2 (some .int) 1) (X : KX) (a1 : Int32) (hf : f_X5_append X a1 = some R) : Z z (yK D cI ad) 2 (zQI z (yK D cI ad) R) X 0 [(0, .ref (ad 5)), (1, .int a1)] [] := by
  unfold f_X5_append at hf
  refine z_aload_n F dX5_append_0 0 rfl rfl ?_
  refine gK_5_0 F wm_97 dX5_append_1 ?_
  refine z_aload_n F dX5_append_4 0 rfl rfl ?_
  refine gK_5_1 F wm_98 dX5_append_5 ?_
  refine z_iload_n F dX5_append_8 1 rfl rfl ?_
  refine sK_6 F hf dX5_append_9 (fun X_1 hf => ?_)
  refine z_aload_n F dX5_append_10 0 rfl rfl ?_
  refine z_dup F dX5_append_11 rfl ?_
  refine gK_5_1 F wm_98 dX5_append_12 ?_
  refine z_iconst (v := 1) F dX5_append_15 (by decide +kernel) ?_
  refine z_iadd F dX5_append_16 ?_
  refine pK_5_1 F hf wm_98 dX5_append_17 (fun X_2 hf => ?_)
  refine z_aload_n F dX5_append_20 0 rfl rfl ?_
  refine gK_5_1 F wm_98 dX5_append_21 ?_
  exact z_iret F dX5_append_24 (Option.some.inj hf)
theorem c_X5_append {D : va_G} {cI : ClassId} {ad : Nat → Nat} {R : Int32 × KX} (X : KX) (a1 : Int32) (hf : f_X5_append X a1 = some R) : zMI (yK D cI ad) yX5_append cX5_append 2 (some .int) 1 [.ref (ad 5), .int a1] X R := zMI_of (by decide +kernel) (Nat.le_of_ble_eq_true rfl) (fun z F => z_sub [0, 1] rfl (z_X5_append F X a1 hf))
theorem k_X5_append {z : ZC} {D : va_G} {cI : ClassId} {ad : Nat → Nat} {cc : ByteArray} {own : String} {nL d pc index : Nat} {ret : Option FieldType} {Q : State → Prop} {X : KX} {L : List (Nat × Value)} {rest : List Value} {a1 : Int32} (F : ZF z (yK D cI ad) cc own nL ret d) (hd : 1 + 1 ≤ d) (hw : Cond.methodLink own index yX5_append ∈ wsA) (hst : (rest.map fun v => v.category).sum ≤ 8) {β : Type} {e : Int32 → KX → Option β} {r : β} (hf : zB2 (f_X5_append X a1) e = some r) (hdg : decode cc pc = .ok (.invokevirtual index, 3)) (kk : ∀ (v : Int32) (X2 : KX), e v X2 = some r → Z z (yK D cI ad) nL Q X2 (pc + 3) L (.int v :: rest)) : Z z (yK D cI ad) nL Q X pc L (.int a1 :: .ref (ad 5) :: rest) := by
  obtain ⟨v, X2, h1, h2⟩ := zB2_some hf
  exact z_cVI (As := [.int a1]) F (c_X5_append X a1 h1) kn_X5_append kv_X5_append hw (q0 := 5) rfl rfl hd rfl hst hdg rfl (kk v X2 h2)
theorem kv_X6_feed : zKv yX6_feed := ⟨wm_369, wm_370⟩
theorem kn_X6_feed : zKn yX6_feed cX6_feed 2 (some .int) 1 := ⟨wm_371, wm_55, by decide +kernel, by decide⟩
set_option maxHeartbeats 4000000 in
set_option maxRecDepth 100000 in
theorem z_X6_feed {z : ZC} {D : va_G} {cI : ClassId} {ad : Nat → Nat} {R : Int32 × KX} (F : ZF z (yK D cI ad) cX6_feed RX6 2 (some .int) 2) (X : KX) (a1 : Int32) (hf : f_X6_feed X a1 = some R) : Z z (yK D cI ad) 2 (zQI z (yK D cI ad) R) X 0 [(0, .ref (ad 0)), (1, .int a1)] [] := by
  unfold f_X6_feed at hf
  refine z_iload_n F dX6_feed_0 1 rfl rfl ?_
  refine z_sipush (v := 256) F dX6_feed_1 (by decide +kernel) ?_
  refine k_X6_isBelow F (by decide) wm_312 (Nat.le_of_ble_eq_true rfl) dX6_feed_4 ?_
  refine z_if_ne (tgt := 13) F hf dX6_feed_7 (by decide) (fun hf => ?_) (fun hf => ?_)
  · refine z_aload_n F dX6_feed_13 0 rfl rfl ?_
    refine gK_0_1 F wm_275 dX6_feed_14 ?_
    refine gK_5_1 F wm_99 dX6_feed_17 ?_
    refine z_bipush (v := 120) F dX6_feed_20 (by decide +kernel) ?_
    refine z_icmp_lt (tgt := 28) F hf dX6_feed_22 (by decide) (fun hf => ?_) (fun hf => ?_)
    · refine z_aload_n F dX6_feed_28 0 rfl rfl ?_
      refine gK_0_1 F wm_275 dX6_feed_29 ?_
      refine z_iload_n F dX6_feed_32 1 rfl rfl ?_
      refine k_X5_append F (by decide) wm_373 (Nat.le_of_ble_eq_true rfl) hf dX6_feed_33 (fun r_1 X_2 hf => ?_)
      exact z_iret F dX6_feed_36 (Option.some.inj hf)
    · refine z_ldc F wm_372 dX6_feed_25 ?_
      exact z_iret F dX6_feed_27 (Option.some.inj hf)
  · refine z_ldc F wm_315 dX6_feed_10 ?_
    exact z_iret F dX6_feed_12 (Option.some.inj hf)
theorem c_X6_feed {D : va_G} {cI : ClassId} {ad : Nat → Nat} {R : Int32 × KX} (X : KX) (a1 : Int32) (hf : f_X6_feed X a1 = some R) : zMI (yK D cI ad) yX6_feed cX6_feed 2 (some .int) 2 [.ref (ad 0), .int a1] X R := zMI_of (by decide +kernel) (Nat.le_of_ble_eq_true rfl) (fun z F => z_sub [0, 1] rfl (z_X6_feed F X a1 hf))
theorem k_X6_feed {z : ZC} {D : va_G} {cI : ClassId} {ad : Nat → Nat} {cc : ByteArray} {own : String} {nL d pc index : Nat} {ret : Option FieldType} {Q : State → Prop} {X : KX} {L : List (Nat × Value)} {rest : List Value} {a1 : Int32} (F : ZF z (yK D cI ad) cc own nL ret d) (hd : 2 + 1 ≤ d) (hw : Cond.methodLink own index yX6_feed ∈ wsA) (hst : (rest.map fun v => v.category).sum ≤ 8) {β : Type} {e : Int32 → KX → Option β} {r : β} (hf : zB2 (f_X6_feed X a1) e = some r) (hdg : decode cc pc = .ok (.invokevirtual index, 3)) (kk : ∀ (v : Int32) (X2 : KX), e v X2 = some r → Z z (yK D cI ad) nL Q X2 (pc + 3) L (.int v :: rest)) : Z z (yK D cI ad) nL Q X pc L (.int a1 :: .ref (ad 0) :: rest) := by
  obtain ⟨v, X2, h1, h2⟩ := zB2_some hf
  exact z_cVI (As := [.int a1]) F (c_X6_feed X a1 h1) kn_X6_feed kv_X6_feed hw (q0 := 0) rfl rfl hd rfl hst hdg rfl (kk v X2 h2)
theorem kv_X5_letter : zKv yX5_letter := ⟨wm_395, wm_4⟩
theorem kn_X5_letter : zKn yX5_letter cX5_letter 1 (some .int) 0 := ⟨wm_396, wm_57, by decide +kernel, by decide⟩
set_option maxHeartbeats 4000000 in
set_option maxRecDepth 100000 in
theorem z_X5_letter {z : ZC} {D : va_G} {cI : ClassId} {ad : Nat → Nat} {r : Int32} (F : ZF z (yK D cI ad) cX5_letter RX5 1 (some .int) 1) (X : KX)  (hf : f_X5_letter X = some r) : Z z (yK D cI ad) 1 (zQI z (yK D cI ad) (r, X)) X 0 [(0, .ref (ad 5))] [] := by
  unfold f_X5_letter at hf
  refine z_aload_n F dX5_letter_0 0 rfl rfl ?_
  refine gK_5_2 F wm_100 dX5_letter_1 ?_
  refine z_aload_n F dX5_letter_4 0 rfl rfl ?_
  refine gK_5_1 F wm_98 dX5_letter_5 ?_
  refine z_icmp_ge (tgt := 23) F hf dX5_letter_8 (by decide) (fun hf => ?_) (fun hf => ?_)
  · refine z_iconst (v := (-1)) F dX5_letter_23 (by decide +kernel) ?_
    exact z_iret F dX5_letter_24 (Prod.ext (Option.some.inj hf) rfl)
  · refine z_aload_n F dX5_letter_11 0 rfl rfl ?_
    refine gK_5_0 F wm_97 dX5_letter_12 ?_
    refine z_aload_n F dX5_letter_15 0 rfl rfl ?_
    refine gK_5_2 F wm_100 dX5_letter_16 ?_
    refine lK_6 F hf dX5_letter_19 (fun hf => ?_)
    refine z_goto (tgt := 24) F dX5_letter_20 (by decide) ?_
    exact z_iret F dX5_letter_24 (Prod.ext (Option.some.inj hf) rfl)
theorem c_X5_letter {D : va_G} {cI : ClassId} {ad : Nat → Nat} {r : Int32} (X : KX)  (hf : f_X5_letter X = some r) : zMI (yK D cI ad) yX5_letter cX5_letter 1 (some .int) 1 [.ref (ad 5)] X (r, X) := zMI_of (by decide +kernel) (Nat.le_of_ble_eq_true rfl) (fun z F => z_sub [0] rfl (z_X5_letter F X hf))
theorem k_X5_letter {z : ZC} {D : va_G} {cI : ClassId} {ad : Nat → Nat} {cc : ByteArray} {own : String} {nL d pc index : Nat} {ret : Option FieldType} {Q : State → Prop} {X : KX} {L : List (Nat × Value)} {rest : List Value} (F : ZF z (yK D cI ad) cc own nL ret d) (hd : 1 + 1 ≤ d) (hw : Cond.methodLink own index yX5_letter ∈ wsA) (hst : (rest.map fun v => v.category).sum ≤ 8) {β : Type} {e : Int32 → Option β} {r : β} (hf : zB1 (f_X5_letter X) e = some r) (hdg : decode cc pc = .ok (.invokevirtual index, 3)) (kk : ∀ v : Int32, e v = some r → Z z (yK D cI ad) nL Q X (pc + 3) L (.int v :: rest)) : Z z (yK D cI ad) nL Q X pc L (.ref (ad 5) :: rest) := by
  obtain ⟨v, h1, h2⟩ := zB1_some hf
  exact z_cVI (As := []) F (c_X5_letter X h1) kn_X5_letter kv_X5_letter hw (q0 := 5) rfl rfl hd rfl hst hdg rfl (kk v h2)
theorem kv_X5_isFaulty : zKv yX5_isFaulty := ⟨wm_399, wm_5⟩
theorem kn_X5_isFaulty : zKn yX5_isFaulty cX5_isFaulty 2 (some .boolean) 1 := ⟨wm_400, wm_57, by decide +kernel, by decide⟩
set_option maxHeartbeats 4000000 in
set_option maxRecDepth 100000 in
theorem z_X5_isFaulty {z : ZC} {D : va_G} {cI : ClassId} {ad : Nat → Nat} {R : Int32 × KX} (F : ZF z (yK D cI ad) cX5_isFaulty RX5 2 (some .boolean) 1) (X : KX) (a1 : Int32) (hf : f_X5_isFaulty X a1 = some R) : Z z (yK D cI ad) 2 (zQI z (yK D cI ad) R) X 0 [(0, .ref (ad 5)), (1, .int a1)] [] := by
  unfold f_X5_isFaulty at hf
  refine z_aload_n F dX5_isFaulty_0 0 rfl rfl ?_
  refine z_iload_n F dX5_isFaulty_1 1 rfl rfl ?_
  refine pK_5_3 F hf wm_103 dX5_isFaulty_2 (fun X_1 hf => ?_)
  refine z_iconst (v := 0) F dX5_isFaulty_5 (by decide +kernel) ?_
  exact z_zret F (by decide) dX5_isFaulty_6 (Option.some.inj hf)
theorem c_X5_isFaulty {D : va_G} {cI : ClassId} {ad : Nat → Nat} {R : Int32 × KX} (X : KX) (a1 : Int32) (hf : f_X5_isFaulty X a1 = some R) : zMI (yK D cI ad) yX5_isFaulty cX5_isFaulty 2 (some .boolean) 1 [.ref (ad 5), .int a1] X R := zMI_of (by decide +kernel) (Nat.le_of_ble_eq_true rfl) (fun z F => z_sub [0, 1] rfl (z_X5_isFaulty F X a1 hf))
theorem k_X5_isFaulty {z : ZC} {D : va_G} {cI : ClassId} {ad : Nat → Nat} {cc : ByteArray} {own : String} {nL d pc index : Nat} {ret : Option FieldType} {Q : State → Prop} {X : KX} {L : List (Nat × Value)} {rest : List Value} {a1 : Int32} (F : ZF z (yK D cI ad) cc own nL ret d) (hd : 1 + 1 ≤ d) (hw : Cond.methodLink own index yX5_isFaulty ∈ wsA) (hst : (rest.map fun v => v.category).sum ≤ 8) {β : Type} {e : Int32 → KX → Option β} {r : β} (hf : zB2 (f_X5_isFaulty X a1) e = some r) (hdg : decode cc pc = .ok (.invokevirtual index, 3)) (kk : ∀ (v : Int32) (X2 : KX), e v X2 = some r → Z z (yK D cI ad) nL Q X2 (pc + 3) L (.int v :: rest)) : Z z (yK D cI ad) nL Q X pc L (.int a1 :: .ref (ad 5) :: rest) := by
  obtain ⟨v, X2, h1, h2⟩ := zB2_some hf
  exact z_cVI (As := [.int a1]) F (c_X5_isFaulty X a1 h1) kn_X5_isFaulty kv_X5_isFaulty hw (q0 := 5) rfl rfl hd rfl hst hdg rfl (kk v X2 h2)
theorem kv_X5_tellsSign : zKv yX5_tellsSign := ⟨wm_391, wm_3⟩
theorem kn_X5_tellsSign : zKn yX5_tellsSign cX5_tellsSign 2 (some .boolean) 1 := ⟨wm_392, wm_57, by decide +kernel, by decide⟩
set_option maxHeartbeats 4000000 in
set_option maxRecDepth 100000 in
theorem z_X5_tellsSign {z : ZC} {D : va_G} {cI : ClassId} {ad : Nat → Nat} {R : Int32 × KX} (F : ZF z (yK D cI ad) cX5_tellsSign RX5 2 (some .boolean) 2) (X : KX) (a1 : Int32) (hf : f_X5_tellsSign X a1 = some R) : Z z (yK D cI ad) 2 (zQI z (yK D cI ad) R) X 0 [(0, .ref (ad 5)), (1, .int a1)] [] := by
  unfold f_X5_tellsSign at hf
  refine z_aload_n F dX5_tellsSign_0 0 rfl rfl ?_
  refine k_X5_letter F (by decide) wm_393 (Nat.le_of_ble_eq_true rfl) hf dX5_tellsSign_1 (fun r_1 hf => ?_)
  refine z_iload_n F dX5_tellsSign_4 1 rfl rfl ?_
  refine z_icmp_eq (tgt := 14) F hf dX5_tellsSign_5 (by decide) (fun hf => ?_) (fun hf => ?_)
  · refine z_aload_n F dX5_tellsSign_14 0 rfl rfl ?_
    refine z_dup F dX5_tellsSign_15 rfl ?_
    refine gK_5_2 F wm_100 dX5_tellsSign_16 ?_
    refine z_iconst (v := 1) F dX5_tellsSign_19 (by decide +kernel) ?_
    refine z_iadd F dX5_tellsSign_20 ?_
    refine pK_5_2 F hf wm_100 dX5_tellsSign_21 (fun X_2 hf => ?_)
    refine z_iconst (v := 1) F dX5_tellsSign_24 (by decide +kernel) ?_
    exact z_zret F (by decide) dX5_tellsSign_25 (Option.some.inj hf)
  · refine z_aload_n F dX5_tellsSign_8 0 rfl rfl ?_
    refine z_iconst (v := 1) F dX5_tellsSign_9 (by decide +kernel) ?_
    refine k_X5_isFaulty F (by decide) wm_397 (Nat.le_of_ble_eq_true rfl) hf dX5_tellsSign_10 (fun r_3 X_4 hf => ?_)
    obtain ⟨hz, hf⟩ := zGb_some hf
    exact z_zret F hz dX5_tellsSign_13 (Option.some.inj hf)
theorem c_X5_tellsSign {D : va_G} {cI : ClassId} {ad : Nat → Nat} {R : Int32 × KX} (X : KX) (a1 : Int32) (hf : f_X5_tellsSign X a1 = some R) : zMI (yK D cI ad) yX5_tellsSign cX5_tellsSign 2 (some .boolean) 2 [.ref (ad 5), .int a1] X R := zMI_of (by decide +kernel) (Nat.le_of_ble_eq_true rfl) (fun z F => z_sub [0, 1] rfl (z_X5_tellsSign F X a1 hf))
theorem k_X5_tellsSign {z : ZC} {D : va_G} {cI : ClassId} {ad : Nat → Nat} {cc : ByteArray} {own : String} {nL d pc index : Nat} {ret : Option FieldType} {Q : State → Prop} {X : KX} {L : List (Nat × Value)} {rest : List Value} {a1 : Int32} (F : ZF z (yK D cI ad) cc own nL ret d) (hd : 2 + 1 ≤ d) (hw : Cond.methodLink own index yX5_tellsSign ∈ wsA) (hst : (rest.map fun v => v.category).sum ≤ 8) {β : Type} {e : Int32 → KX → Option β} {r : β} (hf : zB2 (f_X5_tellsSign X a1) e = some r) (hdg : decode cc pc = .ok (.invokevirtual index, 3)) (kk : ∀ (v : Int32) (X2 : KX), e v X2 = some r → Z z (yK D cI ad) nL Q X2 (pc + 3) L (.int v :: rest)) : Z z (yK D cI ad) nL Q X pc L (.int a1 :: .ref (ad 5) :: rest) := by
  obtain ⟨v, X2, h1, h2⟩ := zB2_some hf
  exact z_cVI (As := [.int a1]) F (c_X5_tellsSign X a1 h1) kn_X5_tellsSign kv_X5_tellsSign hw (q0 := 5) rfl rfl hd rfl hst hdg rfl (kk v X2 h2)
theorem kv_X5_isFigure : Cond.static yX5_isFigure ∈ wsA := wm_406
theorem kn_X5_isFigure : zKn yX5_isFigure cX5_isFigure 1 (some .boolean) 1 := ⟨wm_407, wm_57, by decide +kernel, by decide⟩
set_option maxHeartbeats 4000000 in
set_option maxRecDepth 100000 in
theorem z_X5_isFigure {z : ZC} {D : va_G} {cI : ClassId} {ad : Nat → Nat} {r : Int32} (F : ZF z (yK D cI ad) cX5_isFigure RX5 1 (some .boolean) 1) {X : KX} (a0 : Int32) (hf : f_X5_isFigure a0 = r) : Z z (yK D cI ad) 1 (zQI z (yK D cI ad) (r, X)) X 0 [(0, .int a0)] [] := by
  unfold f_X5_isFigure at hf
  refine z_iload_n F dX5_isFigure_0 0 rfl rfl ?_
  refine z_bipush (v := 48) F dX5_isFigure_1 (by decide +kernel) ?_
  refine z_icmp_lt (tgt := 16) F hf dX5_isFigure_3 (by decide) (fun hf => ?_) (fun hf => ?_)
  · refine z_iconst (v := 0) F dX5_isFigure_16 (by decide +kernel) ?_
    exact z_zret F (by decide) dX5_isFigure_17 (Prod.ext hf rfl)
  · refine z_iload_n F dX5_isFigure_6 0 rfl rfl ?_
    refine z_bipush (v := 57) F dX5_isFigure_7 (by decide +kernel) ?_
    refine z_icmp_gt (tgt := 16) F hf dX5_isFigure_9 (by decide) (fun hf => ?_) (fun hf => ?_)
    · refine z_iconst (v := 0) F dX5_isFigure_16 (by decide +kernel) ?_
      exact z_zret F (by decide) dX5_isFigure_17 (Prod.ext hf rfl)
    · refine z_iconst (v := 1) F dX5_isFigure_12 (by decide +kernel) ?_
      refine z_goto (tgt := 17) F dX5_isFigure_13 (by decide) ?_
      exact z_zret F (by decide) dX5_isFigure_17 (Prod.ext hf rfl)
theorem c_X5_isFigure {D : va_G} {cI : ClassId} {ad : Nat → Nat} (X : KX) (a0 : Int32) : zMI (yK D cI ad) yX5_isFigure cX5_isFigure 1 (some .boolean) 1 [.int a0] X (f_X5_isFigure a0, X) := zMI_of (by decide +kernel) (Nat.le_of_ble_eq_true rfl) (fun z F => z_sub [0] rfl (z_X5_isFigure F a0 rfl))
theorem k_X5_isFigure {z : ZC} {D : va_G} {cI : ClassId} {ad : Nat → Nat} {cc : ByteArray} {own : String} {nL d pc index : Nat} {ret : Option FieldType} {Q : State → Prop} {X : KX} {L : List (Nat × Value)} {rest : List Value} {a0 : Int32} (F : ZF z (yK D cI ad) cc own nL ret d) (hd : 1 + 1 ≤ d) (hw : Cond.methodLink own index yX5_isFigure ∈ wsA) (hst : (rest.map fun v => v.category).sum ≤ 8) (hdg : decode cc pc = .ok (.invokestatic index, 3)) (kk : Z z (yK D cI ad) nL Q X (pc + 3) L (.int (f_X5_isFigure a0) :: rest)) : Z z (yK D cI ad) nL Q X pc L (.int a0 :: rest) := z_cSI (As := [.int a0]) F (c_X5_isFigure X a0) kn_X5_isFigure kv_X5_isFigure hw hd rfl hst hdg rfl kk
theorem k_X5_isFigureN {z : ZC} {D : va_G} {cI : ClassId} {ad : Nat → Nat} {cc : ByteArray} {own : String} {nL d pc index : Nat} {ret : Option FieldType} {Q : State → Prop} {X : KX} {L : List (Nat × Value)} {rest : List Value} {a0 : Int32} (F : ZF z (yK D cI ad) cc own nL ret d) (hd : 1 + 1 ≤ d) (hw : ∀ s, zN s → va_Nw (.methodLinkNest own index yX5_isFigure "AilingKing") s) (hst : (rest.map fun v => v.category).sum ≤ 8) (hdg : decode cc pc = .ok (.invokestatic index, 3)) (kk : Z z (yK D cI ad) nL Q X (pc + 3) L (.int (f_X5_isFigure a0) :: rest)) : Z z (yK D cI ad) nL Q X pc L (.int a0 :: rest) := z_cNI (As := [.int a0]) F (c_X5_isFigure X a0) kn_X5_isFigure kv_X5_isFigure hw hd rfl hst hdg rfl kk
theorem bz_X5_isFigure (a0 : Int32) : f_X5_isFigure a0 = 0 ∨ f_X5_isFigure a0 = 1 := by
  unfold f_X5_isFigure
  repeat' split
  all_goals first | exact Or.inl rfl | exact Or.inr rfl | exact bz_X6_isBelow _ _
theorem kv_X5_tellsNumber : zKv yX5_tellsNumber := ⟨wm_403, wm_6⟩
theorem kn_X5_tellsNumber : zKn yX5_tellsNumber cX5_tellsNumber 5 (some .boolean) 3 := ⟨wm_404, wm_57, by decide +kernel, by decide⟩
set_option maxHeartbeats 4000000 in
set_option maxRecDepth 100000 in
theorem z_X5_tellsNumber_122 {z : ZC} {D : va_G} {cI : ClassId} {ad : Nat → Nat} {R : Int32 × KX} (F : ZF z (yK D cI ad) cX5_tellsNumber RX5 5 (some .boolean) 2) (n : Nat) (X : KX) (hf : f_X5_tellsNumber_122 n X = some R) : Z z (yK D cI ad) 5 (zQI z (yK D cI ad) R) X 122 [(0, .ref (ad 5))] [] := by
  unfold f_X5_tellsNumber_122 at hf
  refine z_aload_n F dX5_tellsNumber_122 0 rfl rfl ?_
  refine z_iconst (v := 2) F dX5_tellsNumber_123 (by decide +kernel) ?_
  refine k_X5_isFaulty F (by decide) wm_397 (Nat.le_of_ble_eq_true rfl) hf dX5_tellsNumber_124 (fun r_1 X_2 hf => ?_)
  obtain ⟨hz, hf⟩ := zGb_some hf
  exact z_zret F hz dX5_tellsNumber_127 (Option.some.inj hf)
set_option maxHeartbeats 4000000 in
set_option maxRecDepth 100000 in
theorem z_X5_tellsNumber_92 {z : ZC} {D : va_G} {cI : ClassId} {ad : Nat → Nat} {R : Int32 × KX} (F : ZF z (yK D cI ad) cX5_tellsNumber RX5 5 (some .boolean) 2) (n : Nat) (X : KX) (hf : f_X5_tellsNumber_92 n X = some R) : Z z (yK D cI ad) 5 (zQI z (yK D cI ad) R) X 92 [(0, .ref (ad 5))] [] := by
  unfold f_X5_tellsNumber_92 at hf
  refine z_aload_n F dX5_tellsNumber_92 0 rfl rfl ?_
  refine z_iconst (v := 1) F dX5_tellsNumber_93 (by decide +kernel) ?_
  refine k_X5_isFaulty F (by decide) wm_397 (Nat.le_of_ble_eq_true rfl) hf dX5_tellsNumber_94 (fun r_1 X_2 hf => ?_)
  obtain ⟨hz, hf⟩ := zGb_some hf
  exact z_zret F hz dX5_tellsNumber_97 (Option.some.inj hf)
set_option maxHeartbeats 4000000 in
set_option maxRecDepth 100000 in
theorem z_X5_tellsNumber_72 {z : ZC} {D : va_G} {cI : ClassId} {ad : Nat → Nat} {R : Int32 × KX} (F : ZF z (yK D cI ad) cX5_tellsNumber RX5 5 (some .boolean) 2) (n : Nat) (X : KX) (v1 : Int32) (v2 : Int32) (v3 : Int32) (v4 : Int32) (hf : f_X5_tellsNumber_72 n X v1 v2 v3 v4 = some R) : Z z (yK D cI ad) 5 (zQI z (yK D cI ad) R) X 72 [(0, .ref (ad 5)), (1, .int v1), (2, .int v2), (3, .int v3), (4, .int v4)] [] := by
  unfold f_X5_tellsNumber_72 at hf
  refine z_iload F dX5_tellsNumber_72 4 rfl ?_
  refine z_aload_n F dX5_tellsNumber_74 0 rfl rfl ?_
  refine gK_5_2 F wm_100 dX5_tellsNumber_75 ?_
  refine z_icmp_eq (tgt := 92) F hf dX5_tellsNumber_78 (by decide) (fun hf => ?_) (fun hf => ?_)
  · exact z_sub [0] rfl (z_X5_tellsNumber_92 F n X hf)
  · refine z_iload F dX5_tellsNumber_81 4 rfl ?_
    refine z_aload_n F dX5_tellsNumber_83 0 rfl rfl ?_
    refine gK_5_2 F wm_100 dX5_tellsNumber_84 ?_
    refine z_iconst (v := 3) F dX5_tellsNumber_87 (by decide +kernel) ?_
    refine z_iadd F dX5_tellsNumber_88 ?_
    refine z_icmp_ne (tgt := 98) F hf dX5_tellsNumber_89 (by decide) (fun hf => ?_) (fun hf => ?_)
    · refine z_aload_n F dX5_tellsNumber_98 0 rfl rfl ?_
      refine gK_5_4 F wm_104 dX5_tellsNumber_99 ?_
      refine z_iload_n F dX5_tellsNumber_102 1 rfl rfl ?_
      refine z_icmp_lt (tgt := 122) F hf dX5_tellsNumber_103 (by decide) (fun hf => ?_) (fun hf => ?_)
      · exact z_sub [0] rfl (z_X5_tellsNumber_122 F n X hf)
      · refine z_aload_n F dX5_tellsNumber_106 0 rfl rfl ?_
        refine gK_5_4 F wm_104 dX5_tellsNumber_107 ?_
        refine z_iload_n F dX5_tellsNumber_110 2 rfl rfl ?_
        refine z_icmp_gt (tgt := 122) F hf dX5_tellsNumber_111 (by decide) (fun hf => ?_) (fun hf => ?_)
        · exact z_sub [0] rfl (z_X5_tellsNumber_122 F n X hf)
        · refine z_aload_n F dX5_tellsNumber_114 0 rfl rfl ?_
          refine gK_5_4 F wm_104 dX5_tellsNumber_115 ?_
          refine z_iload_n F dX5_tellsNumber_118 3 rfl rfl ?_
          refine z_icmp_ne (tgt := 128) F hf dX5_tellsNumber_119 (by decide) (fun hf => ?_) (fun hf => ?_)
          · refine z_aload_n F dX5_tellsNumber_128 0 rfl rfl ?_
            refine z_iload F dX5_tellsNumber_129 4 rfl ?_
            refine pK_5_2 F hf wm_100 dX5_tellsNumber_131 (fun X_1 hf => ?_)
            refine z_iconst (v := 1) F dX5_tellsNumber_134 (by decide +kernel) ?_
            exact z_zret F (by decide) dX5_tellsNumber_135 (Option.some.inj hf)
          · exact z_sub [0] rfl (z_X5_tellsNumber_122 F n X hf)
    · exact z_sub [0] rfl (z_X5_tellsNumber_92 F n X hf)
set_option maxHeartbeats 4000000 in
set_option maxRecDepth 100000 in
theorem z_X5_tellsNumber_11 {z : ZC} {D : va_G} {cI : ClassId} {ad : Nat → Nat} {R : Int32 × KX} (F : ZF z (yK D cI ad) cX5_tellsNumber RX5 5 (some .boolean) 2) (n : Nat) : ∀ (t : Nat) (X : KX) (v1 : Int32) (v2 : Int32) (v3 : Int32) (v4 : Int32), f_X5_tellsNumber_11 n t X v1 v2 v3 v4 = some R → Z z (yK D cI ad) 5 (zQI z (yK D cI ad) R) X 11 [(0, .ref (ad 5)), (1, .int v1), (2, .int v2), (3, .int v3), (4, .int v4)] [] := by
  intro t
  induction t with
  | zero => intro X v1 v2 v3 v4 hf; rw [f_X5_tellsNumber_11] at hf; exact zNone hf
  | succ t ih =>
    intro X v1 v2 v3 v4 hf
    rw [f_X5_tellsNumber_11] at hf
    refine z_iload F dX5_tellsNumber_11 4 rfl ?_
    refine z_aload_n F dX5_tellsNumber_13 0 rfl rfl ?_
    refine gK_5_1 F wm_98 dX5_tellsNumber_14 ?_
    refine z_icmp_ge (tgt := 72) F hf dX5_tellsNumber_17 (by decide) (fun hf => ?_) (fun hf => ?_)
    · exact z_sub [0, 1, 2, 3, 4] rfl (z_X5_tellsNumber_72 F n X v1 v2 v3 v4 hf)
    · refine z_iload F dX5_tellsNumber_20 4 rfl ?_
      refine z_aload_n F dX5_tellsNumber_22 0 rfl rfl ?_
      refine gK_5_2 F wm_100 dX5_tellsNumber_23 ?_
      refine z_iconst (v := 3) F dX5_tellsNumber_26 (by decide +kernel) ?_
      refine z_iadd F dX5_tellsNumber_27 ?_
      refine z_icmp_ge (tgt := 72) F hf dX5_tellsNumber_28 (by decide) (fun hf => ?_) (fun hf => ?_)
      · exact z_sub [0, 1, 2, 3, 4] rfl (z_X5_tellsNumber_72 F n X v1 v2 v3 v4 hf)
      · refine z_aload_n F dX5_tellsNumber_31 0 rfl rfl ?_
        refine gK_5_0 F wm_97 dX5_tellsNumber_32 ?_
        refine z_iload F dX5_tellsNumber_35 4 rfl ?_
        refine lK_6 F hf dX5_tellsNumber_37 (fun hf => ?_)
        refine k_X5_isFigure F (by decide) wm_405 (Nat.le_of_ble_eq_true rfl) dX5_tellsNumber_38 ?_
        refine z_if_eq (tgt := 72) F hf dX5_tellsNumber_41 (by decide) (fun hf => ?_) (fun hf => ?_)
        · exact z_sub [0, 1, 2, 3, 4] rfl (z_X5_tellsNumber_72 F n X v1 v2 v3 v4 hf)
        · refine z_aload_n F dX5_tellsNumber_44 0 rfl rfl ?_
          refine z_aload_n F dX5_tellsNumber_45 0 rfl rfl ?_
          refine gK_5_4 F wm_104 dX5_tellsNumber_46 ?_
          refine z_bipush (v := 10) F dX5_tellsNumber_49 (by decide +kernel) ?_
          refine z_imul F dX5_tellsNumber_51 ?_
          refine z_aload_n F dX5_tellsNumber_52 0 rfl rfl ?_
          refine gK_5_0 F wm_97 dX5_tellsNumber_53 ?_
          refine z_iload F dX5_tellsNumber_56 4 rfl ?_
          refine lK_6 F hf dX5_tellsNumber_58 (fun hf => ?_)
          refine z_iadd F dX5_tellsNumber_59 ?_
          refine z_bipush (v := 48) F dX5_tellsNumber_60 (by decide +kernel) ?_
          refine z_isub F dX5_tellsNumber_62 ?_
          refine pK_5_4 F hf wm_104 dX5_tellsNumber_63 (fun X_1 hf => ?_)
          refine z_iinc (w := 1) (L' := fun v4_2 => [(4, .int v4_2), (0, .ref (ad 5)), (1, .int v1), (2, .int v2), (3, .int v3)]) F hf dX5_tellsNumber_66 4 rfl (by decide +kernel) (Nat.le_of_ble_eq_true rfl) (fun _ => rfl) (fun v4_2 hf => ?_)
          refine z_goto (tgt := 11) F dX5_tellsNumber_69 (by decide) ?_
          exact z_sub [1, 2, 3, 4, 0] rfl (ih X_1 v1 v2 v3 v4_2 hf)
set_option maxHeartbeats 4000000 in
set_option maxRecDepth 100000 in
theorem z_X5_tellsNumber {z : ZC} {D : va_G} {cI : ClassId} {ad : Nat → Nat} {R : Int32 × KX} (F : ZF z (yK D cI ad) cX5_tellsNumber RX5 5 (some .boolean) 2) (n : Nat) (X : KX) (a1 : Int32) (a2 : Int32) (a3 : Int32) (hf : f_X5_tellsNumber n X a1 a2 a3 = some R) : Z z (yK D cI ad) 5 (zQI z (yK D cI ad) R) X 0 [(0, .ref (ad 5)), (1, .int a1), (2, .int a2), (3, .int a3)] [] := by
  unfold f_X5_tellsNumber at hf
  refine z_aload_n F dX5_tellsNumber_0 0 rfl rfl ?_
  refine gK_5_2 F wm_100 dX5_tellsNumber_1 ?_
  refine z_top hf (fun v4_1 hf => ?_)
  refine z_istore (L' := [(4, .int v4_1), (0, .ref (ad 5)), (1, .int a1), (2, .int a2), (3, .int a3)]) F dX5_tellsNumber_4 (Nat.le_of_ble_eq_true rfl) rfl ?_
  refine z_aload_n F dX5_tellsNumber_6 1 rfl rfl ?_
  refine z_iconst (v := 0) F dX5_tellsNumber_7 (by decide +kernel) ?_
  refine pK_5_4 F hf wm_104 dX5_tellsNumber_8 (fun X_2 hf => ?_)
  exact z_sub [1, 2, 3, 4, 0] rfl (z_X5_tellsNumber_11 F n n X_2 a1 a2 a3 v4_1 hf)
theorem c_X5_tellsNumber {D : va_G} {cI : ClassId} {ad : Nat → Nat} {R : Int32 × KX} (n : Nat) (X : KX) (a1 : Int32) (a2 : Int32) (a3 : Int32) (hf : f_X5_tellsNumber n X a1 a2 a3 = some R) : zMI (yK D cI ad) yX5_tellsNumber cX5_tellsNumber 5 (some .boolean) 2 [.ref (ad 5), .int a1, .int a2, .int a3] X R := zMI_of (by decide +kernel) (Nat.le_of_ble_eq_true rfl) (fun z F => z_sub [0, 1, 2, 3] rfl (z_X5_tellsNumber F n X a1 a2 a3 hf))
theorem k_X5_tellsNumber {z : ZC} {D : va_G} {cI : ClassId} {ad : Nat → Nat} {cc : ByteArray} {own : String} {nL d pc index : Nat} {ret : Option FieldType} {Q : State → Prop} {X : KX} {L : List (Nat × Value)} {rest : List Value} {n : Nat} {a1 a2 a3 : Int32} (F : ZF z (yK D cI ad) cc own nL ret d) (hd : 2 + 1 ≤ d) (hw : Cond.methodLink own index yX5_tellsNumber ∈ wsA) (hst : (rest.map fun v => v.category).sum ≤ 8) {β : Type} {e : Int32 → KX → Option β} {r : β} (hf : zB2 (f_X5_tellsNumber n X a1 a2 a3) e = some r) (hdg : decode cc pc = .ok (.invokevirtual index, 3)) (kk : ∀ (v : Int32) (X2 : KX), e v X2 = some r → Z z (yK D cI ad) nL Q X2 (pc + 3) L (.int v :: rest)) : Z z (yK D cI ad) nL Q X pc L (.int a3 :: .int a2 :: .int a1 :: .ref (ad 5) :: rest) := by
  obtain ⟨v, X2, h1, h2⟩ := zB2_some hf
  exact z_cVI (As := [.int a1, .int a2, .int a3]) F (c_X5_tellsNumber n X a1 a2 a3 h1) kn_X5_tellsNumber kv_X5_tellsNumber hw (q0 := 5) rfl rfl hd rfl hst hdg rfl (kk v X2 h2)
theorem kv_X5_tellsLaw : zKv yX5_tellsLaw := ⟨wm_387, wm_2⟩
theorem kn_X5_tellsLaw : zKn yX5_tellsLaw cX5_tellsLaw 2 (some .boolean) 1 := ⟨wm_388, wm_57, by decide +kernel, by decide⟩
set_option maxHeartbeats 4000000 in
set_option maxRecDepth 100000 in
theorem z_X5_tellsLaw {z : ZC} {D : va_G} {cI : ClassId} {ad : Nat → Nat} {R : Int32 × KX} (F : ZF z (yK D cI ad) cX5_tellsLaw RX5 2 (some .boolean) 3) (n : Nat) (X : KX)  (hf : f_X5_tellsLaw n X = some R) : Z z (yK D cI ad) 2 (zQI z (yK D cI ad) R) X 0 [(0, .ref (ad 5)), (1, .ref (ad 16))] [] := by
  unfold f_X5_tellsLaw at hf
  refine z_aload_n F dX5_tellsLaw_0 0 rfl rfl ?_
  refine z_bipush (v := 107) F dX5_tellsLaw_1 (by decide +kernel) ?_
  refine k_X5_tellsSign F (by decide) wm_389 (Nat.le_of_ble_eq_true rfl) hf dX5_tellsLaw_3 (fun r_1 X_2 hf => ?_)
  refine z_if_eq (tgt := 20) F hf dX5_tellsLaw_6 (by decide) (fun hf => ?_) (fun hf => ?_)
  · refine z_iconst (v := 0) F dX5_tellsLaw_20 (by decide +kernel) ?_
    exact z_zret F (by decide) dX5_tellsLaw_21 (Option.some.inj hf)
  · refine z_aload_n F dX5_tellsLaw_9 0 rfl rfl ?_
    refine z_iconst (v := 0) F dX5_tellsLaw_10 (by decide +kernel) ?_
    refine z_bipush (v := 7) F dX5_tellsLaw_11 (by decide +kernel) ?_
    refine z_iconst (v := (-1)) F dX5_tellsLaw_13 (by decide +kernel) ?_
    refine k_X5_tellsNumber F (by decide) wm_401 (Nat.le_of_ble_eq_true rfl) hf dX5_tellsLaw_14 (fun r_3 X_4 hf => ?_)
    refine z_if_ne (tgt := 22) F hf dX5_tellsLaw_17 (by decide) (fun hf => ?_) (fun hf => ?_)
    · refine z_aload_n F dX5_tellsLaw_22 1 rfl rfl ?_
      refine z_aload_n F dX5_tellsLaw_23 0 rfl rfl ?_
      refine gK_5_4 F wm_104 dX5_tellsLaw_24 ?_
      refine pK_16_1 F hf wm_127 dX5_tellsLaw_27 (fun X_5 hf => ?_)
      refine z_aload_n F dX5_tellsLaw_30 0 rfl rfl ?_
      refine z_bipush (v := 44) F dX5_tellsLaw_31 (by decide +kernel) ?_
      refine k_X5_tellsSign F (by decide) wm_389 (Nat.le_of_ble_eq_true rfl) hf dX5_tellsLaw_33 (fun r_6 X_7 hf => ?_)
      refine z_if_eq (tgt := 53) F hf dX5_tellsLaw_36 (by decide) (fun hf => ?_) (fun hf => ?_)
      · refine z_iconst (v := 0) F dX5_tellsLaw_53 (by decide +kernel) ?_
        exact z_zret F (by decide) dX5_tellsLaw_54 (Option.some.inj hf)
      · refine z_aload_n F dX5_tellsLaw_39 0 rfl rfl ?_
        refine z_iconst (v := 0) F dX5_tellsLaw_40 (by decide +kernel) ?_
        refine z_bipush (v := 7) F dX5_tellsLaw_41 (by decide +kernel) ?_
        refine z_aload_n F dX5_tellsLaw_43 1 rfl rfl ?_
        refine gK_16_1 F wm_127 dX5_tellsLaw_44 ?_
        refine k_X5_tellsNumber F (by decide) wm_401 (Nat.le_of_ble_eq_true rfl) hf dX5_tellsLaw_47 (fun r_8 X_9 hf => ?_)
        refine z_if_ne (tgt := 55) F hf dX5_tellsLaw_50 (by decide) (fun hf => ?_) (fun hf => ?_)
        · refine z_aload_n F dX5_tellsLaw_55 1 rfl rfl ?_
          refine z_aload_n F dX5_tellsLaw_56 0 rfl rfl ?_
          refine gK_5_4 F wm_104 dX5_tellsLaw_57 ?_
          refine pK_16_2 F hf wm_130 dX5_tellsLaw_60 (fun X_10 hf => ?_)
          refine z_aload_n F dX5_tellsLaw_63 0 rfl rfl ?_
          refine z_bipush (v := 44) F dX5_tellsLaw_64 (by decide +kernel) ?_
          refine k_X5_tellsSign F (by decide) wm_389 (Nat.le_of_ble_eq_true rfl) hf dX5_tellsLaw_66 (fun r_11 X_12 hf => ?_)
          refine z_if_eq (tgt := 82) F hf dX5_tellsLaw_69 (by decide) (fun hf => ?_) (fun hf => ?_)
          · refine z_iconst (v := 0) F dX5_tellsLaw_82 (by decide +kernel) ?_
            exact z_zret F (by decide) dX5_tellsLaw_83 (Option.some.inj hf)
          · refine z_aload_n F dX5_tellsLaw_72 0 rfl rfl ?_
            refine z_iconst (v := 1) F dX5_tellsLaw_73 (by decide +kernel) ?_
            refine z_iconst (v := 5) F dX5_tellsLaw_74 (by decide +kernel) ?_
            refine z_iconst (v := (-1)) F dX5_tellsLaw_75 (by decide +kernel) ?_
            refine k_X5_tellsNumber F (by decide) wm_401 (Nat.le_of_ble_eq_true rfl) hf dX5_tellsLaw_76 (fun r_13 X_14 hf => ?_)
            refine z_if_ne (tgt := 84) F hf dX5_tellsLaw_79 (by decide) (fun hf => ?_) (fun hf => ?_)
            · refine z_aload_n F dX5_tellsLaw_84 1 rfl rfl ?_
              refine z_aload_n F dX5_tellsLaw_85 0 rfl rfl ?_
              refine gK_5_4 F wm_104 dX5_tellsLaw_86 ?_
              refine pK_16_3 F hf wm_133 dX5_tellsLaw_89 (fun X_15 hf => ?_)
              refine z_aload_n F dX5_tellsLaw_92 0 rfl rfl ?_
              refine z_bipush (v := 59) F dX5_tellsLaw_93 (by decide +kernel) ?_
              refine k_X5_tellsSign F (by decide) wm_389 (Nat.le_of_ble_eq_true rfl) hf dX5_tellsLaw_95 (fun r_16 X_17 hf => ?_)
              obtain ⟨hz, hf⟩ := zGb_some hf
              exact z_zret F hz dX5_tellsLaw_98 (Option.some.inj hf)
            · refine z_iconst (v := 0) F dX5_tellsLaw_82 (by decide +kernel) ?_
              exact z_zret F (by decide) dX5_tellsLaw_83 (Option.some.inj hf)
        · refine z_iconst (v := 0) F dX5_tellsLaw_53 (by decide +kernel) ?_
          exact z_zret F (by decide) dX5_tellsLaw_54 (Option.some.inj hf)
    · refine z_iconst (v := 0) F dX5_tellsLaw_20 (by decide +kernel) ?_
      exact z_zret F (by decide) dX5_tellsLaw_21 (Option.some.inj hf)
theorem c_X5_tellsLaw {D : va_G} {cI : ClassId} {ad : Nat → Nat} {R : Int32 × KX} (n : Nat) (X : KX)  (hf : f_X5_tellsLaw n X = some R) : zMI (yK D cI ad) yX5_tellsLaw cX5_tellsLaw 2 (some .boolean) 3 [.ref (ad 5), .ref (ad 16)] X R := zMI_of (by decide +kernel) (Nat.le_of_ble_eq_true rfl) (fun z F => z_sub [0, 1] rfl (z_X5_tellsLaw F n X hf))
theorem k_X5_tellsLaw {z : ZC} {D : va_G} {cI : ClassId} {ad : Nat → Nat} {cc : ByteArray} {own : String} {nL d pc index : Nat} {ret : Option FieldType} {Q : State → Prop} {X : KX} {L : List (Nat × Value)} {rest : List Value} {n : Nat} (F : ZF z (yK D cI ad) cc own nL ret d) (hd : 3 + 1 ≤ d) (hw : Cond.methodLink own index yX5_tellsLaw ∈ wsA) (hst : (rest.map fun v => v.category).sum ≤ 8) {β : Type} {e : Int32 → KX → Option β} {r : β} (hf : zB2 (f_X5_tellsLaw n X) e = some r) (hdg : decode cc pc = .ok (.invokevirtual index, 3)) (kk : ∀ (v : Int32) (X2 : KX), e v X2 = some r → Z z (yK D cI ad) nL Q X2 (pc + 3) L (.int v :: rest)) : Z z (yK D cI ad) nL Q X pc L (.ref (ad 16) :: .ref (ad 5) :: rest) := by
  obtain ⟨v, X2, h1, h2⟩ := zB2_some hf
  exact z_cVI (As := [.ref (ad 16)]) F (c_X5_tellsLaw n X h1) kn_X5_tellsLaw kv_X5_tellsLaw hw (q0 := 5) rfl rfl hd rfl hst hdg rfl (kk v X2 h2)
theorem kv_X5_sortOf : Cond.static yX5_sortOf ∈ wsA := wm_413
theorem kn_X5_sortOf : zKn yX5_sortOf cX5_sortOf 1 (some .int) 1 := ⟨wm_414, wm_57, by decide +kernel, by decide⟩
set_option maxHeartbeats 4000000 in
set_option maxRecDepth 100000 in
theorem z_X5_sortOf {z : ZC} {D : va_G} {cI : ClassId} {ad : Nat → Nat} {r : Int32} (F : ZF z (yK D cI ad) cX5_sortOf RX5 1 (some .int) 1) {X : KX} (a0 : Int32) (hf : f_X5_sortOf a0 = r) : Z z (yK D cI ad) 1 (zQI z (yK D cI ad) (r, X)) X 0 [(0, .int a0)] [] := by
  unfold f_X5_sortOf at hf
  refine z_iload_n F dX5_sortOf_0 0 rfl rfl ?_
  refine zIte hf (fun c0 hf => ?_) (fun c0 hf => ?_)
  · refine z_look (off := 59) (tgt := 60) F dX5_sortOf_1 (by decide +kernel) (by rw [c0]; decide +kernel) (by decide) ?_
    refine z_iconst (v := 5) F dX5_sortOf_60 (by decide +kernel) ?_
    exact z_iret F dX5_sortOf_61 (Prod.ext hf rfl)
  · refine zIte hf (fun c1 hf => ?_) (fun c1 hf => ?_)
    · refine z_look (off := 53) (tgt := 54) F dX5_sortOf_1 (by decide +kernel) (by rw [c1]; decide +kernel) (by decide) ?_
      refine z_iconst (v := 2) F dX5_sortOf_54 (by decide +kernel) ?_
      exact z_iret F dX5_sortOf_55 (Prod.ext hf rfl)
    · refine zIte hf (fun c2 hf => ?_) (fun c2 hf => ?_)
      · refine z_look (off := 57) (tgt := 58) F dX5_sortOf_1 (by decide +kernel) (by rw [c2]; decide +kernel) (by decide) ?_
        refine z_iconst (v := 4) F dX5_sortOf_58 (by decide +kernel) ?_
        exact z_iret F dX5_sortOf_59 (Prod.ext hf rfl)
      · refine zIte hf (fun c3 hf => ?_) (fun c3 hf => ?_)
        · refine z_look (off := 51) (tgt := 52) F dX5_sortOf_1 (by decide +kernel) (by rw [c3]; decide +kernel) (by decide) ?_
          refine z_iconst (v := 1) F dX5_sortOf_52 (by decide +kernel) ?_
          exact z_iret F dX5_sortOf_53 (Prod.ext hf rfl)
        · refine zIte hf (fun c4 hf => ?_) (fun c4 hf => ?_)
          · refine z_look (off := 55) (tgt := 56) F dX5_sortOf_1 (by decide +kernel) (by rw [c4]; decide +kernel) (by decide) ?_
            refine z_iconst (v := 3) F dX5_sortOf_56 (by decide +kernel) ?_
            exact z_iret F dX5_sortOf_57 (Prod.ext hf rfl)
          · refine z_look (off := 61) (tgt := 62) F dX5_sortOf_1 (by decide +kernel) (by show Op.lookupswitch.offset [(100, 59), (103, 53), (109, 57), (115, 51), (119, 55)] 61 _ = _; rw [lv_osw c0 (show (100 : Int32).toInt = 100 by decide +kernel), lv_osw c1 (show (103 : Int32).toInt = 103 by decide +kernel), lv_osw c2 (show (109 : Int32).toInt = 109 by decide +kernel), lv_osw c3 (show (115 : Int32).toInt = 115 by decide +kernel), lv_osw c4 (show (119 : Int32).toInt = 119 by decide +kernel)]; rfl) (by decide) ?_
            refine z_iconst (v := 0) F dX5_sortOf_62 (by decide +kernel) ?_
            exact z_iret F dX5_sortOf_63 (Prod.ext hf rfl)
theorem c_X5_sortOf {D : va_G} {cI : ClassId} {ad : Nat → Nat} (X : KX) (a0 : Int32) : zMI (yK D cI ad) yX5_sortOf cX5_sortOf 1 (some .int) 1 [.int a0] X (f_X5_sortOf a0, X) := zMI_of (by decide +kernel) (Nat.le_of_ble_eq_true rfl) (fun z F => z_sub [0] rfl (z_X5_sortOf F a0 rfl))
theorem k_X5_sortOf {z : ZC} {D : va_G} {cI : ClassId} {ad : Nat → Nat} {cc : ByteArray} {own : String} {nL d pc index : Nat} {ret : Option FieldType} {Q : State → Prop} {X : KX} {L : List (Nat × Value)} {rest : List Value} {a0 : Int32} (F : ZF z (yK D cI ad) cc own nL ret d) (hd : 1 + 1 ≤ d) (hw : Cond.methodLink own index yX5_sortOf ∈ wsA) (hst : (rest.map fun v => v.category).sum ≤ 8) (hdg : decode cc pc = .ok (.invokestatic index, 3)) (kk : Z z (yK D cI ad) nL Q X (pc + 3) L (.int (f_X5_sortOf a0) :: rest)) : Z z (yK D cI ad) nL Q X pc L (.int a0 :: rest) := z_cSI (As := [.int a0]) F (c_X5_sortOf X a0) kn_X5_sortOf kv_X5_sortOf hw hd rfl hst hdg rfl kk
theorem k_X5_sortOfN {z : ZC} {D : va_G} {cI : ClassId} {ad : Nat → Nat} {cc : ByteArray} {own : String} {nL d pc index : Nat} {ret : Option FieldType} {Q : State → Prop} {X : KX} {L : List (Nat × Value)} {rest : List Value} {a0 : Int32} (F : ZF z (yK D cI ad) cc own nL ret d) (hd : 1 + 1 ≤ d) (hw : ∀ s, zN s → va_Nw (.methodLinkNest own index yX5_sortOf "AilingKing") s) (hst : (rest.map fun v => v.category).sum ≤ 8) (hdg : decode cc pc = .ok (.invokestatic index, 3)) (kk : Z z (yK D cI ad) nL Q X (pc + 3) L (.int (f_X5_sortOf a0) :: rest)) : Z z (yK D cI ad) nL Q X pc L (.int a0 :: rest) := z_cNI (As := [.int a0]) F (c_X5_sortOf X a0) kn_X5_sortOf kv_X5_sortOf hw hd rfl hst hdg rfl kk
theorem kv_X5_tellsHint : zKv yX5_tellsHint := ⟨wm_417, wm_8⟩
theorem kn_X5_tellsHint : zKn yX5_tellsHint cX5_tellsHint 3 (some .boolean) 2 := ⟨wm_418, wm_57, by decide +kernel, by decide⟩
set_option maxHeartbeats 4000000 in
set_option maxRecDepth 100000 in
theorem z_X5_tellsHint {z : ZC} {D : va_G} {cI : ClassId} {ad : Nat → Nat} {R : Int32 × KX} (F : ZF z (yK D cI ad) cX5_tellsHint RX5 3 (some .boolean) 3) (n : Nat) (X : KX) (a2 : Int32) (hf : f_X5_tellsHint n X a2 = some R) : Z z (yK D cI ad) 3 (zQI z (yK D cI ad) R) X 0 [(0, .ref (ad 5)), (1, .ref (ad 16)), (2, .int a2)] [] := by
  unfold f_X5_tellsHint at hf
  refine z_aload_n F dX5_tellsHint_0 1 rfl rfl ?_
  refine gK_16_6 F wm_145 dX5_tellsHint_1 ?_
  refine z_iload_n F dX5_tellsHint_4 2 rfl rfl ?_
  refine z_aload_n F dX5_tellsHint_5 0 rfl rfl ?_
  refine k_X5_letter F (by decide) wm_393 (Nat.le_of_ble_eq_true rfl) hf dX5_tellsHint_6 (fun r_1 hf => ?_)
  refine k_X5_sortOf F (by decide) wm_412 (Nat.le_of_ble_eq_true rfl) dX5_tellsHint_9 ?_
  refine sK_17 F hf dX5_tellsHint_12 (fun X_2 hf => ?_)
  refine z_aload_n F dX5_tellsHint_13 0 rfl rfl ?_
  refine z_dup F dX5_tellsHint_14 rfl ?_
  refine gK_5_2 F wm_100 dX5_tellsHint_15 ?_
  refine z_iconst (v := 1) F dX5_tellsHint_18 (by decide +kernel) ?_
  refine z_iadd F dX5_tellsHint_19 ?_
  refine pK_5_2 F hf wm_100 dX5_tellsHint_20 (fun X_3 hf => ?_)
  refine z_aload_n F dX5_tellsHint_23 0 rfl rfl ?_
  refine z_iconst (v := 0) F dX5_tellsHint_24 (by decide +kernel) ?_
  refine z_bipush (v := 7) F dX5_tellsHint_25 (by decide +kernel) ?_
  refine z_iconst (v := (-1)) F dX5_tellsHint_27 (by decide +kernel) ?_
  refine k_X5_tellsNumber F (by decide) wm_401 (Nat.le_of_ble_eq_true rfl) hf dX5_tellsHint_28 (fun r_4 X_5 hf => ?_)
  refine z_if_ne (tgt := 36) F hf dX5_tellsHint_31 (by decide) (fun hf => ?_) (fun hf => ?_)
  · refine z_aload_n F dX5_tellsHint_36 1 rfl rfl ?_
    refine gK_16_7 F wm_149 dX5_tellsHint_37 ?_
    refine z_iload_n F dX5_tellsHint_40 2 rfl rfl ?_
    refine z_aload_n F dX5_tellsHint_41 0 rfl rfl ?_
    refine gK_5_4 F wm_104 dX5_tellsHint_42 ?_
    refine sK_18 F hf dX5_tellsHint_45 (fun X_6 hf => ?_)
    refine z_aload_n F dX5_tellsHint_46 0 rfl rfl ?_
    refine z_bipush (v := 44) F dX5_tellsHint_47 (by decide +kernel) ?_
    refine k_X5_tellsSign F (by decide) wm_389 (Nat.le_of_ble_eq_true rfl) hf dX5_tellsHint_49 (fun r_7 X_8 hf => ?_)
    refine z_if_eq (tgt := 71) F hf dX5_tellsHint_52 (by decide) (fun hf => ?_) (fun hf => ?_)
    · refine z_iconst (v := 0) F dX5_tellsHint_71 (by decide +kernel) ?_
      exact z_zret F (by decide) dX5_tellsHint_72 (Option.some.inj hf)
    · refine z_aload_n F dX5_tellsHint_55 0 rfl rfl ?_
      refine z_iconst (v := 0) F dX5_tellsHint_56 (by decide +kernel) ?_
      refine z_bipush (v := 7) F dX5_tellsHint_57 (by decide +kernel) ?_
      refine z_aload_n F dX5_tellsHint_59 1 rfl rfl ?_
      refine gK_16_7 F wm_149 dX5_tellsHint_60 ?_
      refine z_iload_n F dX5_tellsHint_63 2 rfl rfl ?_
      refine lK_18 F hf dX5_tellsHint_64 (fun hf => ?_)
      refine k_X5_tellsNumber F (by decide) wm_401 (Nat.le_of_ble_eq_true rfl) hf dX5_tellsHint_65 (fun r_9 X_10 hf => ?_)
      refine z_if_ne (tgt := 73) F hf dX5_tellsHint_68 (by decide) (fun hf => ?_) (fun hf => ?_)
      · refine z_aload_n F dX5_tellsHint_73 1 rfl rfl ?_
        refine gK_16_8 F wm_154 dX5_tellsHint_74 ?_
        refine z_iload_n F dX5_tellsHint_77 2 rfl rfl ?_
        refine z_aload_n F dX5_tellsHint_78 0 rfl rfl ?_
        refine gK_5_4 F wm_104 dX5_tellsHint_79 ?_
        refine sK_19 F hf dX5_tellsHint_82 (fun X_11 hf => ?_)
        refine z_aload_n F dX5_tellsHint_83 0 rfl rfl ?_
        refine z_bipush (v := 59) F dX5_tellsHint_84 (by decide +kernel) ?_
        refine k_X5_tellsSign F (by decide) wm_389 (Nat.le_of_ble_eq_true rfl) hf dX5_tellsHint_86 (fun r_12 X_13 hf => ?_)
        obtain ⟨hz, hf⟩ := zGb_some hf
        exact z_zret F hz dX5_tellsHint_89 (Option.some.inj hf)
      · refine z_iconst (v := 0) F dX5_tellsHint_71 (by decide +kernel) ?_
        exact z_zret F (by decide) dX5_tellsHint_72 (Option.some.inj hf)
  · refine z_iconst (v := 0) F dX5_tellsHint_34 (by decide +kernel) ?_
    exact z_zret F (by decide) dX5_tellsHint_35 (Option.some.inj hf)
theorem c_X5_tellsHint {D : va_G} {cI : ClassId} {ad : Nat → Nat} {R : Int32 × KX} (n : Nat) (X : KX) (a2 : Int32) (hf : f_X5_tellsHint n X a2 = some R) : zMI (yK D cI ad) yX5_tellsHint cX5_tellsHint 3 (some .boolean) 3 [.ref (ad 5), .ref (ad 16), .int a2] X R := zMI_of (by decide +kernel) (Nat.le_of_ble_eq_true rfl) (fun z F => z_sub [0, 1, 2] rfl (z_X5_tellsHint F n X a2 hf))
theorem k_X5_tellsHint {z : ZC} {D : va_G} {cI : ClassId} {ad : Nat → Nat} {cc : ByteArray} {own : String} {nL d pc index : Nat} {ret : Option FieldType} {Q : State → Prop} {X : KX} {L : List (Nat × Value)} {rest : List Value} {n : Nat} {a2 : Int32} (F : ZF z (yK D cI ad) cc own nL ret d) (hd : 3 + 1 ≤ d) (hw : Cond.methodLink own index yX5_tellsHint ∈ wsA) (hst : (rest.map fun v => v.category).sum ≤ 8) {β : Type} {e : Int32 → KX → Option β} {r : β} (hf : zB2 (f_X5_tellsHint n X a2) e = some r) (hdg : decode cc pc = .ok (.invokevirtual index, 3)) (kk : ∀ (v : Int32) (X2 : KX), e v X2 = some r → Z z (yK D cI ad) nL Q X2 (pc + 3) L (.int v :: rest)) : Z z (yK D cI ad) nL Q X pc L (.int a2 :: .ref (ad 16) :: .ref (ad 5) :: rest) := by
  obtain ⟨v, X2, h1, h2⟩ := zB2_some hf
  exact z_cVI (As := [.ref (ad 16), .int a2]) F (c_X5_tellsHint n X a2 h1) kn_X5_tellsHint kv_X5_tellsHint hw (q0 := 5) rfl rfl hd rfl hst hdg rfl (kk v X2 h2)
theorem kv_X5_tellsHints : zKv yX5_tellsHints := ⟨wm_410, wm_7⟩
theorem kn_X5_tellsHints : zKn yX5_tellsHints cX5_tellsHints 3 (some .boolean) 1 := ⟨wm_411, wm_57, by decide +kernel, by decide⟩
set_option maxHeartbeats 4000000 in
set_option maxRecDepth 100000 in
theorem z_X5_tellsHints_58 {z : ZC} {D : va_G} {cI : ClassId} {ad : Nat → Nat} {R : Int32 × KX} (F : ZF z (yK D cI ad) cX5_tellsHints RX5 3 (some .boolean) 4) (n : Nat) (X : KX) (hf : f_X5_tellsHints_58 n X = some R) : Z z (yK D cI ad) 3 (zQI z (yK D cI ad) R) X 58 [] [] := by
  unfold f_X5_tellsHints_58 at hf
  refine z_iconst (v := 1) F dX5_tellsHints_58 (by decide +kernel) ?_
  refine z_goto (tgt := 63) F dX5_tellsHints_59 (by decide) ?_
  exact z_zret F (by decide) dX5_tellsHints_63 (Option.some.inj hf)
set_option maxHeartbeats 4000000 in
set_option maxRecDepth 100000 in
theorem z_X5_tellsHints_35 {z : ZC} {D : va_G} {cI : ClassId} {ad : Nat → Nat} {R : Int32 × KX} (F : ZF z (yK D cI ad) cX5_tellsHints RX5 3 (some .boolean) 4) (n : Nat) (X : KX) (v2 : Int32) (hf : f_X5_tellsHints_35 n X v2 = some R) : Z z (yK D cI ad) 3 (zQI z (yK D cI ad) R) X 35 [(0, .ref (ad 5)), (1, .ref (ad 16)), (2, .int v2)] [] := by
  unfold f_X5_tellsHints_35 at hf
  refine z_aload_n F dX5_tellsHints_35 1 rfl rfl ?_
  refine z_iload_n F dX5_tellsHints_36 2 rfl rfl ?_
  refine pK_16_4 F hf wm_137 dX5_tellsHints_37 (fun X_1 hf => ?_)
  refine z_aload_n F dX5_tellsHints_40 0 rfl rfl ?_
  refine k_X5_letter F (by decide) wm_393 (Nat.le_of_ble_eq_true rfl) hf dX5_tellsHints_41 (fun r_2 hf => ?_)
  refine k_X5_sortOf F (by decide) wm_412 (Nat.le_of_ble_eq_true rfl) dX5_tellsHints_44 ?_
  refine z_if_eq (tgt := 58) F hf dX5_tellsHints_47 (by decide) (fun hf => ?_) (fun hf => ?_)
  · exact z_sub [] rfl (z_X5_tellsHints_58 F n X_1 hf)
  · refine z_aload_n F dX5_tellsHints_50 0 rfl rfl ?_
    refine z_iconst (v := 3) F dX5_tellsHints_51 (by decide +kernel) ?_
    refine k_X5_isFaulty F (by decide) wm_397 (Nat.le_of_ble_eq_true rfl) hf dX5_tellsHints_52 (fun r_3 X_4 hf => ?_)
    refine z_if_eq (tgt := 62) F hf dX5_tellsHints_55 (by decide) (fun hf => ?_) (fun hf => ?_)
    · refine z_iconst (v := 0) F dX5_tellsHints_62 (by decide +kernel) ?_
      exact z_zret F (by decide) dX5_tellsHints_63 (Option.some.inj hf)
    · exact z_sub [] rfl (z_X5_tellsHints_58 F n X_4 hf)
set_option maxHeartbeats 4000000 in
set_option maxRecDepth 100000 in
theorem z_X5_tellsHints_2 {z : ZC} {D : va_G} {cI : ClassId} {ad : Nat → Nat} {R : Int32 × KX} (F : ZF z (yK D cI ad) cX5_tellsHints RX5 3 (some .boolean) 4) (n : Nat) : ∀ (t : Nat) (X : KX) (v2 : Int32), f_X5_tellsHints_2 n t X v2 = some R → Z z (yK D cI ad) 3 (zQI z (yK D cI ad) R) X 2 [(0, .ref (ad 5)), (1, .ref (ad 16)), (2, .int v2)] [] := by
  intro t
  induction t with
  | zero => intro X v2 hf; rw [f_X5_tellsHints_2] at hf; exact zNone hf
  | succ t ih =>
    intro X v2 hf
    rw [f_X5_tellsHints_2] at hf
    refine z_iload_n F dX5_tellsHints_2 2 rfl rfl ?_
    refine z_bipush (v := 8) F dX5_tellsHints_3 (by decide +kernel) ?_
    refine z_icmp_ge (tgt := 35) F hf dX5_tellsHints_5 (by decide) (fun hf => ?_) (fun hf => ?_)
    · exact z_sub [0, 1, 2] rfl (z_X5_tellsHints_35 F n X v2 hf)
    · refine z_aload_n F dX5_tellsHints_8 0 rfl rfl ?_
      refine k_X5_letter F (by decide) wm_393 (Nat.le_of_ble_eq_true rfl) hf dX5_tellsHints_9 (fun r_1 hf => ?_)
      refine k_X5_sortOf F (by decide) wm_412 (Nat.le_of_ble_eq_true rfl) dX5_tellsHints_12 ?_
      refine z_if_eq (tgt := 35) F hf dX5_tellsHints_15 (by decide) (fun hf => ?_) (fun hf => ?_)
      · exact z_sub [0, 1, 2] rfl (z_X5_tellsHints_35 F n X v2 hf)
      · refine z_aload_n F dX5_tellsHints_18 0 rfl rfl ?_
        refine z_aload_n F dX5_tellsHints_19 1 rfl rfl ?_
        refine z_iload_n F dX5_tellsHints_20 2 rfl rfl ?_
        refine k_X5_tellsHint F (by decide) wm_415 (Nat.le_of_ble_eq_true rfl) hf dX5_tellsHints_21 (fun r_2 X_3 hf => ?_)
        refine z_if_ne (tgt := 29) F hf dX5_tellsHints_24 (by decide) (fun hf => ?_) (fun hf => ?_)
        · refine z_iinc (w := 1) (L' := fun v2_4 => [(2, .int v2_4), (0, .ref (ad 5)), (1, .ref (ad 16))]) F hf dX5_tellsHints_29 2 rfl (by decide +kernel) (Nat.le_of_ble_eq_true rfl) (fun _ => rfl) (fun v2_4 hf => ?_)
          refine z_goto (tgt := 2) F dX5_tellsHints_32 (by decide) ?_
          exact z_sub [1, 2, 0] rfl (ih X_3 v2_4 hf)
        · refine z_iconst (v := 0) F dX5_tellsHints_27 (by decide +kernel) ?_
          exact z_zret F (by decide) dX5_tellsHints_28 (Option.some.inj hf)
set_option maxHeartbeats 4000000 in
set_option maxRecDepth 100000 in
theorem z_X5_tellsHints {z : ZC} {D : va_G} {cI : ClassId} {ad : Nat → Nat} {R : Int32 × KX} (F : ZF z (yK D cI ad) cX5_tellsHints RX5 3 (some .boolean) 4) (n : Nat) (X : KX)  (hf : f_X5_tellsHints n X = some R) : Z z (yK D cI ad) 3 (zQI z (yK D cI ad) R) X 0 [(0, .ref (ad 5)), (1, .ref (ad 16))] [] := by
  unfold f_X5_tellsHints at hf
  refine z_iconst (v := 0) F dX5_tellsHints_0 (by decide +kernel) ?_
  refine z_istore_n (L' := [(2, .int 0), (0, .ref (ad 5)), (1, .ref (ad 16))]) F dX5_tellsHints_1 rfl (Nat.le_of_ble_eq_true rfl) rfl ?_
  exact z_sub [1, 2, 0] rfl (z_X5_tellsHints_2 F n n X 0 hf)
theorem c_X5_tellsHints {D : va_G} {cI : ClassId} {ad : Nat → Nat} {R : Int32 × KX} (n : Nat) (X : KX)  (hf : f_X5_tellsHints n X = some R) : zMI (yK D cI ad) yX5_tellsHints cX5_tellsHints 3 (some .boolean) 4 [.ref (ad 5), .ref (ad 16)] X R := zMI_of (by decide +kernel) (Nat.le_of_ble_eq_true rfl) (fun z F => z_sub [0, 1] rfl (z_X5_tellsHints F n X hf))
theorem k_X5_tellsHints {z : ZC} {D : va_G} {cI : ClassId} {ad : Nat → Nat} {cc : ByteArray} {own : String} {nL d pc index : Nat} {ret : Option FieldType} {Q : State → Prop} {X : KX} {L : List (Nat × Value)} {rest : List Value} {n : Nat} (F : ZF z (yK D cI ad) cc own nL ret d) (hd : 4 + 1 ≤ d) (hw : Cond.methodLink own index yX5_tellsHints ∈ wsA) (hst : (rest.map fun v => v.category).sum ≤ 8) {β : Type} {e : Int32 → KX → Option β} {r : β} (hf : zB2 (f_X5_tellsHints n X) e = some r) (hdg : decode cc pc = .ok (.invokevirtual index, 3)) (kk : ∀ (v : Int32) (X2 : KX), e v X2 = some r → Z z (yK D cI ad) nL Q X2 (pc + 3) L (.int v :: rest)) : Z z (yK D cI ad) nL Q X pc L (.ref (ad 16) :: .ref (ad 5) :: rest) := by
  obtain ⟨v, X2, h1, h2⟩ := zB2_some hf
  exact z_cVI (As := [.ref (ad 16)]) F (c_X5_tellsHints n X h1) kn_X5_tellsHints kv_X5_tellsHints hw (q0 := 5) rfl rfl hd rfl hst hdg rfl (kk v X2 h2)
theorem kv_X5_tellsGuest : zKv yX5_tellsGuest := ⟨wm_425, wm_10⟩
theorem kn_X5_tellsGuest : zKn yX5_tellsGuest cX5_tellsGuest 3 (some .boolean) 2 := ⟨wm_426, wm_57, by decide +kernel, by decide⟩
set_option maxHeartbeats 4000000 in
set_option maxRecDepth 100000 in
theorem z_X5_tellsGuest {z : ZC} {D : va_G} {cI : ClassId} {ad : Nat → Nat} {R : Int32 × KX} (F : ZF z (yK D cI ad) cX5_tellsGuest RX5 3 (some .boolean) 3) (n : Nat) (X : KX) (a2 : Int32) (hf : f_X5_tellsGuest n X a2 = some R) : Z z (yK D cI ad) 3 (zQI z (yK D cI ad) R) X 0 [(0, .ref (ad 5)), (1, .ref (ad 16)), (2, .int a2)] [] := by
  unfold f_X5_tellsGuest at hf
  refine z_aload_n F dX5_tellsGuest_0 0 rfl rfl ?_
  refine z_dup F dX5_tellsGuest_1 rfl ?_
  refine gK_5_2 F wm_100 dX5_tellsGuest_2 ?_
  refine z_iconst (v := 1) F dX5_tellsGuest_5 (by decide +kernel) ?_
  refine z_iadd F dX5_tellsGuest_6 ?_
  refine pK_5_2 F hf wm_100 dX5_tellsGuest_7 (fun X_1 hf => ?_)
  refine z_aload_n F dX5_tellsGuest_10 0 rfl rfl ?_
  refine z_iconst (v := 0) F dX5_tellsGuest_11 (by decide +kernel) ?_
  refine z_bipush (v := 7) F dX5_tellsGuest_12 (by decide +kernel) ?_
  refine z_iconst (v := (-1)) F dX5_tellsGuest_14 (by decide +kernel) ?_
  refine k_X5_tellsNumber F (by decide) wm_401 (Nat.le_of_ble_eq_true rfl) hf dX5_tellsGuest_15 (fun r_2 X_3 hf => ?_)
  refine z_if_ne (tgt := 23) F hf dX5_tellsGuest_18 (by decide) (fun hf => ?_) (fun hf => ?_)
  · refine z_aload_n F dX5_tellsGuest_23 1 rfl rfl ?_
    refine gK_16_10 F wm_162 dX5_tellsGuest_24 ?_
    refine z_iload_n F dX5_tellsGuest_27 2 rfl rfl ?_
    refine z_aload_n F dX5_tellsGuest_28 0 rfl rfl ?_
    refine gK_5_4 F wm_104 dX5_tellsGuest_29 ?_
    refine sK_21 F hf dX5_tellsGuest_32 (fun X_4 hf => ?_)
    refine z_aload_n F dX5_tellsGuest_33 0 rfl rfl ?_
    refine z_bipush (v := 44) F dX5_tellsGuest_34 (by decide +kernel) ?_
    refine k_X5_tellsSign F (by decide) wm_389 (Nat.le_of_ble_eq_true rfl) hf dX5_tellsGuest_36 (fun r_5 X_6 hf => ?_)
    refine z_if_eq (tgt := 53) F hf dX5_tellsGuest_39 (by decide) (fun hf => ?_) (fun hf => ?_)
    · refine z_iconst (v := 0) F dX5_tellsGuest_53 (by decide +kernel) ?_
      exact z_zret F (by decide) dX5_tellsGuest_54 (Option.some.inj hf)
    · refine z_aload_n F dX5_tellsGuest_42 0 rfl rfl ?_
      refine z_iconst (v := 0) F dX5_tellsGuest_43 (by decide +kernel) ?_
      refine z_bipush (v := 20) F dX5_tellsGuest_44 (by decide +kernel) ?_
      refine z_iconst (v := (-1)) F dX5_tellsGuest_46 (by decide +kernel) ?_
      refine k_X5_tellsNumber F (by decide) wm_401 (Nat.le_of_ble_eq_true rfl) hf dX5_tellsGuest_47 (fun r_7 X_8 hf => ?_)
      refine z_if_ne (tgt := 55) F hf dX5_tellsGuest_50 (by decide) (fun hf => ?_) (fun hf => ?_)
      · refine z_aload_n F dX5_tellsGuest_55 1 rfl rfl ?_
        refine gK_16_11 F wm_165 dX5_tellsGuest_56 ?_
        refine z_iload_n F dX5_tellsGuest_59 2 rfl rfl ?_
        refine z_aload_n F dX5_tellsGuest_60 0 rfl rfl ?_
        refine gK_5_4 F wm_104 dX5_tellsGuest_61 ?_
        refine sK_22 F hf dX5_tellsGuest_64 (fun X_9 hf => ?_)
        refine z_aload_n F dX5_tellsGuest_65 0 rfl rfl ?_
        refine z_bipush (v := 44) F dX5_tellsGuest_66 (by decide +kernel) ?_
        refine k_X5_tellsSign F (by decide) wm_389 (Nat.le_of_ble_eq_true rfl) hf dX5_tellsGuest_68 (fun r_10 X_11 hf => ?_)
        refine z_if_eq (tgt := 85) F hf dX5_tellsGuest_71 (by decide) (fun hf => ?_) (fun hf => ?_)
        · refine z_iconst (v := 0) F dX5_tellsGuest_85 (by decide +kernel) ?_
          exact z_zret F (by decide) dX5_tellsGuest_86 (Option.some.inj hf)
        · refine z_aload_n F dX5_tellsGuest_74 0 rfl rfl ?_
          refine z_iconst (v := 0) F dX5_tellsGuest_75 (by decide +kernel) ?_
          refine z_bipush (v := 20) F dX5_tellsGuest_76 (by decide +kernel) ?_
          refine z_iconst (v := (-1)) F dX5_tellsGuest_78 (by decide +kernel) ?_
          refine k_X5_tellsNumber F (by decide) wm_401 (Nat.le_of_ble_eq_true rfl) hf dX5_tellsGuest_79 (fun r_12 X_13 hf => ?_)
          refine z_if_ne (tgt := 87) F hf dX5_tellsGuest_82 (by decide) (fun hf => ?_) (fun hf => ?_)
          · refine z_aload_n F dX5_tellsGuest_87 1 rfl rfl ?_
            refine gK_16_12 F wm_168 dX5_tellsGuest_88 ?_
            refine z_iload_n F dX5_tellsGuest_91 2 rfl rfl ?_
            refine z_aload_n F dX5_tellsGuest_92 0 rfl rfl ?_
            refine gK_5_4 F wm_104 dX5_tellsGuest_93 ?_
            refine sK_23 F hf dX5_tellsGuest_96 (fun X_14 hf => ?_)
            refine z_aload_n F dX5_tellsGuest_97 0 rfl rfl ?_
            refine z_bipush (v := 59) F dX5_tellsGuest_98 (by decide +kernel) ?_
            refine k_X5_tellsSign F (by decide) wm_389 (Nat.le_of_ble_eq_true rfl) hf dX5_tellsGuest_100 (fun r_15 X_16 hf => ?_)
            obtain ⟨hz, hf⟩ := zGb_some hf
            exact z_zret F hz dX5_tellsGuest_103 (Option.some.inj hf)
          · refine z_iconst (v := 0) F dX5_tellsGuest_85 (by decide +kernel) ?_
            exact z_zret F (by decide) dX5_tellsGuest_86 (Option.some.inj hf)
      · refine z_iconst (v := 0) F dX5_tellsGuest_53 (by decide +kernel) ?_
        exact z_zret F (by decide) dX5_tellsGuest_54 (Option.some.inj hf)
  · refine z_iconst (v := 0) F dX5_tellsGuest_21 (by decide +kernel) ?_
    exact z_zret F (by decide) dX5_tellsGuest_22 (Option.some.inj hf)
theorem c_X5_tellsGuest {D : va_G} {cI : ClassId} {ad : Nat → Nat} {R : Int32 × KX} (n : Nat) (X : KX) (a2 : Int32) (hf : f_X5_tellsGuest n X a2 = some R) : zMI (yK D cI ad) yX5_tellsGuest cX5_tellsGuest 3 (some .boolean) 3 [.ref (ad 5), .ref (ad 16), .int a2] X R := zMI_of (by decide +kernel) (Nat.le_of_ble_eq_true rfl) (fun z F => z_sub [0, 1, 2] rfl (z_X5_tellsGuest F n X a2 hf))
theorem k_X5_tellsGuest {z : ZC} {D : va_G} {cI : ClassId} {ad : Nat → Nat} {cc : ByteArray} {own : String} {nL d pc index : Nat} {ret : Option FieldType} {Q : State → Prop} {X : KX} {L : List (Nat × Value)} {rest : List Value} {n : Nat} {a2 : Int32} (F : ZF z (yK D cI ad) cc own nL ret d) (hd : 3 + 1 ≤ d) (hw : Cond.methodLink own index yX5_tellsGuest ∈ wsA) (hst : (rest.map fun v => v.category).sum ≤ 8) {β : Type} {e : Int32 → KX → Option β} {r : β} (hf : zB2 (f_X5_tellsGuest n X a2) e = some r) (hdg : decode cc pc = .ok (.invokevirtual index, 3)) (kk : ∀ (v : Int32) (X2 : KX), e v X2 = some r → Z z (yK D cI ad) nL Q X2 (pc + 3) L (.int v :: rest)) : Z z (yK D cI ad) nL Q X pc L (.int a2 :: .ref (ad 16) :: .ref (ad 5) :: rest) := by
  obtain ⟨v, X2, h1, h2⟩ := zB2_some hf
  exact z_cVI (As := [.ref (ad 16), .int a2]) F (c_X5_tellsGuest n X a2 h1) kn_X5_tellsGuest kv_X5_tellsGuest hw (q0 := 5) rfl rfl hd rfl hst hdg rfl (kk v X2 h2)
theorem kv_X5_tellsGuests : zKv yX5_tellsGuests := ⟨wm_421, wm_9⟩
theorem kn_X5_tellsGuests : zKn yX5_tellsGuests cX5_tellsGuests 3 (some .boolean) 1 := ⟨wm_422, wm_57, by decide +kernel, by decide⟩
set_option maxHeartbeats 4000000 in
set_option maxRecDepth 100000 in
theorem z_X5_tellsGuests_56 {z : ZC} {D : va_G} {cI : ClassId} {ad : Nat → Nat} {R : Int32 × KX} (F : ZF z (yK D cI ad) cX5_tellsGuests RX5 3 (some .boolean) 4) (n : Nat) (X : KX) (hf : f_X5_tellsGuests_56 n X = some R) : Z z (yK D cI ad) 3 (zQI z (yK D cI ad) R) X 56 [] [] := by
  unfold f_X5_tellsGuests_56 at hf
  refine z_iconst (v := 1) F dX5_tellsGuests_56 (by decide +kernel) ?_
  refine z_goto (tgt := 61) F dX5_tellsGuests_57 (by decide) ?_
  exact z_zret F (by decide) dX5_tellsGuests_61 (Option.some.inj hf)
set_option maxHeartbeats 4000000 in
set_option maxRecDepth 100000 in
theorem z_X5_tellsGuests_34 {z : ZC} {D : va_G} {cI : ClassId} {ad : Nat → Nat} {R : Int32 × KX} (F : ZF z (yK D cI ad) cX5_tellsGuests RX5 3 (some .boolean) 4) (n : Nat) (X : KX) (v2 : Int32) (hf : f_X5_tellsGuests_34 n X v2 = some R) : Z z (yK D cI ad) 3 (zQI z (yK D cI ad) R) X 34 [(0, .ref (ad 5)), (1, .ref (ad 16)), (2, .int v2)] [] := by
  unfold f_X5_tellsGuests_34 at hf
  refine z_aload_n F dX5_tellsGuests_34 1 rfl rfl ?_
  refine z_iload_n F dX5_tellsGuests_35 2 rfl rfl ?_
  refine pK_16_5 F hf wm_140 dX5_tellsGuests_36 (fun X_1 hf => ?_)
  refine z_aload_n F dX5_tellsGuests_39 0 rfl rfl ?_
  refine k_X5_letter F (by decide) wm_393 (Nat.le_of_ble_eq_true rfl) hf dX5_tellsGuests_40 (fun r_2 hf => ?_)
  refine z_bipush (v := 110) F dX5_tellsGuests_43 (by decide +kernel) ?_
  refine z_icmp_ne (tgt := 56) F hf dX5_tellsGuests_45 (by decide) (fun hf => ?_) (fun hf => ?_)
  · exact z_sub [] rfl (z_X5_tellsGuests_56 F n X_1 hf)
  · refine z_aload_n F dX5_tellsGuests_48 0 rfl rfl ?_
    refine z_iconst (v := 3) F dX5_tellsGuests_49 (by decide +kernel) ?_
    refine k_X5_isFaulty F (by decide) wm_397 (Nat.le_of_ble_eq_true rfl) hf dX5_tellsGuests_50 (fun r_3 X_4 hf => ?_)
    refine z_if_eq (tgt := 60) F hf dX5_tellsGuests_53 (by decide) (fun hf => ?_) (fun hf => ?_)
    · refine z_iconst (v := 0) F dX5_tellsGuests_60 (by decide +kernel) ?_
      exact z_zret F (by decide) dX5_tellsGuests_61 (Option.some.inj hf)
    · exact z_sub [] rfl (z_X5_tellsGuests_56 F n X_4 hf)
set_option maxHeartbeats 4000000 in
set_option maxRecDepth 100000 in
theorem z_X5_tellsGuests_2 {z : ZC} {D : va_G} {cI : ClassId} {ad : Nat → Nat} {R : Int32 × KX} (F : ZF z (yK D cI ad) cX5_tellsGuests RX5 3 (some .boolean) 4) (n : Nat) : ∀ (t : Nat) (X : KX) (v2 : Int32), f_X5_tellsGuests_2 n t X v2 = some R → Z z (yK D cI ad) 3 (zQI z (yK D cI ad) R) X 2 [(0, .ref (ad 5)), (1, .ref (ad 16)), (2, .int v2)] [] := by
  intro t
  induction t with
  | zero => intro X v2 hf; rw [f_X5_tellsGuests_2] at hf; exact zNone hf
  | succ t ih =>
    intro X v2 hf
    rw [f_X5_tellsGuests_2] at hf
    refine z_iload_n F dX5_tellsGuests_2 2 rfl rfl ?_
    refine z_bipush (v := 6) F dX5_tellsGuests_3 (by decide +kernel) ?_
    refine z_icmp_ge (tgt := 34) F hf dX5_tellsGuests_5 (by decide) (fun hf => ?_) (fun hf => ?_)
    · exact z_sub [0, 1, 2] rfl (z_X5_tellsGuests_34 F n X v2 hf)
    · refine z_aload_n F dX5_tellsGuests_8 0 rfl rfl ?_
      refine k_X5_letter F (by decide) wm_393 (Nat.le_of_ble_eq_true rfl) hf dX5_tellsGuests_9 (fun r_1 hf => ?_)
      refine z_bipush (v := 110) F dX5_tellsGuests_12 (by decide +kernel) ?_
      refine z_icmp_ne (tgt := 34) F hf dX5_tellsGuests_14 (by decide) (fun hf => ?_) (fun hf => ?_)
      · exact z_sub [0, 1, 2] rfl (z_X5_tellsGuests_34 F n X v2 hf)
      · refine z_aload_n F dX5_tellsGuests_17 0 rfl rfl ?_
        refine z_aload_n F dX5_tellsGuests_18 1 rfl rfl ?_
        refine z_iload_n F dX5_tellsGuests_19 2 rfl rfl ?_
        refine k_X5_tellsGuest F (by decide) wm_423 (Nat.le_of_ble_eq_true rfl) hf dX5_tellsGuests_20 (fun r_2 X_3 hf => ?_)
        refine z_if_ne (tgt := 28) F hf dX5_tellsGuests_23 (by decide) (fun hf => ?_) (fun hf => ?_)
        · refine z_iinc (w := 1) (L' := fun v2_4 => [(2, .int v2_4), (0, .ref (ad 5)), (1, .ref (ad 16))]) F hf dX5_tellsGuests_28 2 rfl (by decide +kernel) (Nat.le_of_ble_eq_true rfl) (fun _ => rfl) (fun v2_4 hf => ?_)
          refine z_goto (tgt := 2) F dX5_tellsGuests_31 (by decide) ?_
          exact z_sub [1, 2, 0] rfl (ih X_3 v2_4 hf)
        · refine z_iconst (v := 0) F dX5_tellsGuests_26 (by decide +kernel) ?_
          exact z_zret F (by decide) dX5_tellsGuests_27 (Option.some.inj hf)
set_option maxHeartbeats 4000000 in
set_option maxRecDepth 100000 in
theorem z_X5_tellsGuests {z : ZC} {D : va_G} {cI : ClassId} {ad : Nat → Nat} {R : Int32 × KX} (F : ZF z (yK D cI ad) cX5_tellsGuests RX5 3 (some .boolean) 4) (n : Nat) (X : KX)  (hf : f_X5_tellsGuests n X = some R) : Z z (yK D cI ad) 3 (zQI z (yK D cI ad) R) X 0 [(0, .ref (ad 5)), (1, .ref (ad 16))] [] := by
  unfold f_X5_tellsGuests at hf
  refine z_iconst (v := 0) F dX5_tellsGuests_0 (by decide +kernel) ?_
  refine z_istore_n (L' := [(2, .int 0), (0, .ref (ad 5)), (1, .ref (ad 16))]) F dX5_tellsGuests_1 rfl (Nat.le_of_ble_eq_true rfl) rfl ?_
  exact z_sub [1, 2, 0] rfl (z_X5_tellsGuests_2 F n n X 0 hf)
theorem c_X5_tellsGuests {D : va_G} {cI : ClassId} {ad : Nat → Nat} {R : Int32 × KX} (n : Nat) (X : KX)  (hf : f_X5_tellsGuests n X = some R) : zMI (yK D cI ad) yX5_tellsGuests cX5_tellsGuests 3 (some .boolean) 4 [.ref (ad 5), .ref (ad 16)] X R := zMI_of (by decide +kernel) (Nat.le_of_ble_eq_true rfl) (fun z F => z_sub [0, 1] rfl (z_X5_tellsGuests F n X hf))
theorem k_X5_tellsGuests {z : ZC} {D : va_G} {cI : ClassId} {ad : Nat → Nat} {cc : ByteArray} {own : String} {nL d pc index : Nat} {ret : Option FieldType} {Q : State → Prop} {X : KX} {L : List (Nat × Value)} {rest : List Value} {n : Nat} (F : ZF z (yK D cI ad) cc own nL ret d) (hd : 4 + 1 ≤ d) (hw : Cond.methodLink own index yX5_tellsGuests ∈ wsA) (hst : (rest.map fun v => v.category).sum ≤ 8) {β : Type} {e : Int32 → KX → Option β} {r : β} (hf : zB2 (f_X5_tellsGuests n X) e = some r) (hdg : decode cc pc = .ok (.invokevirtual index, 3)) (kk : ∀ (v : Int32) (X2 : KX), e v X2 = some r → Z z (yK D cI ad) nL Q X2 (pc + 3) L (.int v :: rest)) : Z z (yK D cI ad) nL Q X pc L (.ref (ad 16) :: .ref (ad 5) :: rest) := by
  obtain ⟨v, X2, h1, h2⟩ := zB2_some hf
  exact z_cVI (As := [.ref (ad 16)]) F (c_X5_tellsGuests n X h1) kn_X5_tellsGuests kv_X5_tellsGuests hw (q0 := 5) rfl rfl hd rfl hst hdg rfl (kk v X2 h2)
theorem kv_X5_tells : zKv yX5_tells := ⟨wm_382, wm_383⟩
theorem kn_X5_tells : zKn yX5_tells cX5_tells 2 (some .boolean) 1 := ⟨wm_384, wm_57, by decide +kernel, by decide⟩
set_option maxHeartbeats 4000000 in
set_option maxRecDepth 100000 in
theorem z_X5_tells_48 {z : ZC} {D : va_G} {cI : ClassId} {ad : Nat → Nat} {R : Int32 × KX} (F : ZF z (yK D cI ad) cX5_tells RX5 2 (some .boolean) 5) (n : Nat) (X : KX) (hf : f_X5_tells_48 n X = some R) : Z z (yK D cI ad) 2 (zQI z (yK D cI ad) R) X 48 [] [] := by
  unfold f_X5_tells_48 at hf
  refine z_iconst (v := 1) F dX5_tells_48 (by decide +kernel) ?_
  refine z_goto (tgt := 53) F dX5_tells_49 (by decide) ?_
  exact z_zret F (by decide) dX5_tells_53 (Option.some.inj hf)
set_option maxHeartbeats 4000000 in
set_option maxRecDepth 100000 in
theorem z_X5_tells {z : ZC} {D : va_G} {cI : ClassId} {ad : Nat → Nat} {R : Int32 × KX} (F : ZF z (yK D cI ad) cX5_tells RX5 2 (some .boolean) 5) (n : Nat) (X : KX)  (hf : f_X5_tells n X = some R) : Z z (yK D cI ad) 2 (zQI z (yK D cI ad) R) X 0 [(0, .ref (ad 5)), (1, .ref (ad 16))] [] := by
  unfold f_X5_tells at hf
  refine z_aload_n F dX5_tells_0 0 rfl rfl ?_
  refine z_iconst (v := 0) F dX5_tells_1 (by decide +kernel) ?_
  refine pK_5_2 F hf wm_100 dX5_tells_2 (fun X_1 hf => ?_)
  refine z_aload_n F dX5_tells_5 0 rfl rfl ?_
  refine z_aload_n F dX5_tells_6 1 rfl rfl ?_
  refine k_X5_tellsLaw F (by decide) wm_385 (Nat.le_of_ble_eq_true rfl) hf dX5_tells_7 (fun r_2 X_3 hf => ?_)
  refine z_if_eq (tgt := 52) F hf dX5_tells_10 (by decide) (fun hf => ?_) (fun hf => ?_)
  · refine z_iconst (v := 0) F dX5_tells_52 (by decide +kernel) ?_
    exact z_zret F (by decide) dX5_tells_53 (Option.some.inj hf)
  · refine z_aload_n F dX5_tells_13 0 rfl rfl ?_
    refine z_aload_n F dX5_tells_14 1 rfl rfl ?_
    refine k_X5_tellsHints F (by decide) wm_408 (Nat.le_of_ble_eq_true rfl) hf dX5_tells_15 (fun r_4 X_5 hf => ?_)
    refine z_if_eq (tgt := 52) F hf dX5_tells_18 (by decide) (fun hf => ?_) (fun hf => ?_)
    · refine z_iconst (v := 0) F dX5_tells_52 (by decide +kernel) ?_
      exact z_zret F (by decide) dX5_tells_53 (Option.some.inj hf)
    · refine z_aload_n F dX5_tells_21 0 rfl rfl ?_
      refine z_aload_n F dX5_tells_22 1 rfl rfl ?_
      refine k_X5_tellsGuests F (by decide) wm_419 (Nat.le_of_ble_eq_true rfl) hf dX5_tells_23 (fun r_6 X_7 hf => ?_)
      refine z_if_eq (tgt := 52) F hf dX5_tells_26 (by decide) (fun hf => ?_) (fun hf => ?_)
      · refine z_iconst (v := 0) F dX5_tells_52 (by decide +kernel) ?_
        exact z_zret F (by decide) dX5_tells_53 (Option.some.inj hf)
      · refine z_aload_n F dX5_tells_29 0 rfl rfl ?_
        refine gK_5_2 F wm_100 dX5_tells_30 ?_
        refine z_aload_n F dX5_tells_33 0 rfl rfl ?_
        refine gK_5_1 F wm_98 dX5_tells_34 ?_
        refine z_icmp_eq (tgt := 48) F hf dX5_tells_37 (by decide) (fun hf => ?_) (fun hf => ?_)
        · exact z_sub [] rfl (z_X5_tells_48 F n X_7 hf)
        · refine z_aload_n F dX5_tells_40 0 rfl rfl ?_
          refine z_iconst (v := 1) F dX5_tells_41 (by decide +kernel) ?_
          refine k_X5_isFaulty F (by decide) wm_397 (Nat.le_of_ble_eq_true rfl) hf dX5_tells_42 (fun r_8 X_9 hf => ?_)
          refine z_if_eq (tgt := 52) F hf dX5_tells_45 (by decide) (fun hf => ?_) (fun hf => ?_)
          · refine z_iconst (v := 0) F dX5_tells_52 (by decide +kernel) ?_
            exact z_zret F (by decide) dX5_tells_53 (Option.some.inj hf)
          · exact z_sub [] rfl (z_X5_tells_48 F n X_9 hf)
theorem c_X5_tells {D : va_G} {cI : ClassId} {ad : Nat → Nat} {R : Int32 × KX} (n : Nat) (X : KX)  (hf : f_X5_tells n X = some R) : zMI (yK D cI ad) yX5_tells cX5_tells 2 (some .boolean) 5 [.ref (ad 5), .ref (ad 16)] X R := zMI_of (by decide +kernel) (Nat.le_of_ble_eq_true rfl) (fun z F => z_sub [0, 1] rfl (z_X5_tells F n X hf))
theorem k_X5_tells {z : ZC} {D : va_G} {cI : ClassId} {ad : Nat → Nat} {cc : ByteArray} {own : String} {nL d pc index : Nat} {ret : Option FieldType} {Q : State → Prop} {X : KX} {L : List (Nat × Value)} {rest : List Value} {n : Nat} (F : ZF z (yK D cI ad) cc own nL ret d) (hd : 5 + 1 ≤ d) (hw : Cond.methodLink own index yX5_tells ∈ wsA) (hst : (rest.map fun v => v.category).sum ≤ 8) {β : Type} {e : Int32 → KX → Option β} {r : β} (hf : zB2 (f_X5_tells n X) e = some r) (hdg : decode cc pc = .ok (.invokevirtual index, 3)) (kk : ∀ (v : Int32) (X2 : KX), e v X2 = some r → Z z (yK D cI ad) nL Q X2 (pc + 3) L (.int v :: rest)) : Z z (yK D cI ad) nL Q X pc L (.ref (ad 16) :: .ref (ad 5) :: rest) := by
  obtain ⟨v, X2, h1, h2⟩ := zB2_some hf
  exact z_cVI (As := [.ref (ad 16)]) F (c_X5_tells n X h1) kn_X5_tells kv_X5_tells hw (q0 := 5) rfl rfl hd rfl hst hdg rfl (kk v X2 h2)
theorem kv_X2_become_7_16 : zKv yX2_become := ⟨wm_429, wm_430⟩
theorem kn_X2_become_7_16 : zKn yX2_become cX2_become 2 none 1 := ⟨wm_431, wm_58, by decide +kernel, by decide⟩
set_option maxHeartbeats 4000000 in
set_option maxRecDepth 100000 in
theorem z_X2_become_7_16 {z : ZC} {D : va_G} {cI : ClassId} {ad : Nat → Nat} {R : KX} (F : ZF z (yK D cI ad) cX2_become RX2 2 none 1) (X : KX)  (hf : f_X2_become_7_16 X = some R) : Z z (yK D cI ad) 2 (zQV z (yK D cI ad) R) X 0 [(0, .ref (ad 7)), (1, .ref (ad 16))] [] := by
  unfold f_X2_become_7_16 at hf
  refine z_aload_n F dX2_become_0 0 rfl rfl ?_
  refine z_aload_n F dX2_become_1 1 rfl rfl ?_
  refine gK_16_0 F wm_123 dX2_become_2 ?_
  refine pK_7_0 F hf wm_123 dX2_become_5 (fun X_1 hf => ?_)
  refine z_aload_n F dX2_become_8 0 rfl rfl ?_
  refine z_aload_n F dX2_become_9 1 rfl rfl ?_
  refine gK_16_1 F wm_125 dX2_become_10 ?_
  refine pK_7_1 F hf wm_125 dX2_become_13 (fun X_2 hf => ?_)
  refine z_aload_n F dX2_become_16 0 rfl rfl ?_
  refine z_aload_n F dX2_become_17 1 rfl rfl ?_
  refine gK_16_2 F wm_129 dX2_become_18 ?_
  refine pK_7_2 F hf wm_129 dX2_become_21 (fun X_3 hf => ?_)
  refine z_aload_n F dX2_become_24 0 rfl rfl ?_
  refine z_aload_n F dX2_become_25 1 rfl rfl ?_
  refine gK_16_3 F wm_131 dX2_become_26 ?_
  refine pK_7_3 F hf wm_131 dX2_become_29 (fun X_4 hf => ?_)
  refine z_aload_n F dX2_become_32 0 rfl rfl ?_
  refine z_aload_n F dX2_become_33 1 rfl rfl ?_
  refine gK_16_4 F wm_135 dX2_become_34 ?_
  refine pK_7_4 F hf wm_135 dX2_become_37 (fun X_5 hf => ?_)
  refine z_aload_n F dX2_become_40 0 rfl rfl ?_
  refine z_aload_n F dX2_become_41 1 rfl rfl ?_
  refine gK_16_5 F wm_139 dX2_become_42 ?_
  refine pK_7_5 F hf wm_139 dX2_become_45 (fun X_6 hf => ?_)
  refine z_aload_n F dX2_become_48 0 rfl rfl ?_
  refine z_aload_n F dX2_become_49 1 rfl rfl ?_
  refine gK_16_14 F wm_172 dX2_become_50 ?_
  refine pK_7_14 F hf wm_172 dX2_become_53 (fun X_7 hf => ?_)
  refine z_aload_n F dX2_become_56 0 rfl rfl ?_
  refine z_aload_n F dX2_become_57 1 rfl rfl ?_
  refine gK_16_15 F wm_174 dX2_become_58 ?_
  refine pK_7_15 F hf wm_174 dX2_become_61 (fun X_8 hf => ?_)
  refine z_aload_n F dX2_become_64 0 rfl rfl ?_
  refine z_aload_n F dX2_become_65 1 rfl rfl ?_
  refine gK_16_16 F wm_175 dX2_become_66 ?_
  refine pK_7_16 F hf wm_175 dX2_become_69 (fun X_9 hf => ?_)
  refine z_aload_n F dX2_become_72 0 rfl rfl ?_
  refine z_aload_n F dX2_become_73 1 rfl rfl ?_
  refine gK_16_17 F wm_177 dX2_become_74 ?_
  refine pK_7_17 F hf wm_177 dX2_become_77 (fun X_10 hf => ?_)
  refine z_aload_n F dX2_become_80 0 rfl rfl ?_
  refine z_aload_n F dX2_become_81 1 rfl rfl ?_
  refine gK_16_18 F wm_179 dX2_become_82 ?_
  refine pK_7_18 F hf wm_179 dX2_become_85 (fun X_11 hf => ?_)
  refine z_aload_n F dX2_become_88 1 rfl rfl ?_
  refine gK_16_6 F wm_143 dX2_become_89 ?_
  refine z_iconst (v := 0) F dX2_become_92 (by decide +kernel) ?_
  refine z_aload_n F dX2_become_93 0 rfl rfl ?_
  refine gK_7_6 F wm_143 dX2_become_94 ?_
  refine z_iconst (v := 0) F dX2_become_97 (by decide +kernel) ?_
  refine z_bipush (v := 8) F dX2_become_98 (by decide +kernel) ?_
  refine yK_17_8 F (by decide) wm_432 wm_359 wm_358 wm_63 hf (Nat.le_of_ble_eq_true rfl) dX2_become_100 (fun X_12 hf => ?_)
  refine z_aload_n F dX2_become_103 1 rfl rfl ?_
  refine gK_16_7 F wm_147 dX2_become_104 ?_
  refine z_iconst (v := 0) F dX2_become_107 (by decide +kernel) ?_
  refine z_aload_n F dX2_become_108 0 rfl rfl ?_
  refine gK_7_7 F wm_147 dX2_become_109 ?_
  refine z_iconst (v := 0) F dX2_become_112 (by decide +kernel) ?_
  refine z_bipush (v := 8) F dX2_become_113 (by decide +kernel) ?_
  refine yK_18_9 F (by decide) wm_432 wm_359 wm_358 wm_63 hf (Nat.le_of_ble_eq_true rfl) dX2_become_115 (fun X_13 hf => ?_)
  refine z_aload_n F dX2_become_118 1 rfl rfl ?_
  refine gK_16_8 F wm_152 dX2_become_119 ?_
  refine z_iconst (v := 0) F dX2_become_122 (by decide +kernel) ?_
  refine z_aload_n F dX2_become_123 0 rfl rfl ?_
  refine gK_7_8 F wm_152 dX2_become_124 ?_
  refine z_iconst (v := 0) F dX2_become_127 (by decide +kernel) ?_
  refine z_bipush (v := 8) F dX2_become_128 (by decide +kernel) ?_
  refine yK_19_10 F (by decide) wm_432 wm_359 wm_358 wm_63 hf (Nat.le_of_ble_eq_true rfl) dX2_become_130 (fun X_14 hf => ?_)
  refine z_aload_n F dX2_become_133 1 rfl rfl ?_
  refine gK_16_9 F wm_156 dX2_become_134 ?_
  refine z_iconst (v := 0) F dX2_become_137 (by decide +kernel) ?_
  refine z_aload_n F dX2_become_138 0 rfl rfl ?_
  refine gK_7_9 F wm_156 dX2_become_139 ?_
  refine z_iconst (v := 0) F dX2_become_142 (by decide +kernel) ?_
  refine z_bipush (v := 8) F dX2_become_143 (by decide +kernel) ?_
  refine yK_20_11 F (by decide) wm_432 wm_359 wm_358 wm_63 hf (Nat.le_of_ble_eq_true rfl) dX2_become_145 (fun X_15 hf => ?_)
  refine z_aload_n F dX2_become_148 1 rfl rfl ?_
  refine gK_16_10 F wm_160 dX2_become_149 ?_
  refine z_iconst (v := 0) F dX2_become_152 (by decide +kernel) ?_
  refine z_aload_n F dX2_become_153 0 rfl rfl ?_
  refine gK_7_10 F wm_160 dX2_become_154 ?_
  refine z_iconst (v := 0) F dX2_become_157 (by decide +kernel) ?_
  refine z_bipush (v := 6) F dX2_become_158 (by decide +kernel) ?_
  refine yK_21_12 F (by decide) wm_432 wm_359 wm_358 wm_63 hf (Nat.le_of_ble_eq_true rfl) dX2_become_160 (fun X_16 hf => ?_)
  refine z_aload_n F dX2_become_163 1 rfl rfl ?_
  refine gK_16_11 F wm_164 dX2_become_164 ?_
  refine z_iconst (v := 0) F dX2_become_167 (by decide +kernel) ?_
  refine z_aload_n F dX2_become_168 0 rfl rfl ?_
  refine gK_7_11 F wm_164 dX2_become_169 ?_
  refine z_iconst (v := 0) F dX2_become_172 (by decide +kernel) ?_
  refine z_bipush (v := 6) F dX2_become_173 (by decide +kernel) ?_
  refine yK_22_13 F (by decide) wm_432 wm_359 wm_358 wm_63 hf (Nat.le_of_ble_eq_true rfl) dX2_become_175 (fun X_17 hf => ?_)
  refine z_aload_n F dX2_become_178 1 rfl rfl ?_
  refine gK_16_12 F wm_167 dX2_become_179 ?_
  refine z_iconst (v := 0) F dX2_become_182 (by decide +kernel) ?_
  refine z_aload_n F dX2_become_183 0 rfl rfl ?_
  refine gK_7_12 F wm_167 dX2_become_184 ?_
  refine z_iconst (v := 0) F dX2_become_187 (by decide +kernel) ?_
  refine z_bipush (v := 6) F dX2_become_188 (by decide +kernel) ?_
  refine yK_23_14 F (by decide) wm_432 wm_359 wm_358 wm_63 hf (Nat.le_of_ble_eq_true rfl) dX2_become_190 (fun X_18 hf => ?_)
  refine z_aload_n F dX2_become_193 1 rfl rfl ?_
  refine gK_16_13 F wm_170 dX2_become_194 ?_
  refine z_iconst (v := 0) F dX2_become_197 (by decide +kernel) ?_
  refine z_aload_n F dX2_become_198 0 rfl rfl ?_
  refine gK_7_13 F wm_170 dX2_become_199 ?_
  refine z_iconst (v := 0) F dX2_become_202 (by decide +kernel) ?_
  refine z_bipush (v := 6) F dX2_become_203 (by decide +kernel) ?_
  refine yK_24_15 F (by decide) wm_432 wm_359 wm_358 wm_63 hf (Nat.le_of_ble_eq_true rfl) dX2_become_205 (fun X_19 hf => ?_)
  exact z_vret F dX2_become_208 (Option.some.inj hf)
