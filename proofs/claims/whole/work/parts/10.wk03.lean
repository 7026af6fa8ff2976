theorem kv_X3_measure : zKv yX3_measure := ⟨wm_570, wm_571⟩
theorem kn_X3_measure : zKn yX3_measure cX3_measure 6 none 3 := ⟨wm_572, wm_60, by decide +kernel, by decide⟩
set_option maxHeartbeats 4000000 in
set_option maxRecDepth 100000 in
theorem z_X3_measure_36 {z : ZC} {D : va_G} {cI : ClassId} {ad : Nat → Nat} {R : KX} (F : ZF z (yK D cI ad) cX3_measure RX3 6 none 3) (n : Nat) : ∀ (t : Nat) (X : KX) (v4 : Int32) (v5 : Int32), f_X3_measure_36 n t X v4 v5 = some R → Z z (yK D cI ad) 6 (zQV z (yK D cI ad) R) X 36 [(0, .ref (ad 47)), (1, .ref (ad 7)), (4, .int v4), (5, .int v5)] [] := by
  intro t
  induction t with
  | zero => intro X v4 v5 hf; rw [f_X3_measure_36] at hf; exact zNone hf
  | succ t ih =>
    intro X v4 v5 hf
    rw [f_X3_measure_36] at hf
    refine z_iload F dX3_measure_36 3 rfl ?_
    refine z_aload_n F dX3_measure_38 1 rfl rfl ?_
    refine gK_7_3 F wm_132 dX3_measure_39 ?_
    refine z_icmp_gt (tgt := 87) F hf dX3_measure_42 (by decide) (fun hf => ?_) (fun hf => ?_)
    · exact z_vret F dX3_measure_87 (Option.some.inj hf)
    · refine z_iload F dX3_measure_45 3 rfl ?_
      refine z_aload_n F dX3_measure_47 0 rfl rfl ?_
      refine gK_47_0 F wm_252 dX3_measure_48 ?_
      refine nK_48 F dX3_measure_51 ?_
      refine z_icmp_ge (tgt := 87) F hf dX3_measure_52 (by decide) (fun hf => ?_) (fun hf => ?_)
      · exact z_vret F dX3_measure_87 (Option.some.inj hf)
      · refine z_aload_n F dX3_measure_55 0 rfl rfl ?_
        refine gK_47_0 F wm_252 dX3_measure_56 ?_
        refine z_iload F dX3_measure_59 3 rfl ?_
        refine z_aload_n F dX3_measure_61 0 rfl rfl ?_
        refine z_aload_n F dX3_measure_62 1 rfl rfl ?_
        refine z_aload_n F dX3_measure_63 0 rfl rfl ?_
        refine gK_47_0 F wm_252 dX3_measure_64 ?_
        refine z_iload F dX3_measure_67 3 rfl ?_
        refine z_iconst (v := 1) F dX3_measure_69 (by decide +kernel) ?_
        refine z_isub F dX3_measure_70 ?_
        refine lK_48 F hf dX3_measure_71 (fun hf => ?_)
        refine k_X3_leadingInto F (by decide) wm_573 (Nat.le_of_ble_eq_true rfl) hf dX3_measure_72 (fun r_1 hf => ?_)
        refine z_iload F dX3_measure_75 2 rfl ?_
        refine z_iconst (v := (-1)) F dX3_measure_77 (by decide +kernel) ?_
        refine z_ixor F dX3_measure_78 ?_
        refine z_iand F dX3_measure_79 ?_
        refine sK_48 F hf dX3_measure_80 (fun X_2 hf => ?_)
        refine z_iinc (w := 1) (L' := fun v5_3 => [(5, .int v5_3), (0, .ref (ad 47)), (1, .ref (ad 7)), (4, .int v4)]) F hf dX3_measure_81 3 rfl (by decide +kernel) (Nat.le_of_ble_eq_true rfl) (fun _ => rfl) (fun v5_3 hf => ?_)
        refine z_goto (tgt := 36) F dX3_measure_84 (by decide) ?_
        exact z_sub [1, 2, 3, 0] rfl (ih X_2 v4 v5_3 hf)
set_option maxHeartbeats 4000000 in
set_option maxRecDepth 100000 in
theorem z_X3_measure_14 {z : ZC} {D : va_G} {cI : ClassId} {ad : Nat → Nat} {R : KX} (F : ZF z (yK D cI ad) cX3_measure RX3 6 none 3) (n : Nat) (X : KX) (s0 : Int32) (v2 : Int32) (hf : f_X3_measure_14 n X s0 v2 = some R) : Z z (yK D cI ad) 6 (zQV z (yK D cI ad) R) X 14 [(0, .ref (ad 47)), (1, .ref (ad 7)), (2, .int v2)] [.int s0] := by
  unfold f_X3_measure_14 at hf
  refine z_istore (L' := [(4, .int s0), (0, .ref (ad 47)), (1, .ref (ad 7)), (2, .int v2)]) F dX3_measure_14 (Nat.le_of_ble_eq_true rfl) rfl ?_
  refine z_aload_n F dX3_measure_16 1 rfl rfl ?_
  refine z_iload_n F dX3_measure_17 3 rfl rfl ?_
  refine pK_47_1 F hf wm_253 dX3_measure_18 (fun X_1 hf => ?_)
  refine z_aload_n F dX3_measure_21 1 rfl rfl ?_
  refine gK_47_0 F wm_252 dX3_measure_22 ?_
  refine z_iconst (v := 0) F dX3_measure_25 (by decide +kernel) ?_
  refine z_iconst (v := 1) F dX3_measure_26 (by decide +kernel) ?_
  refine z_aload_n F dX3_measure_27 2 rfl rfl ?_
  refine gK_7_1 F wm_126 dX3_measure_28 ?_
  refine z_ishl F dX3_measure_31 ?_
  refine sK_48 F hf dX3_measure_32 (fun X_2 hf => ?_)
  refine z_iconst (v := 1) F dX3_measure_33 (by decide +kernel) ?_
  refine z_istore (L' := [(5, .int 1), (4, .int s0), (0, .ref (ad 47)), (1, .ref (ad 7)), (2, .int v2)]) F dX3_measure_34 (Nat.le_of_ble_eq_true rfl) rfl ?_
  exact z_sub [2, 3, 1, 0] rfl (z_X3_measure_36 F n n X_2 s0 1 hf)
set_option maxHeartbeats 4000000 in
set_option maxRecDepth 100000 in
theorem z_X3_measure {z : ZC} {D : va_G} {cI : ClassId} {ad : Nat → Nat} {R : KX} (F : ZF z (yK D cI ad) cX3_measure RX3 6 none 3) (n : Nat) (X : KX) (a2 : Int32) (a3 : Int32) (hf : f_X3_measure n X a2 a3 = some R) : Z z (yK D cI ad) 6 (zQV z (yK D cI ad) R) X 0 [(0, .ref (ad 47)), (1, .ref (ad 7)), (2, .int a2), (3, .int a3)] [] := by
  unfold f_X3_measure at hf
  refine z_iload_n F dX3_measure_0 3 rfl rfl ?_
  refine z_if_eq (tgt := 13) F hf dX3_measure_1 (by decide) (fun hf => ?_) (fun hf => ?_)
  · refine z_iconst (v := 0) F dX3_measure_13 (by decide +kernel) ?_
    exact z_sub [0, 1, 2] rfl (z_X3_measure_14 F n X 0 a2 hf)
  · refine z_iconst (v := 1) F dX3_measure_4 (by decide +kernel) ?_
    refine z_aload_n F dX3_measure_5 1 rfl rfl ?_
    refine gK_7_2 F wm_128 dX3_measure_6 ?_
    refine z_ishl F dX3_measure_9 ?_
    refine z_goto (tgt := 14) F dX3_measure_10 (by decide) ?_
    exact z_sub [0, 1, 2] rfl (z_X3_measure_14 F n X (zShl 1 (X 7 2)) a2 hf)
theorem c_X3_measure {D : va_G} {cI : ClassId} {ad : Nat → Nat} {R : KX} (n : Nat) (X : KX) (a2 : Int32) (a3 : Int32) (hf : f_X3_measure n X a2 a3 = some R) : zMV (yK D cI ad) yX3_measure cX3_measure 6 none 3 [.ref (ad 47), .ref (ad 7), .int a2, .int a3] X R := zMV_of (by decide +kernel) (Nat.le_of_ble_eq_true rfl) (fun z F => z_sub [0, 1, 2, 3] rfl (z_X3_measure F n X a2 a3 hf))
theorem k_X3_measure {z : ZC} {D : va_G} {cI : ClassId} {ad : Nat → Nat} {cc : ByteArray} {own : String} {nL d pc index : Nat} {ret : Option FieldType} {Q : State → Prop} {X : KX} {L : List (Nat × Value)} {rest : List Value} {n : Nat} {a2 a3 : Int32} (F : ZF z (yK D cI ad) cc own nL ret d) (hd : 3 + 1 ≤ d) (hw : Cond.methodLink own index yX3_measure ∈ wsA) (hst : (rest.map fun v => v.category).sum ≤ 8) {β : Type} {e : KX → Option β} {r : β} (hf : zB1 (f_X3_measure n X a2 a3) e = some r) (hdg : decode cc pc = .ok (.invokevirtual index, 3)) (kk : ∀ X2 : KX, e X2 = some r → Z z (yK D cI ad) nL Q X2 (pc + 3) L rest) : Z z (yK D cI ad) nL Q X pc L (.int a3 :: .int a2 :: .ref (ad 7) :: .ref (ad 47) :: rest) := by
  obtain ⟨v, h1, h2⟩ := zB1_some hf
  exact z_cVV (As := [.ref (ad 7), .int a2, .int a3]) F (c_X3_measure n X a2 a3 h1) kn_X3_measure kv_X3_measure hw (q0 := 47) rfl rfl hd rfl hst hdg rfl (kk v h2)
theorem kv_X2_leftAhead : zKv yX2_leftAhead := ⟨wm_581, wm_582⟩
theorem kn_X2_leftAhead : zKn yX2_leftAhead cX2_leftAhead 2 (some .int) 1 := ⟨wm_583, wm_58, by decide +kernel, by decide⟩
set_option maxHeartbeats 4000000 in
set_option maxRecDepth 100000 in
theorem z_X2_leftAhead {z : ZC} {D : va_G} {cI : ClassId} {ad : Nat → Nat} {r : Int32} (F : ZF z (yK D cI ad) cX2_leftAhead RX2 2 (some .int) 2) (X : KX) (a1 : Int32) (hf : f_X2_leftAhead X a1 = r) : Z z (yK D cI ad) 2 (zQI z (yK D cI ad) (r, X)) X 0 [(0, .ref (ad 7)), (1, .int a1)] [] := by
  unfold f_X2_leftAhead at hf
  refine z_aload_n F dX2_leftAhead_0 0 rfl rfl ?_
  refine gK_7_14 F wm_172 dX2_leftAhead_1 ?_
  refine z_iload_n F dX2_leftAhead_4 1 rfl rfl ?_
  refine z_icmp_ne (tgt := 23) F hf dX2_leftAhead_5 (by decide) (fun hf => ?_) (fun hf => ?_)
  · refine z_aload_n F dX2_leftAhead_23 0 rfl rfl ?_
    refine gK_7_3 F wm_131 dX2_leftAhead_24 ?_
    exact z_iret F dX2_leftAhead_27 (Prod.ext hf rfl)
  · refine z_aload_n F dX2_leftAhead_8 0 rfl rfl ?_
    refine gK_7_3 F wm_131 dX2_leftAhead_9 ?_
    refine z_aload_n F dX2_leftAhead_12 0 rfl rfl ?_
    refine gK_7_16 F wm_175 dX2_leftAhead_13 ?_
    refine k_J6_bitCount_0f7a4 F (by decide) wm_584 (Nat.le_of_ble_eq_true rfl) dX2_leftAhead_16 ?_
    refine z_isub F dX2_leftAhead_19 ?_
    refine z_goto (tgt := 27) F dX2_leftAhead_20 (by decide) ?_
    exact z_iret F dX2_leftAhead_27 (Prod.ext hf rfl)
theorem c_X2_leftAhead {D : va_G} {cI : ClassId} {ad : Nat → Nat} (X : KX) (a1 : Int32) : zMI (yK D cI ad) yX2_leftAhead cX2_leftAhead 2 (some .int) 2 [.ref (ad 7), .int a1] X (f_X2_leftAhead X a1, X) := zMI_of (by decide +kernel) (Nat.le_of_ble_eq_true rfl) (fun z F => z_sub [0, 1] rfl (z_X2_leftAhead F X a1 rfl))
theorem k_X2_leftAhead {z : ZC} {D : va_G} {cI : ClassId} {ad : Nat → Nat} {cc : ByteArray} {own : String} {nL d pc index : Nat} {ret : Option FieldType} {Q : State → Prop} {X : KX} {L : List (Nat × Value)} {rest : List Value} {a1 : Int32} (F : ZF z (yK D cI ad) cc own nL ret d) (hd : 2 + 1 ≤ d) (hw : Cond.methodLink own index yX2_leftAhead ∈ wsA) (hst : (rest.map fun v => v.category).sum ≤ 8) (hdg : decode cc pc = .ok (.invokevirtual index, 3)) (kk : Z z (yK D cI ad) nL Q X (pc + 3) L (.int (f_X2_leftAhead X a1) :: rest)) : Z z (yK D cI ad) nL Q X pc L (.int a1 :: .ref (ad 7) :: rest) := z_cVI (As := [.int a1]) F (c_X2_leftAhead X a1) kn_X2_leftAhead kv_X2_leftAhead hw (q0 := 7) rfl rfl hd rfl hst hdg rfl kk
theorem kv_X3_fewestFrom : zKv yX3_fewestFrom := ⟨wm_586, wm_587⟩
theorem kn_X3_fewestFrom : zKn yX3_fewestFrom cX3_fewestFrom 4 (some .int) 2 := ⟨wm_588, wm_60, by decide +kernel, by decide⟩
set_option maxHeartbeats 4000000 in
set_option maxRecDepth 100000 in
theorem z_X3_fewestFrom_2 {z : ZC} {D : va_G} {cI : ClassId} {ad : Nat → Nat} {r : Int32} (F : ZF z (yK D cI ad) cX3_fewestFrom RX3 4 (some .int) 2) (n : Nat) (X : KX) : ∀ (t : Nat) (v1 : Int32) (v2 : Int32) (v3 : Int32), f_X3_fewestFrom_2 n X t v1 v2 v3 = some r → Z z (yK D cI ad) 4 (zQI z (yK D cI ad) (r, X)) X 2 [(0, .ref (ad 47)), (1, .int v1), (2, .int v2), (3, .int v3)] [] := by
  intro t
  induction t with
  | zero => intro v1 v2 v3 hf; rw [f_X3_fewestFrom_2] at hf; exact zNone hf
  | succ t ih =>
    intro v1 v2 v3 hf
    rw [f_X3_fewestFrom_2] at hf
    refine z_iload_n F dX3_fewestFrom_2 3 rfl rfl ?_
    refine z_iload_n F dX3_fewestFrom_3 2 rfl rfl ?_
    refine z_icmp_gt (tgt := 37) F hf dX3_fewestFrom_4 (by decide) (fun hf => ?_) (fun hf => ?_)
    · refine z_ldc F wm_589 dX3_fewestFrom_37 ?_
      exact z_iret F dX3_fewestFrom_39 (Prod.ext (Option.some.inj hf) rfl)
    · refine z_iload_n F dX3_fewestFrom_7 3 rfl rfl ?_
      refine z_aload_n F dX3_fewestFrom_8 0 rfl rfl ?_
      refine gK_47_0 F wm_252 dX3_fewestFrom_9 ?_
      refine nK_48 F dX3_fewestFrom_12 ?_
      refine z_icmp_ge (tgt := 37) F hf dX3_fewestFrom_13 (by decide) (fun hf => ?_) (fun hf => ?_)
      · refine z_ldc F wm_589 dX3_fewestFrom_37 ?_
        exact z_iret F dX3_fewestFrom_39 (Prod.ext (Option.some.inj hf) rfl)
      · refine z_aload_n F dX3_fewestFrom_16 0 rfl rfl ?_
        refine gK_47_0 F wm_252 dX3_fewestFrom_17 ?_
        refine z_iload_n F dX3_fewestFrom_20 3 rfl rfl ?_
        refine lK_48 F hf dX3_fewestFrom_21 (fun hf => ?_)
        refine z_iload_n F dX3_fewestFrom_22 1 rfl rfl ?_
        refine k_X6_hasN F (by decide) (fun _ h => h.2.2.1) (Nat.le_of_ble_eq_true rfl) dX3_fewestFrom_23 ?_
        refine z_if_eq (tgt := 31) F hf dX3_fewestFrom_26 (by decide) (fun hf => ?_) (fun hf => ?_)
        · refine z_iinc (w := 1) (L' := fun v3_1 => [(3, .int v3_1), (0, .ref (ad 47)), (1, .int v1), (2, .int v2)]) F hf dX3_fewestFrom_31 3 rfl (by decide +kernel) (Nat.le_of_ble_eq_true rfl) (fun _ => rfl) (fun v3_1 hf => ?_)
          refine z_goto (tgt := 2) F dX3_fewestFrom_34 (by decide) ?_
          exact z_sub [1, 2, 3, 0] rfl (ih v1 v2 v3_1 hf)
        · refine z_iload_n F dX3_fewestFrom_29 3 rfl rfl ?_
          exact z_iret F dX3_fewestFrom_30 (Prod.ext (Option.some.inj hf) rfl)
set_option maxHeartbeats 4000000 in
set_option maxRecDepth 100000 in
theorem z_X3_fewestFrom {z : ZC} {D : va_G} {cI : ClassId} {ad : Nat → Nat} {r : Int32} (F : ZF z (yK D cI ad) cX3_fewestFrom RX3 4 (some .int) 2) (n : Nat) (X : KX) (a1 : Int32) (a2 : Int32) (hf : f_X3_fewestFrom n X a1 a2 = some r) : Z z (yK D cI ad) 4 (zQI z (yK D cI ad) (r, X)) X 0 [(0, .ref (ad 47)), (1, .int a1), (2, .int a2)] [] := by
  unfold f_X3_fewestFrom at hf
  refine z_iconst (v := 0) F dX3_fewestFrom_0 (by decide +kernel) ?_
  refine z_istore_n (L' := [(3, .int 0), (0, .ref (ad 47)), (1, .int a1), (2, .int a2)]) F dX3_fewestFrom_1 rfl (Nat.le_of_ble_eq_true rfl) rfl ?_
  exact z_sub [1, 2, 3, 0] rfl (z_X3_fewestFrom_2 F n X n a1 a2 0 hf)
theorem c_X3_fewestFrom {D : va_G} {cI : ClassId} {ad : Nat → Nat} {r : Int32} (n : Nat) (X : KX) (a1 : Int32) (a2 : Int32) (hf : f_X3_fewestFrom n X a1 a2 = some r) : zMI (yK D cI ad) yX3_fewestFrom cX3_fewestFrom 4 (some .int) 2 [.ref (ad 47), .int a1, .int a2] X (r, X) := zMI_of (by decide +kernel) (Nat.le_of_ble_eq_true rfl) (fun z F => z_sub [0, 1, 2] rfl (z_X3_fewestFrom F n X a1 a2 hf))
theorem k_X3_fewestFrom {z : ZC} {D : va_G} {cI : ClassId} {ad : Nat → Nat} {cc : ByteArray} {own : String} {nL d pc index : Nat} {ret : Option FieldType} {Q : State → Prop} {X : KX} {L : List (Nat × Value)} {rest : List Value} {n : Nat} {a1 a2 : Int32} (F : ZF z (yK D cI ad) cc own nL ret d) (hd : 2 + 1 ≤ d) (hw : Cond.methodLink own index yX3_fewestFrom ∈ wsA) (hst : (rest.map fun v => v.category).sum ≤ 8) {β : Type} {e : Int32 → Option β} {r : β} (hf : zB1 (f_X3_fewestFrom n X a1 a2) e = some r) (hdg : decode cc pc = .ok (.invokevirtual index, 3)) (kk : ∀ v : Int32, e v = some r → Z z (yK D cI ad) nL Q X (pc + 3) L (.int v :: rest)) : Z z (yK D cI ad) nL Q X pc L (.int a2 :: .int a1 :: .ref (ad 47) :: rest) := by
  obtain ⟨v, h1, h2⟩ := zB1_some hf
  exact z_cVI (As := [.int a1, .int a2]) F (c_X3_fewestFrom n X a1 a2 h1) kn_X3_fewestFrom kv_X3_fewestFrom hw (q0 := 47) rfl rfl hd rfl hst hdg rfl (kk v h2)
theorem kv_X3_firstNearer : zKv yX3_firstNearer := ⟨wm_597, wm_13⟩
theorem kn_X3_firstNearer : zKn yX3_firstNearer cX3_firstNearer 5 (some .int) 3 := ⟨wm_598, wm_60, by decide +kernel, by decide⟩
set_option maxHeartbeats 4000000 in
set_option maxRecDepth 100000 in
theorem z_X3_firstNearer_53 {z : ZC} {D : va_G} {cI : ClassId} {ad : Nat → Nat} {r : Int32} {k3 : Int32 → Int32 → Int32 → Option Int32} (F : ZF z (yK D cI ad) cX3_firstNearer RX3 5 (some .int) 3) (n : Nat) (X : KX) (hk3 : ∀ (v2 : Int32) (v3 : Int32) (v4 : Int32), k3 v2 v3 v4 = some r → Z z (yK D cI ad) 5 (zQI z (yK D cI ad) (r, X)) X 3 [(0, .ref (ad 47)), (1, .ref (ad 7)), (2, .int v2), (3, .int v3), (4, .int v4)] []) (v2 : Int32) (v3 : Int32) (v4 : Int32) (hf : f_X3_firstNearer_53 n X k3 v2 v3 v4 = some r) : Z z (yK D cI ad) 5 (zQI z (yK D cI ad) (r, X)) X 53 [(0, .ref (ad 47)), (1, .ref (ad 7)), (2, .int v2), (3, .int v3), (4, .int v4)] [] := by
  unfold f_X3_firstNearer_53 at hf
  refine z_iinc (w := 1) (L' := fun v4_1 => [(4, .int v4_1), (0, .ref (ad 47)), (1, .ref (ad 7)), (2, .int v2), (3, .int v3)]) F hf dX3_firstNearer_53 4 rfl (by decide +kernel) (Nat.le_of_ble_eq_true rfl) (fun _ => rfl) (fun v4_1 hf => ?_)
  refine z_goto (tgt := 3) F dX3_firstNearer_56 (by decide) ?_
  exact z_sub [1, 2, 3, 4, 0] rfl (hk3 v2 v3 v4_1 hf)
set_option maxHeartbeats 4000000 in
set_option maxRecDepth 100000 in
theorem z_X3_firstNearer_3 {z : ZC} {D : va_G} {cI : ClassId} {ad : Nat → Nat} {r : Int32} (F : ZF z (yK D cI ad) cX3_firstNearer RX3 5 (some .int) 3) (n : Nat) (X : KX) : ∀ (t : Nat) (v2 : Int32) (v3 : Int32) (v4 : Int32), f_X3_firstNearer_3 n X t v2 v3 v4 = some r → Z z (yK D cI ad) 5 (zQI z (yK D cI ad) (r, X)) X 3 [(0, .ref (ad 47)), (1, .ref (ad 7)), (2, .int v2), (3, .int v3), (4, .int v4)] [] := by
  intro t
  induction t with
  | zero => intro v2 v3 v4 hf; rw [f_X3_firstNearer_3] at hf; exact zNone hf
  | succ t ih =>
    intro v2 v3 v4 hf
    rw [f_X3_firstNearer_3] at hf
    refine z_iload F dX3_firstNearer_3 4 rfl ?_
    refine z_aload_n F dX3_firstNearer_5 1 rfl rfl ?_
    refine gK_7_4 F wm_136 dX3_firstNearer_6 ?_
    refine z_icmp_ge (tgt := 59) F hf dX3_firstNearer_9 (by decide) (fun hf => ?_) (fun hf => ?_)
    · refine z_ldc F wm_589 dX3_firstNearer_59 ?_
      exact z_iret F dX3_firstNearer_61 (Prod.ext (Option.some.inj hf) rfl)
    · refine z_aload_n F dX3_firstNearer_12 0 rfl rfl ?_
      refine gK_47_1 F wm_253 dX3_firstNearer_13 ?_
      refine z_iload F dX3_firstNearer_16 4 rfl ?_
      refine k_X6_hasN F (by decide) (fun _ h => h.2.2.1) (Nat.le_of_ble_eq_true rfl) dX3_firstNearer_18 ?_
      refine z_if_eq (tgt := 53) F hf dX3_firstNearer_21 (by decide) (fun hf => ?_) (fun hf => ?_)
      · exact z_sub [0, 1, 2, 3, 4] rfl (z_X3_firstNearer_53 F n X ih v2 v3 v4 hf)
      · refine z_aload_n F dX3_firstNearer_24 0 rfl rfl ?_
        refine gK_47_0 F wm_252 dX3_firstNearer_25 ?_
        refine z_iload_n F dX3_firstNearer_28 3 rfl rfl ?_
        refine lK_48 F hf dX3_firstNearer_29 (fun hf => ?_)
        refine z_aload_n F dX3_firstNearer_30 1 rfl rfl ?_
        refine z_iload_n F dX3_firstNearer_31 2 rfl rfl ?_
        refine z_iload F dX3_firstNearer_32 4 rfl ?_
        refine z_aload_n F dX3_firstNearer_34 1 rfl rfl ?_
        refine gK_7_9 F wm_157 dX3_firstNearer_35 ?_
        refine z_iload F dX3_firstNearer_38 4 rfl ?_
        refine lK_11 F hf dX3_firstNearer_40 (fun hf => ?_)
        refine k_X2_ledFrom F (by decide) wm_599 (Nat.le_of_ble_eq_true rfl) hf dX3_firstNearer_41 (fun r_1 hf => ?_)
        refine k_X6_hasN F (by decide) (fun _ h => h.2.2.1) (Nat.le_of_ble_eq_true rfl) dX3_firstNearer_44 ?_
        refine z_if_eq (tgt := 53) F hf dX3_firstNearer_47 (by decide) (fun hf => ?_) (fun hf => ?_)
        · exact z_sub [0, 1, 2, 3, 4] rfl (z_X3_firstNearer_53 F n X ih v2 v3 v4 hf)
        · refine z_iload F dX3_firstNearer_50 4 rfl ?_
          exact z_iret F dX3_firstNearer_52 (Prod.ext (Option.some.inj hf) rfl)
set_option maxHeartbeats 4000000 in
set_option maxRecDepth 100000 in
theorem z_X3_firstNearer {z : ZC} {D : va_G} {cI : ClassId} {ad : Nat → Nat} {r : Int32} (F : ZF z (yK D cI ad) cX3_firstNearer RX3 5 (some .int) 3) (n : Nat) (X : KX) (a2 : Int32) (a3 : Int32) (hf : f_X3_firstNearer n X a2 a3 = some r) : Z z (yK D cI ad) 5 (zQI z (yK D cI ad) (r, X)) X 0 [(0, .ref (ad 47)), (1, .ref (ad 7)), (2, .int a2), (3, .int a3)] [] := by
  unfold f_X3_firstNearer at hf
  refine z_iconst (v := 0) F dX3_firstNearer_0 (by decide +kernel) ?_
  refine z_istore (L' := [(4, .int 0), (0, .ref (ad 47)), (1, .ref (ad 7)), (2, .int a2), (3, .int a3)]) F dX3_firstNearer_1 (Nat.le_of_ble_eq_true rfl) rfl ?_
  exact z_sub [1, 2, 3, 4, 0] rfl (z_X3_firstNearer_3 F n X n a2 a3 0 hf)
theorem c_X3_firstNearer {D : va_G} {cI : ClassId} {ad : Nat → Nat} {r : Int32} (n : Nat) (X : KX) (a2 : Int32) (a3 : Int32) (hf : f_X3_firstNearer n X a2 a3 = some r) : zMI (yK D cI ad) yX3_firstNearer cX3_firstNearer 5 (some .int) 3 [.ref (ad 47), .ref (ad 7), .int a2, .int a3] X (r, X) := zMI_of (by decide +kernel) (Nat.le_of_ble_eq_true rfl) (fun z F => z_sub [0, 1, 2, 3] rfl (z_X3_firstNearer F n X a2 a3 hf))
theorem k_X3_firstNearer {z : ZC} {D : va_G} {cI : ClassId} {ad : Nat → Nat} {cc : ByteArray} {own : String} {nL d pc index : Nat} {ret : Option FieldType} {Q : State → Prop} {X : KX} {L : List (Nat × Value)} {rest : List Value} {n : Nat} {a2 a3 : Int32} (F : ZF z (yK D cI ad) cc own nL ret d) (hd : 3 + 1 ≤ d) (hw : Cond.methodLink own index yX3_firstNearer ∈ wsA) (hst : (rest.map fun v => v.category).sum ≤ 8) {β : Type} {e : Int32 → Option β} {r : β} (hf : zB1 (f_X3_firstNearer n X a2 a3) e = some r) (hdg : decode cc pc = .ok (.invokevirtual index, 3)) (kk : ∀ v : Int32, e v = some r → Z z (yK D cI ad) nL Q X (pc + 3) L (.int v :: rest)) : Z z (yK D cI ad) nL Q X pc L (.int a3 :: .int a2 :: .ref (ad 7) :: .ref (ad 47) :: rest) := by
  obtain ⟨v, h1, h2⟩ := zB1_some hf
  exact z_cVI (As := [.ref (ad 7), .int a2, .int a3]) F (c_X3_firstNearer n X a2 a3 h1) kn_X3_firstNearer kv_X3_firstNearer hw (q0 := 47) rfl rfl hd rfl hst hdg rfl (kk v h2)
theorem kv_X3_hintOfRoute : zKv yX3_hintOfRoute := ⟨wm_592, wm_593⟩
theorem kn_X3_hintOfRoute : zKn yX3_hintOfRoute cX3_hintOfRoute 8 (some .int) 4 := ⟨wm_594, wm_60, by decide +kernel, by decide⟩
set_option maxHeartbeats 4000000 in
set_option maxRecDepth 100000 in
theorem z_X3_hintOfRoute_15 {z : ZC} {D : va_G} {cI : ClassId} {ad : Nat → Nat} {r : Int32} (F : ZF z (yK D cI ad) cX3_hintOfRoute RX3 8 (some .int) 4) (n : Nat) (X : KX) : ∀ (t : Nat) (v3 : Int32) (v4 : Int32) (v5 : Int32) (v6 : Int32) (v7 : Int32), f_X3_hintOfRoute_15 n X t v3 v4 v5 v6 v7 = some r → Z z (yK D cI ad) 8 (zQI z (yK D cI ad) (r, X)) X 15 [(0, .ref (ad 47)), (1, .ref (ad 7)), (3, .int v3), (4, .int v4), (5, .int v5), (6, .int v6), (7, .int v7)] [] := by
  intro t
  induction t with
  | zero => intro v3 v4 v5 v6 v7 hf; rw [f_X3_hintOfRoute_15] at hf; exact zNone hf
  | succ t ih =>
    intro v3 v4 v5 v6 v7 hf
    rw [f_X3_hintOfRoute_15] at hf
    refine z_iload F dX3_hintOfRoute_15 6 rfl ?_
    refine z_iload F dX3_hintOfRoute_17 3 rfl ?_
    refine z_icmp_gt (tgt := 76) F hf dX3_hintOfRoute_19 (by decide) (fun hf => ?_) (fun hf => ?_)
    · refine z_iload F dX3_hintOfRoute_76 5 rfl ?_
      exact z_iret F dX3_hintOfRoute_78 (Prod.ext (Option.some.inj hf) rfl)
    · refine z_iload F dX3_hintOfRoute_22 6 rfl ?_
      refine z_iload_n F dX3_hintOfRoute_24 2 rfl rfl ?_
      refine z_icmp_ge (tgt := 76) F hf dX3_hintOfRoute_25 (by decide) (fun hf => ?_) (fun hf => ?_)
      · refine z_iload F dX3_hintOfRoute_76 5 rfl ?_
        exact z_iret F dX3_hintOfRoute_78 (Prod.ext (Option.some.inj hf) rfl)
      · refine z_aload_n F dX3_hintOfRoute_28 0 rfl rfl ?_
        refine z_aload_n F dX3_hintOfRoute_29 1 rfl rfl ?_
        refine z_iload F dX3_hintOfRoute_30 4 rfl ?_
        refine z_iload_n F dX3_hintOfRoute_32 2 rfl rfl ?_
        refine z_iload F dX3_hintOfRoute_33 6 rfl ?_
        refine z_isub F dX3_hintOfRoute_35 ?_
        refine z_iconst (v := 1) F dX3_hintOfRoute_36 (by decide +kernel) ?_
        refine z_isub F dX3_hintOfRoute_37 ?_
        refine k_X3_firstNearer F (by decide) wm_595 (Nat.le_of_ble_eq_true rfl) hf dX3_hintOfRoute_38 (fun r_1 hf => ?_)
        refine z_istore (L' := [(6, .int r_1), (0, .ref (ad 47)), (1, .ref (ad 7)), (3, .int v3), (4, .int v4), (5, .int v5), (7, .int v7)]) F dX3_hintOfRoute_41 (Nat.le_of_ble_eq_true rfl) rfl ?_
        refine z_iload F dX3_hintOfRoute_43 0 rfl ?_
        refine z_ldc F wm_589 dX3_hintOfRoute_45 ?_
        refine z_icmp_ne (tgt := 53) F hf dX3_hintOfRoute_47 (by decide) (fun hf => ?_) (fun hf => ?_)
        · refine z_aload_n F dX3_hintOfRoute_53 2 rfl rfl ?_
          refine z_iload F dX3_hintOfRoute_54 5 rfl ?_
          refine z_iload F dX3_hintOfRoute_56 0 rfl ?_
          refine z_aload_n F dX3_hintOfRoute_58 2 rfl rfl ?_
          refine gK_7_9 F wm_157 dX3_hintOfRoute_59 ?_
          refine z_iload F dX3_hintOfRoute_62 0 rfl ?_
          refine lK_11 F hf dX3_hintOfRoute_64 (fun hf => ?_)
          refine k_X2_ledFrom F (by decide) wm_599 (Nat.le_of_ble_eq_true rfl) hf dX3_hintOfRoute_65 (fun r_2 hf => ?_)
          refine z_istore (L' := [(5, .int r_2), (6, .int r_1), (0, .ref (ad 47)), (1, .ref (ad 7)), (3, .int v3), (4, .int v4), (7, .int v7)]) F dX3_hintOfRoute_68 (Nat.le_of_ble_eq_true rfl) rfl ?_
          refine z_iinc (w := 1) (L' := fun v7_3 => [(7, .int v7_3), (5, .int r_2), (6, .int r_1), (0, .ref (ad 47)), (1, .ref (ad 7)), (3, .int v3), (4, .int v4)]) F hf dX3_hintOfRoute_70 6 rfl (by decide +kernel) (Nat.le_of_ble_eq_true rfl) (fun _ => rfl) (fun v7_3 hf => ?_)
          refine z_goto (tgt := 15) F dX3_hintOfRoute_73 (by decide) ?_
          exact z_sub [3, 4, 5, 6, 1, 2, 0] rfl (ih v3 v4 r_2 r_1 v7_3 hf)
        · refine z_ldc F wm_589 dX3_hintOfRoute_50 ?_
          exact z_iret F dX3_hintOfRoute_52 (Prod.ext (Option.some.inj hf) rfl)
set_option maxHeartbeats 4000000 in
set_option maxRecDepth 100000 in
theorem z_X3_hintOfRoute {z : ZC} {D : va_G} {cI : ClassId} {ad : Nat → Nat} {r : Int32} (F : ZF z (yK D cI ad) cX3_hintOfRoute RX3 8 (some .int) 4) (n : Nat) (X : KX) (a2 : Int32) (a3 : Int32) (a4 : Int32) (hf : f_X3_hintOfRoute n X a2 a3 a4 = some r) : Z z (yK D cI ad) 8 (zQI z (yK D cI ad) (r, X)) X 0 [(0, .ref (ad 47)), (1, .ref (ad 7)), (2, .int a2), (3, .int a3), (4, .int a4)] [] := by
  unfold f_X3_hintOfRoute at hf
  refine z_aload_n F dX3_hintOfRoute_0 1 rfl rfl ?_
  refine gK_7_10 F wm_161 dX3_hintOfRoute_1 ?_
  refine z_iload_n F dX3_hintOfRoute_4 2 rfl rfl ?_
  refine lK_12 F hf dX3_hintOfRoute_5 (fun hf => ?_)
  refine z_top hf (fun v5_1 hf => ?_)
  refine z_istore (L' := [(5, .int v5_1), (0, .ref (ad 47)), (1, .ref (ad 7)), (2, .int a2), (3, .int a3), (4, .int a4)]) F dX3_hintOfRoute_6 (Nat.le_of_ble_eq_true rfl) rfl ?_
  refine z_ldc F wm_589 dX3_hintOfRoute_8 ?_
  refine z_istore (L' := [(6, .int (-1000000)), (5, .int v5_1), (0, .ref (ad 47)), (1, .ref (ad 7)), (2, .int a2), (3, .int a3), (4, .int a4)]) F dX3_hintOfRoute_10 (Nat.le_of_ble_eq_true rfl) rfl ?_
  refine z_iconst (v := 0) F dX3_hintOfRoute_12 (by decide +kernel) ?_
  refine z_istore (L' := [(7, .int 0), (6, .int (-1000000)), (5, .int v5_1), (0, .ref (ad 47)), (1, .ref (ad 7)), (2, .int a2), (3, .int a3), (4, .int a4)]) F dX3_hintOfRoute_13 (Nat.le_of_ble_eq_true rfl) rfl ?_
  exact z_sub [3, 4, 6, 7, 2, 1, 0] rfl (z_X3_hintOfRoute_15 F n X n a3 a4 v5_1 (-1000000) 0 hf)
theorem c_X3_hintOfRoute {D : va_G} {cI : ClassId} {ad : Nat → Nat} {r : Int32} (n : Nat) (X : KX) (a2 : Int32) (a3 : Int32) (a4 : Int32) (hf : f_X3_hintOfRoute n X a2 a3 a4 = some r) : zMI (yK D cI ad) yX3_hintOfRoute cX3_hintOfRoute 8 (some .int) 4 [.ref (ad 47), .ref (ad 7), .int a2, .int a3, .int a4] X (r, X) := zMI_of (by decide +kernel) (Nat.le_of_ble_eq_true rfl) (fun z F => z_sub [0, 1, 2, 3, 4] rfl (z_X3_hintOfRoute F n X a2 a3 a4 hf))
theorem k_X3_hintOfRoute {z : ZC} {D : va_G} {cI : ClassId} {ad : Nat → Nat} {cc : ByteArray} {own : String} {nL d pc index : Nat} {ret : Option FieldType} {Q : State → Prop} {X : KX} {L : List (Nat × Value)} {rest : List Value} {n : Nat} {a2 a3 a4 : Int32} (F : ZF z (yK D cI ad) cc own nL ret d) (hd : 4 + 1 ≤ d) (hw : Cond.methodLink own index yX3_hintOfRoute ∈ wsA) (hst : (rest.map fun v => v.category).sum ≤ 8) {β : Type} {e : Int32 → Option β} {r : β} (hf : zB1 (f_X3_hintOfRoute n X a2 a3 a4) e = some r) (hdg : decode cc pc = .ok (.invokevirtual index, 3)) (kk : ∀ v : Int32, e v = some r → Z z (yK D cI ad) nL Q X (pc + 3) L (.int v :: rest)) : Z z (yK D cI ad) nL Q X pc L (.int a4 :: .int a3 :: .int a2 :: .ref (ad 7) :: .ref (ad 47) :: rest) := by
  obtain ⟨v, h1, h2⟩ := zB1_some hf
  exact z_cVI (As := [.ref (ad 7), .int a2, .int a3, .int a4]) F (c_X3_hintOfRoute n X a2 a3 a4 h1) kn_X3_hintOfRoute kv_X3_hintOfRoute hw (q0 := 47) rfl rfl hd rfl hst hdg rfl (kk v h2)
theorem kv_X6_route : zKv yX6_route := ⟨wm_558, wm_559⟩
theorem kn_X6_route : zKn yX6_route cX6_route 5 (some .int) 3 := ⟨wm_560, wm_55, by decide +kernel, by decide⟩
set_option maxHeartbeats 4000000 in
set_option maxRecDepth 100000 in
theorem z_X6_route_68 {z : ZC} {D : va_G} {cI : ClassId} {ad : Nat → Nat} {R : Int32 × KX} (F : ZF z (yK D cI ad) cX6_route RX6 5 (some .int) 5) (n : Nat) (X : KX) (s0 : Int32) (s1 : Int32) (v1 : Int32) (v3 : Int32) (hf : f_X6_route_68 n X s0 s1 v1 v3 = some R) : Z z (yK D cI ad) 5 (zQI z (yK D cI ad) R) X 68 [(0, .ref (ad 0)), (1, .int v1), (3, .int v3)] [.int s0, .int s1, .ref (ad 7), .ref (ad 47)] := by
  unfold f_X6_route_68 at hf
  refine k_X3_measure F (by decide) wm_569 (Nat.le_of_ble_eq_true rfl) hf dX6_route_68 (fun X_1 hf => ?_)
  refine z_aload_n F dX6_route_71 0 rfl rfl ?_
  refine gK_0_7 F wm_281 dX6_route_72 ?_
  refine z_aload_n F dX6_route_75 0 rfl rfl ?_
  refine gK_0_2 F wm_276 dX6_route_76 ?_
  refine gK_7_10 F wm_163 dX6_route_79 ?_
  refine z_iload_n F dX6_route_82 1 rfl rfl ?_
  refine lK_12 F hf dX6_route_83 (fun hf => ?_)
  refine z_aload_n F dX6_route_84 0 rfl rfl ?_
  refine gK_0_2 F wm_276 dX6_route_85 ?_
  refine z_iload_n F dX6_route_88 1 rfl rfl ?_
  refine k_X2_leftAhead F (by decide) wm_580 (Nat.le_of_ble_eq_true rfl) dX6_route_89 ?_
  refine k_X3_fewestFrom F (by decide) wm_585 (Nat.le_of_ble_eq_true rfl) hf dX6_route_92 (fun r_2 hf => ?_)
  refine z_istore (L' := [(4, .int r_2), (0, .ref (ad 0)), (1, .int v1), (3, .int v3)]) F dX6_route_95 (Nat.le_of_ble_eq_true rfl) rfl ?_
  refine z_iload F dX6_route_97 0 rfl ?_
  refine z_ldc F wm_590 dX6_route_99 ?_
  refine z_icmp_eq (tgt := 109) F hf dX6_route_101 (by decide) (fun hf => ?_) (fun hf => ?_)
  · refine z_iload F dX6_route_109 0 rfl ?_
    exact z_iret F dX6_route_111 (Option.some.inj hf)
  · refine z_iload_n F dX6_route_104 3 rfl rfl ?_
    refine z_iconst (v := (-1)) F dX6_route_105 (by decide +kernel) ?_
    refine z_icmp_ne (tgt := 112) F hf dX6_route_106 (by decide) (fun hf => ?_) (fun hf => ?_)
    · refine z_iload_n F dX6_route_112 3 rfl rfl ?_
      refine z_iload F dX6_route_113 0 rfl ?_
      refine z_icmp_ge (tgt := 136) F hf dX6_route_115 (by decide) (fun hf => ?_) (fun hf => ?_)
      · refine z_ldc F wm_590 dX6_route_136 ?_
        exact z_iret F dX6_route_138 (Option.some.inj hf)
      · refine z_aload_n F dX6_route_118 1 rfl rfl ?_
        refine gK_0_7 F wm_281 dX6_route_119 ?_
        refine z_aload_n F dX6_route_122 1 rfl rfl ?_
        refine gK_0_2 F wm_276 dX6_route_123 ?_
        refine z_iload_n F dX6_route_126 2 rfl rfl ?_
        refine z_iload F dX6_route_127 0 rfl ?_
        refine z_iload_n F dX6_route_129 3 rfl rfl ?_
        refine k_X3_hintOfRoute F (by decide) wm_591 (Nat.le_of_ble_eq_true rfl) hf dX6_route_130 (fun r_3 hf => ?_)
        refine z_goto (tgt := 138) F dX6_route_133 (by decide) ?_
        exact z_iret F dX6_route_138 (Option.some.inj hf)
    · refine z_iload F dX6_route_109 0 rfl ?_
      exact z_iret F dX6_route_111 (Option.some.inj hf)
set_option maxHeartbeats 4000000 in
set_option maxRecDepth 100000 in
theorem z_X6_route {z : ZC} {D : va_G} {cI : ClassId} {ad : Nat → Nat} {R : Int32 × KX} (F : ZF z (yK D cI ad) cX6_route RX6 5 (some .int) 5) (n : Nat) (X : KX) (a1 : Int32) (a2 : Int32) (a3 : Int32) (hf : f_X6_route n X a1 a2 a3 = some R) : Z z (yK D cI ad) 5 (zQI z (yK D cI ad) R) X 0 [(0, .ref (ad 0)), (1, .int a1), (2, .int a2), (3, .int a3)] [] := by
  unfold f_X6_route at hf
  refine z_aload_n F dX6_route_0 0 rfl rfl ?_
  refine gK_0_2 F wm_276 dX6_route_1 ?_
  refine z_iload_n F dX6_route_4 1 rfl rfl ?_
  refine k_X2_isGuest F (by decide) wm_445 (Nat.le_of_ble_eq_true rfl) dX6_route_5 ?_
  refine z_if_eq (tgt := 24) F hf dX6_route_8 (by decide) (fun hf => ?_) (fun hf => ?_)
  · refine z_ldc F wm_315 dX6_route_24 ?_
    exact z_iret F dX6_route_26 (Option.some.inj hf)
  · refine z_iload_n F dX6_route_11 2 rfl rfl ?_
    refine z_iconst (v := 2) F dX6_route_12 (by decide +kernel) ?_
    refine k_X6_isBelow F (by decide) wm_312 (Nat.le_of_ble_eq_true rfl) dX6_route_13 ?_
    refine z_if_eq (tgt := 24) F hf dX6_route_16 (by decide) (fun hf => ?_) (fun hf => ?_)
    · refine z_ldc F wm_315 dX6_route_24 ?_
      exact z_iret F dX6_route_26 (Option.some.inj hf)
    · refine z_iload_n F dX6_route_19 3 rfl rfl ?_
      refine z_iconst (v := (-1)) F dX6_route_20 (by decide +kernel) ?_
      refine z_icmp_ge (tgt := 27) F hf dX6_route_21 (by decide) (fun hf => ?_) (fun hf => ?_)
      · refine z_aload_n F dX6_route_27 0 rfl rfl ?_
        refine gK_0_2 F wm_276 dX6_route_28 ?_
        refine z_iload_n F dX6_route_31 1 rfl rfl ?_
        refine k_X2_stateOf F (by decide) wm_450 (Nat.le_of_ble_eq_true rfl) dX6_route_32 ?_
        refine z_iconst (v := 2) F dX6_route_35 (by decide +kernel) ?_
        refine z_icmp_ne (tgt := 42) F hf dX6_route_36 (by decide) (fun hf => ?_) (fun hf => ?_)
        · refine z_aload_n F dX6_route_42 0 rfl rfl ?_
          refine gK_0_7 F wm_281 dX6_route_43 ?_
          refine z_aload_n F dX6_route_46 0 rfl rfl ?_
          refine gK_0_2 F wm_276 dX6_route_47 ?_
          refine z_aload_n F dX6_route_50 0 rfl rfl ?_
          refine gK_0_2 F wm_276 dX6_route_51 ?_
          refine z_iload_n F dX6_route_54 1 rfl rfl ?_
          refine k_X2_hintsAhead F (by decide) wm_561 (Nat.le_of_ble_eq_true rfl) dX6_route_55 ?_
          refine z_iload_n F dX6_route_58 2 rfl rfl ?_
          refine z_iconst (v := 1) F dX6_route_59 (by decide +kernel) ?_
          refine z_icmp_ne (tgt := 67) F hf dX6_route_60 (by decide) (fun hf => ?_) (fun hf => ?_)
          · refine z_iconst (v := 0) F dX6_route_67 (by decide +kernel) ?_
            exact z_sub [0, 1, 3] rfl (z_X6_route_68 F n X 0 (f_X2_hintsAhead X a1) a1 a3 hf)
          · refine z_iconst (v := 1) F dX6_route_63 (by decide +kernel) ?_
            refine z_goto (tgt := 68) F dX6_route_64 (by decide) ?_
            exact z_sub [0, 1, 3] rfl (z_X6_route_68 F n X 1 (f_X2_hintsAhead X a1) a1 a3 hf)
        · refine z_ldc F wm_457 dX6_route_39 ?_
          exact z_iret F dX6_route_41 (Option.some.inj hf)
      · refine z_ldc F wm_315 dX6_route_24 ?_
        exact z_iret F dX6_route_26 (Option.some.inj hf)
theorem c_X6_route {D : va_G} {cI : ClassId} {ad : Nat → Nat} {R : Int32 × KX} (n : Nat) (X : KX) (a1 : Int32) (a2 : Int32) (a3 : Int32) (hf : f_X6_route n X a1 a2 a3 = some R) : zMI (yK D cI ad) yX6_route cX6_route 5 (some .int) 5 [.ref (ad 0), .int a1, .int a2, .int a3] X R := zMI_of (by decide +kernel) (Nat.le_of_ble_eq_true rfl) (fun z F => z_sub [0, 1, 2, 3] rfl (z_X6_route F n X a1 a2 a3 hf))
theorem k_X6_route {z : ZC} {D : va_G} {cI : ClassId} {ad : Nat → Nat} {cc : ByteArray} {own : String} {nL d pc index : Nat} {ret : Option FieldType} {Q : State → Prop} {X : KX} {L : List (Nat × Value)} {rest : List Value} {n : Nat} {a1 a2 a3 : Int32} (F : ZF z (yK D cI ad) cc own nL ret d) (hd : 5 + 1 ≤ d) (hw : Cond.methodLink own index yX6_route ∈ wsA) (hst : (rest.map fun v => v.category).sum ≤ 8) {β : Type} {e : Int32 → KX → Option β} {r : β} (hf : zB2 (f_X6_route n X a1 a2 a3) e = some r) (hdg : decode cc pc = .ok (.invokevirtual index, 3)) (kk : ∀ (v : Int32) (X2 : KX), e v X2 = some r → Z z (yK D cI ad) nL Q X2 (pc + 3) L (.int v :: rest)) : Z z (yK D cI ad) nL Q X pc L (.int a3 :: .int a2 :: .int a1 :: .ref (ad 0) :: rest) := by
  obtain ⟨v, X2, h1, h2⟩ := zB2_some hf
  exact z_cVI (As := [.int a1, .int a2, .int a3]) F (c_X6_route n X a1 a2 a3 h1) kn_X6_route kv_X6_route hw (q0 := 0) rfl rfl hd rfl hst hdg rfl (kk v X2 h2)
theorem kv_X3_thoughtsWithin : Cond.static yX3_thoughtsWithin ∈ wsA := wm_605
theorem kn_X3_thoughtsWithin : zKn yX3_thoughtsWithin cX3_thoughtsWithin 8 (some .int) 4 := ⟨wm_606, wm_60, by decide +kernel, by decide⟩
set_option maxHeartbeats 4000000 in
set_option maxRecDepth 100000 in
theorem z_X3_thoughtsWithin_106 {z : ZC} {D : va_G} {cI : ClassId} {ad : Nat → Nat} {r : Int32} {k8 : Int32 → Int32 → Int32 → Int32 → Option Int32} {k21 : Int32 → Int32 → Int32 → Int32 → Int32 → Int32 → Option Int32} (F : ZF z (yK D cI ad) cX3_thoughtsWithin RX3 8 (some .int) 2) (n : Nat) (X : KX) (hk8 : ∀ (v2 : Int32) (v3 : Int32) (v4 : Int32) (v5 : Int32), k8 v2 v3 v4 v5 = some r → Z z (yK D cI ad) 8 (zQI z (yK D cI ad) (r, X)) X 8 [(0, .ref (ad 7)), (2, .int v2), (3, .int v3), (4, .int v4), (5, .int v5)] []) (hk21 : ∀ (v2 : Int32) (v3 : Int32) (v4 : Int32) (v5 : Int32) (v6 : Int32) (v7 : Int32), k21 v2 v3 v4 v5 v6 v7 = some r → Z z (yK D cI ad) 8 (zQI z (yK D cI ad) (r, X)) X 21 [(0, .ref (ad 7)), (2, .int v2), (3, .int v3), (4, .int v4), (5, .int v5), (6, .int v6), (7, .int v7)] []) (v2 : Int32) (v3 : Int32) (v4 : Int32) (v5 : Int32) (v6 : Int32) (v7 : Int32) (hf : f_X3_thoughtsWithin_106 n X k8 k21 v2 v3 v4 v5 v6 v7 = some r) : Z z (yK D cI ad) 8 (zQI z (yK D cI ad) (r, X)) X 106 [(0, .ref (ad 7)), (2, .int v2), (3, .int v3), (4, .int v4), (5, .int v5), (6, .int v6), (7, .int v7)] [] := by
  unfold f_X3_thoughtsWithin_106 at hf
  refine z_iinc (w := 1) (L' := fun v7_1 => [(7, .int v7_1), (0, .ref (ad 7)), (2, .int v2), (3, .int v3), (4, .int v4), (5, .int v5), (6, .int v6)]) F hf dX3_thoughtsWithin_106 6 rfl (by decide +kernel) (Nat.le_of_ble_eq_true rfl) (fun _ => rfl) (fun v7_1 hf => ?_)
  refine z_goto (tgt := 21) F dX3_thoughtsWithin_109 (by decide) ?_
  exact z_sub [1, 2, 3, 4, 5, 6, 0] rfl (hk21 v2 v3 v4 v5 v6 v7_1 hf)
set_option maxHeartbeats 4000000 in
set_option maxRecDepth 100000 in
theorem z_X3_thoughtsWithin_103 {z : ZC} {D : va_G} {cI : ClassId} {ad : Nat → Nat} {r : Int32} {k8 : Int32 → Int32 → Int32 → Int32 → Option Int32} {k21 : Int32 → Int32 → Int32 → Int32 → Int32 → Int32 → Option Int32} (F : ZF z (yK D cI ad) cX3_thoughtsWithin RX3 8 (some .int) 2) (n : Nat) (X : KX) (hk8 : ∀ (v2 : Int32) (v3 : Int32) (v4 : Int32) (v5 : Int32), k8 v2 v3 v4 v5 = some r → Z z (yK D cI ad) 8 (zQI z (yK D cI ad) (r, X)) X 8 [(0, .ref (ad 7)), (2, .int v2), (3, .int v3), (4, .int v4), (5, .int v5)] []) (hk21 : ∀ (v2 : Int32) (v3 : Int32) (v4 : Int32) (v5 : Int32) (v6 : Int32) (v7 : Int32), k21 v2 v3 v4 v5 v6 v7 = some r → Z z (yK D cI ad) 8 (zQI z (yK D cI ad) (r, X)) X 21 [(0, .ref (ad 7)), (2, .int v2), (3, .int v3), (4, .int v4), (5, .int v5), (6, .int v6), (7, .int v7)] []) (s0 : Int32) (s1 : Int32) (v2 : Int32) (v3 : Int32) (v4 : Int32) (v5 : Int32) (v7 : Int32) (hf : f_X3_thoughtsWithin_103 n X k8 k21 s0 s1 v2 v3 v4 v5 v7 = some r) : Z z (yK D cI ad) 8 (zQI z (yK D cI ad) (r, X)) X 103 [(0, .ref (ad 7)), (2, .int v2), (3, .int v3), (4, .int v4), (5, .int v5), (7, .int v7)] [.int s0, .int s1] := by
  unfold f_X3_thoughtsWithin_103 at hf
  refine z_ior F dX3_thoughtsWithin_103 ?_
  refine z_top hf (fun v6_1 hf => ?_)
  refine z_istore (L' := [(6, .int v6_1), (0, .ref (ad 7)), (2, .int v2), (3, .int v3), (4, .int v4), (5, .int v5), (7, .int v7)]) F dX3_thoughtsWithin_104 (Nat.le_of_ble_eq_true rfl) rfl ?_
  exact z_sub [1, 2, 3, 4, 5, 0, 6] rfl (z_X3_thoughtsWithin_106 F n X hk8 hk21 v2 v3 v4 v5 v6_1 v7 hf)
set_option maxHeartbeats 4000000 in
set_option maxRecDepth 100000 in
theorem z_X3_thoughtsWithin_73 {z : ZC} {D : va_G} {cI : ClassId} {ad : Nat → Nat} {r : Int32} {k8 : Int32 → Int32 → Int32 → Int32 → Option Int32} {k21 : Int32 → Int32 → Int32 → Int32 → Int32 → Int32 → Option Int32} (F : ZF z (yK D cI ad) cX3_thoughtsWithin RX3 8 (some .int) 2) (n : Nat) (X : KX) (hk8 : ∀ (v2 : Int32) (v3 : Int32) (v4 : Int32) (v5 : Int32), k8 v2 v3 v4 v5 = some r → Z z (yK D cI ad) 8 (zQI z (yK D cI ad) (r, X)) X 8 [(0, .ref (ad 7)), (2, .int v2), (3, .int v3), (4, .int v4), (5, .int v5)] []) (hk21 : ∀ (v2 : Int32) (v3 : Int32) (v4 : Int32) (v5 : Int32) (v6 : Int32) (v7 : Int32), k21 v2 v3 v4 v5 v6 v7 = some r → Z z (yK D cI ad) 8 (zQI z (yK D cI ad) (r, X)) X 21 [(0, .ref (ad 7)), (2, .int v2), (3, .int v3), (4, .int v4), (5, .int v5), (6, .int v6), (7, .int v7)] []) (s0 : Int32) (s1 : Int32) (v2 : Int32) (v3 : Int32) (v4 : Int32) (v5 : Int32) (v7 : Int32) (hf : f_X3_thoughtsWithin_73 n X k8 k21 s0 s1 v2 v3 v4 v5 v7 = some r) : Z z (yK D cI ad) 8 (zQI z (yK D cI ad) (r, X)) X 73 [(0, .ref (ad 7)), (2, .int v2), (3, .int v3), (4, .int v4), (5, .int v5), (7, .int v7)] [.int s0, .int s1] := by
  unfold f_X3_thoughtsWithin_73 at hf
  refine z_ior F dX3_thoughtsWithin_73 ?_
  refine z_top hf (fun v6_1 hf => ?_)
  refine z_istore (L' := [(6, .int v6_1), (0, .ref (ad 7)), (2, .int v2), (3, .int v3), (4, .int v4), (5, .int v5), (7, .int v7)]) F dX3_thoughtsWithin_74 (Nat.le_of_ble_eq_true rfl) rfl ?_
  refine z_iload F dX3_thoughtsWithin_76 0 rfl ?_
  refine z_iload F dX3_thoughtsWithin_78 4 rfl ?_
  refine z_aload_n F dX3_thoughtsWithin_80 1 rfl rfl ?_
  refine z_iload F dX3_thoughtsWithin_81 6 rfl ?_
  refine k_X2_back F (by decide) wm_579 (Nat.le_of_ble_eq_true rfl) hf dX3_thoughtsWithin_83 (fun r_2 hf => ?_)
  refine z_iand F dX3_thoughtsWithin_86 ?_
  refine z_if_eq (tgt := 102) F hf dX3_thoughtsWithin_87 (by decide) (fun hf => ?_) (fun hf => ?_)
  · refine z_iconst (v := 0) F dX3_thoughtsWithin_102 (by decide +kernel) ?_
    exact z_sub [1, 2, 3, 4, 5, 6] rfl (z_X3_thoughtsWithin_103 F n X hk8 hk21 0 v6_1 v2 v3 v4 v5 v7 hf)
  · refine z_iconst (v := 1) F dX3_thoughtsWithin_90 (by decide +kernel) ?_
    refine z_aload_n F dX3_thoughtsWithin_91 1 rfl rfl ?_
    refine gK_7_7 F wm_148 dX3_thoughtsWithin_92 ?_
    refine z_iload F dX3_thoughtsWithin_95 6 rfl ?_
    refine lK_9 F hf dX3_thoughtsWithin_97 (fun hf => ?_)
    refine z_ishl F dX3_thoughtsWithin_98 ?_
    refine z_goto (tgt := 103) F dX3_thoughtsWithin_99 (by decide) ?_
    exact z_sub [1, 2, 3, 4, 5, 6] rfl (z_X3_thoughtsWithin_103 F n X hk8 hk21 (zShl 1 (X 9 v7.toNatClampNeg)) v6_1 v2 v3 v4 v5 v7 hf)
set_option maxHeartbeats 4000000 in
set_option maxRecDepth 100000 in
theorem z_X3_thoughtsWithin_21 {z : ZC} {D : va_G} {cI : ClassId} {ad : Nat → Nat} {r : Int32} {k8 : Int32 → Int32 → Int32 → Int32 → Option Int32} (F : ZF z (yK D cI ad) cX3_thoughtsWithin RX3 8 (some .int) 2) (n : Nat) (X : KX) (hk8 : ∀ (v2 : Int32) (v3 : Int32) (v4 : Int32) (v5 : Int32), k8 v2 v3 v4 v5 = some r → Z z (yK D cI ad) 8 (zQI z (yK D cI ad) (r, X)) X 8 [(0, .ref (ad 7)), (2, .int v2), (3, .int v3), (4, .int v4), (5, .int v5)] []) : ∀ (t : Nat) (v2 : Int32) (v3 : Int32) (v4 : Int32) (v5 : Int32) (v6 : Int32) (v7 : Int32), f_X3_thoughtsWithin_21 n X k8 t v2 v3 v4 v5 v6 v7 = some r → Z z (yK D cI ad) 8 (zQI z (yK D cI ad) (r, X)) X 21 [(0, .ref (ad 7)), (2, .int v2), (3, .int v3), (4, .int v4), (5, .int v5), (6, .int v6), (7, .int v7)] [] := by
  intro t
  induction t with
  | zero => intro v2 v3 v4 v5 v6 v7 hf; rw [f_X3_thoughtsWithin_21] at hf; exact zNone hf
  | succ t ih =>
    intro v2 v3 v4 v5 v6 v7 hf
    rw [f_X3_thoughtsWithin_21] at hf
    refine z_iload F dX3_thoughtsWithin_21 6 rfl ?_
    refine z_aload_n F dX3_thoughtsWithin_23 0 rfl rfl ?_
    refine gK_7_4 F wm_136 dX3_thoughtsWithin_24 ?_
    refine z_icmp_ge (tgt := 112) F hf dX3_thoughtsWithin_27 (by decide) (fun hf => ?_) (fun hf => ?_)
    · refine z_iload F dX3_thoughtsWithin_112 5 rfl ?_
      refine z_istore (L' := [(4, .int v6), (0, .ref (ad 7)), (2, .int v2), (3, .int v3), (5, .int v5), (6, .int v6), (7, .int v7)]) F dX3_thoughtsWithin_114 (Nat.le_of_ble_eq_true rfl) rfl ?_
      refine z_iinc (w := 1) (L' := fun v5_1 => [(5, .int v5_1), (4, .int v6), (0, .ref (ad 7)), (2, .int v2), (3, .int v3), (6, .int v6), (7, .int v7)]) F hf dX3_thoughtsWithin_116 4 rfl (by decide +kernel) (Nat.le_of_ble_eq_true rfl) (fun _ => rfl) (fun v5_1 hf => ?_)
      refine z_goto (tgt := 8) F dX3_thoughtsWithin_119 (by decide) ?_
      exact z_sub [2, 3, 4, 1, 0] rfl (hk8 v2 v3 v6 v5_1 hf)
    · refine z_iload_n F dX3_thoughtsWithin_30 1 rfl rfl ?_
      refine z_iload F dX3_thoughtsWithin_31 6 rfl ?_
      refine k_X6_hasN F (by decide) (fun _ h => h.2.2.1) (Nat.le_of_ble_eq_true rfl) dX3_thoughtsWithin_33 ?_
      refine z_if_eq (tgt := 106) F hf dX3_thoughtsWithin_36 (by decide) (fun hf => ?_) (fun hf => ?_)
      · exact z_sub [0, 1, 2, 3, 4, 5, 6] rfl (z_X3_thoughtsWithin_106 F n X hk8 ih v2 v3 v4 v5 v6 v7 hf)
      · refine z_iload F dX3_thoughtsWithin_39 5 rfl ?_
        refine z_iload F dX3_thoughtsWithin_41 3 rfl ?_
        refine z_aload_n F dX3_thoughtsWithin_43 0 rfl rfl ?_
        refine z_iload F dX3_thoughtsWithin_44 6 rfl ?_
        refine z_aload_n F dX3_thoughtsWithin_46 0 rfl rfl ?_
        refine gK_7_9 F wm_157 dX3_thoughtsWithin_47 ?_
        refine z_iload F dX3_thoughtsWithin_50 6 rfl ?_
        refine lK_11 F hf dX3_thoughtsWithin_52 (fun hf => ?_)
        refine k_X2_forth F (by decide) wm_578 (Nat.le_of_ble_eq_true rfl) hf dX3_thoughtsWithin_53 (fun r_2 hf => ?_)
        refine z_iand F dX3_thoughtsWithin_56 ?_
        refine z_if_eq (tgt := 72) F hf dX3_thoughtsWithin_57 (by decide) (fun hf => ?_) (fun hf => ?_)
        · refine z_iconst (v := 0) F dX3_thoughtsWithin_72 (by decide +kernel) ?_
          exact z_sub [0, 1, 2, 3, 4, 6] rfl (z_X3_thoughtsWithin_73 F n X hk8 ih 0 v6 v2 v3 v4 v5 v7 hf)
        · refine z_iconst (v := 1) F dX3_thoughtsWithin_60 (by decide +kernel) ?_
          refine z_aload_n F dX3_thoughtsWithin_61 0 rfl rfl ?_
          refine gK_7_8 F wm_153 dX3_thoughtsWithin_62 ?_
          refine z_iload F dX3_thoughtsWithin_65 6 rfl ?_
          refine lK_10 F hf dX3_thoughtsWithin_67 (fun hf => ?_)
          refine z_ishl F dX3_thoughtsWithin_68 ?_
          refine z_goto (tgt := 73) F dX3_thoughtsWithin_69 (by decide) ?_
          exact z_sub [0, 1, 2, 3, 4, 6] rfl (z_X3_thoughtsWithin_73 F n X hk8 ih (zShl 1 (X 10 v7.toNatClampNeg)) v6 v2 v3 v4 v5 v7 hf)
set_option maxHeartbeats 4000000 in
set_option maxRecDepth 100000 in
theorem z_X3_thoughtsWithin_8 {z : ZC} {D : va_G} {cI : ClassId} {ad : Nat → Nat} {r : Int32} (F : ZF z (yK D cI ad) cX3_thoughtsWithin RX3 8 (some .int) 2) (n : Nat) (X : KX) : ∀ (t : Nat) (v2 : Int32) (v3 : Int32) (v4 : Int32) (v5 : Int32), f_X3_thoughtsWithin_8 n X t v2 v3 v4 v5 = some r → Z z (yK D cI ad) 8 (zQI z (yK D cI ad) (r, X)) X 8 [(0, .ref (ad 7)), (2, .int v2), (3, .int v3), (4, .int v4), (5, .int v5)] [] := by
  intro t
  induction t with
  | zero => intro v2 v3 v4 v5 hf; rw [f_X3_thoughtsWithin_8] at hf; exact zNone hf
  | succ t ih =>
    intro v2 v3 v4 v5 hf
    rw [f_X3_thoughtsWithin_8] at hf
    refine z_iload F dX3_thoughtsWithin_8 4 rfl ?_
    refine z_iload_n F dX3_thoughtsWithin_10 2 rfl rfl ?_
    refine z_icmp_ge (tgt := 122) F hf dX3_thoughtsWithin_11 (by decide) (fun hf => ?_) (fun hf => ?_)
    · refine z_iload F dX3_thoughtsWithin_122 3 rfl ?_
      exact z_iret F dX3_thoughtsWithin_124 (Prod.ext (Option.some.inj hf) rfl)
    · refine z_iload F dX3_thoughtsWithin_14 3 rfl ?_
      refine z_istore (L' := [(6, .int v4), (0, .ref (ad 7)), (2, .int v2), (3, .int v3), (4, .int v4), (5, .int v5)]) F dX3_thoughtsWithin_16 (Nat.le_of_ble_eq_true rfl) rfl ?_
      refine z_iconst (v := 0) F dX3_thoughtsWithin_18 (by decide +kernel) ?_
      refine z_istore (L' := [(7, .int 0), (6, .int v4), (0, .ref (ad 7)), (2, .int v2), (3, .int v3), (4, .int v4), (5, .int v5)]) F dX3_thoughtsWithin_19 (Nat.le_of_ble_eq_true rfl) rfl ?_
      exact z_sub [2, 3, 4, 5, 6, 1, 0] rfl (z_X3_thoughtsWithin_21 F n X ih n v2 v3 v4 v5 v4 0 hf)
set_option maxHeartbeats 4000000 in
set_option maxRecDepth 100000 in
theorem z_X3_thoughtsWithin {z : ZC} {D : va_G} {cI : ClassId} {ad : Nat → Nat} {r : Int32} (F : ZF z (yK D cI ad) cX3_thoughtsWithin RX3 8 (some .int) 2) (n : Nat) (X : KX) (a1 : Int32) (a2 : Int32) (a3 : Int32) (hf : f_X3_thoughtsWithin n X a1 a2 a3 = some r) : Z z (yK D cI ad) 8 (zQI z (yK D cI ad) (r, X)) X 0 [(0, .ref (ad 7)), (1, .int a1), (2, .int a2), (3, .int a3)] [] := by
  unfold f_X3_thoughtsWithin at hf
  refine z_iconst (v := 1) F dX3_thoughtsWithin_0 (by decide +kernel) ?_
  refine z_iload_n F dX3_thoughtsWithin_1 1 rfl rfl ?_
  refine z_ishl F dX3_thoughtsWithin_2 ?_
  refine z_top hf (fun v4_1 hf => ?_)
  refine z_istore (L' := [(4, .int v4_1), (0, .ref (ad 7)), (1, .int a1), (2, .int a2), (3, .int a3)]) F dX3_thoughtsWithin_3 (Nat.le_of_ble_eq_true rfl) rfl ?_
  refine z_iconst (v := 0) F dX3_thoughtsWithin_5 (by decide +kernel) ?_
  refine z_istore (L' := [(5, .int 0), (4, .int v4_1), (0, .ref (ad 7)), (1, .int a1), (2, .int a2), (3, .int a3)]) F dX3_thoughtsWithin_6 (Nat.le_of_ble_eq_true rfl) rfl ?_
  exact z_sub [2, 4, 5, 1, 0] rfl (z_X3_thoughtsWithin_8 F n X n a2 a3 v4_1 0 hf)
theorem c_X3_thoughtsWithin {D : va_G} {cI : ClassId} {ad : Nat → Nat} {r : Int32} (n : Nat) (X : KX) (a1 : Int32) (a2 : Int32) (a3 : Int32) (hf : f_X3_thoughtsWithin n X a1 a2 a3 = some r) : zMI (yK D cI ad) yX3_thoughtsWithin cX3_thoughtsWithin 8 (some .int) 2 [.ref (ad 7), .int a1, .int a2, .int a3] X (r, X) := zMI_of (by decide +kernel) (Nat.le_of_ble_eq_true rfl) (fun z F => z_sub [0, 1, 2, 3] rfl (z_X3_thoughtsWithin F n X a1 a2 a3 hf))
theorem k_X3_thoughtsWithin {z : ZC} {D : va_G} {cI : ClassId} {ad : Nat → Nat} {cc : ByteArray} {own : String} {nL d pc index : Nat} {ret : Option FieldType} {Q : State → Prop} {X : KX} {L : List (Nat × Value)} {rest : List Value} {n : Nat} {a1 a2 a3 : Int32} (F : ZF z (yK D cI ad) cc own nL ret d) (hd : 2 + 1 ≤ d) (hw : Cond.methodLink own index yX3_thoughtsWithin ∈ wsA) (hst : (rest.map fun v => v.category).sum ≤ 8) {β : Type} {e : Int32 → Option β} {r : β} (hf : zB1 (f_X3_thoughtsWithin n X a1 a2 a3) e = some r) (hdg : decode cc pc = .ok (.invokestatic index, 3)) (kk : ∀ v : Int32, e v = some r → Z z (yK D cI ad) nL Q X (pc + 3) L (.int v :: rest)) : Z z (yK D cI ad) nL Q X pc L (.int a3 :: .int a2 :: .int a1 :: .ref (ad 7) :: rest) := by
  obtain ⟨v, h1, h2⟩ := zB1_some hf
  exact z_cSI (As := [.ref (ad 7), .int a1, .int a2, .int a3]) F (c_X3_thoughtsWithin n X a1 a2 a3 h1) kn_X3_thoughtsWithin kv_X3_thoughtsWithin hw hd rfl hst hdg rfl (kk v h2)
theorem k_X3_thoughtsWithinN {z : ZC} {D : va_G} {cI : ClassId} {ad : Nat → Nat} {cc : ByteArray} {own : String} {nL d pc index : Nat} {ret : Option FieldType} {Q : State → Prop} {X : KX} {L : List (Nat × Value)} {rest : List Value} {n : Nat} {a1 a2 a3 : Int32} (F : ZF z (yK D cI ad) cc own nL ret d) (hd : 2 + 1 ≤ d) (hw : ∀ s, zN s → va_Nw (.methodLinkNest own index yX3_thoughtsWithin "AilingKing") s) (hst : (rest.map fun v => v.category).sum ≤ 8) {β : Type} {e : Int32 → Option β} {r : β} (hf : zB1 (f_X3_thoughtsWithin n X a1 a2 a3) e = some r) (hdg : decode cc pc = .ok (.invokestatic index, 3)) (kk : ∀ v : Int32, e v = some r → Z z (yK D cI ad) nL Q X (pc + 3) L (.int v :: rest)) : Z z (yK D cI ad) nL Q X pc L (.int a3 :: .int a2 :: .int a1 :: .ref (ad 7) :: rest) := by
  obtain ⟨v, h1, h2⟩ := zB1_some hf
  exact z_cNI (As := [.ref (ad 7), .int a1, .int a2, .int a3]) F (c_X3_thoughtsWithin n X a1 a2 a3 h1) kn_X3_thoughtsWithin kv_X3_thoughtsWithin hw hd rfl hst hdg rfl (kk v h2)
theorem kv_X6_thinkable : zKv yX6_thinkable := ⟨wm_601, wm_602⟩
theorem kn_X6_thinkable : zKn yX6_thinkable cX6_thinkable 2 (some .int) 1 := ⟨wm_603, wm_55, by decide +kernel, by decide⟩
set_option maxHeartbeats 4000000 in
set_option maxRecDepth 100000 in
theorem z_X6_thinkable {z : ZC} {D : va_G} {cI : ClassId} {ad : Nat → Nat} {r : Int32} (F : ZF z (yK D cI ad) cX6_thinkable RX6 2 (some .int) 3) (n : Nat) (X : KX) (a1 : Int32) (hf : f_X6_thinkable n X a1 = some r) : Z z (yK D cI ad) 2 (zQI z (yK D cI ad) (r, X)) X 0 [(0, .ref (ad 0)), (1, .int a1)] [] := by
  unfold f_X6_thinkable at hf
  refine z_aload_n F dX6_thinkable_0 0 rfl rfl ?_
  refine gK_0_2 F wm_276 dX6_thinkable_1 ?_
  refine z_iload_n F dX6_thinkable_4 1 rfl rfl ?_
  refine k_X2_isGuest F (by decide) wm_445 (Nat.le_of_ble_eq_true rfl) dX6_thinkable_5 ?_
  refine z_if_ne (tgt := 14) F hf dX6_thinkable_8 (by decide) (fun hf => ?_) (fun hf => ?_)
  · refine z_aload_n F dX6_thinkable_14 0 rfl rfl ?_
    refine gK_0_2 F wm_276 dX6_thinkable_15 ?_
    refine z_iload_n F dX6_thinkable_18 1 rfl rfl ?_
    refine k_X2_stateOf F (by decide) wm_450 (Nat.le_of_ble_eq_true rfl) dX6_thinkable_19 ?_
    refine z_iconst (v := 2) F dX6_thinkable_22 (by decide +kernel) ?_
    refine z_icmp_ne (tgt := 29) F hf dX6_thinkable_23 (by decide) (fun hf => ?_) (fun hf => ?_)
    · refine z_aload_n F dX6_thinkable_29 0 rfl rfl ?_
      refine gK_0_2 F wm_276 dX6_thinkable_30 ?_
      refine z_aload_n F dX6_thinkable_33 0 rfl rfl ?_
      refine gK_0_2 F wm_276 dX6_thinkable_34 ?_
      refine gK_7_10 F wm_163 dX6_thinkable_37 ?_
      refine z_iload_n F dX6_thinkable_40 1 rfl rfl ?_
      refine lK_12 F hf dX6_thinkable_41 (fun hf => ?_)
      refine z_aload_n F dX6_thinkable_42 0 rfl rfl ?_
      refine gK_0_2 F wm_276 dX6_thinkable_43 ?_
      refine z_iload_n F dX6_thinkable_46 1 rfl rfl ?_
      refine k_X2_hintsAhead F (by decide) wm_561 (Nat.le_of_ble_eq_true rfl) dX6_thinkable_47 ?_
      refine z_aload_n F dX6_thinkable_50 0 rfl rfl ?_
      refine gK_0_2 F wm_276 dX6_thinkable_51 ?_
      refine z_iload_n F dX6_thinkable_54 1 rfl rfl ?_
      refine k_X2_leftAhead F (by decide) wm_580 (Nat.le_of_ble_eq_true rfl) dX6_thinkable_55 ?_
      refine k_X3_thoughtsWithin F (by decide) wm_604 (Nat.le_of_ble_eq_true rfl) hf dX6_thinkable_58 (fun r_1 hf => ?_)
      exact z_iret F dX6_thinkable_61 (Prod.ext (Option.some.inj hf) rfl)
    · refine z_ldc F wm_457 dX6_thinkable_26 ?_
      exact z_iret F dX6_thinkable_28 (Prod.ext (Option.some.inj hf) rfl)
  · refine z_ldc F wm_315 dX6_thinkable_11 ?_
    exact z_iret F dX6_thinkable_13 (Prod.ext (Option.some.inj hf) rfl)
theorem c_X6_thinkable {D : va_G} {cI : ClassId} {ad : Nat → Nat} {r : Int32} (n : Nat) (X : KX) (a1 : Int32) (hf : f_X6_thinkable n X a1 = some r) : zMI (yK D cI ad) yX6_thinkable cX6_thinkable 2 (some .int) 3 [.ref (ad 0), .int a1] X (r, X) := zMI_of (by decide +kernel) (Nat.le_of_ble_eq_true rfl) (fun z F => z_sub [0, 1] rfl (z_X6_thinkable F n X a1 hf))
theorem k_X6_thinkable {z : ZC} {D : va_G} {cI : ClassId} {ad : Nat → Nat} {cc : ByteArray} {own : String} {nL d pc index : Nat} {ret : Option FieldType} {Q : State → Prop} {X : KX} {L : List (Nat × Value)} {rest : List Value} {n : Nat} {a1 : Int32} (F : ZF z (yK D cI ad) cc own nL ret d) (hd : 3 + 1 ≤ d) (hw : Cond.methodLink own index yX6_thinkable ∈ wsA) (hst : (rest.map fun v => v.category).sum ≤ 8) {β : Type} {e : Int32 → Option β} {r : β} (hf : zB1 (f_X6_thinkable n X a1) e = some r) (hdg : decode cc pc = .ok (.invokevirtual index, 3)) (kk : ∀ v : Int32, e v = some r → Z z (yK D cI ad) nL Q X (pc + 3) L (.int v :: rest)) : Z z (yK D cI ad) nL Q X pc L (.int a1 :: .ref (ad 0) :: rest) := by
  obtain ⟨v, h1, h2⟩ := zB1_some hf
  exact z_cVI (As := [.int a1]) F (c_X6_thinkable n X a1 h1) kn_X6_thinkable kv_X6_thinkable hw (q0 := 0) rfl rfl hd rfl hst hdg rfl (kk v h2)
theorem kv_X3_rowsToQuestion : Cond.static yX3_rowsToQuestion ∈ wsA := wm_612
theorem kn_X3_rowsToQuestion : zKn yX3_rowsToQuestion cX3_rowsToQuestion 7 (some .int) 4 := ⟨wm_613, wm_60, by decide +kernel, by decide⟩
set_option maxHeartbeats 4000000 in
set_option maxRecDepth 100000 in
theorem z_X3_rowsToQuestion_80 {z : ZC} {D : va_G} {cI : ClassId} {ad : Nat → Nat} {r : Int32} {rc : Int32 → Int32 → Int32 → Option Int32} {d : Nat} {k24 : Int32 → Int32 → Int32 → Int32 → Int32 → Option Int32} (F : ZF z (yK D cI ad) cX3_rowsToQuestion RX3 7 (some .int) d) (n : Nat) (X : KX) {dr : Nat} (hlev : dr + 1 ≤ d) (hd0 : 3 ≤ d) (hrc : ∀ (a1 : Int32) (a2 : Int32) (a3 : Int32) (r1 : Int32), rc a1 a2 a3 = some r1 → zMI (yK D cI ad) yX3_rowsToQuestion cX3_rowsToQuestion 7 (some .int) dr [.ref (ad 7), .int a1, .int a2, .int a3] X (r1, X)) (hk24 : ∀ (v1 : Int32) (v2 : Int32) (v3 : Int32) (v4 : Int32) (v5 : Int32), k24 v1 v2 v3 v4 v5 = some r → Z z (yK D cI ad) 7 (zQI z (yK D cI ad) (r, X)) X 24 [(0, .ref (ad 7)), (1, .int v1), (2, .int v2), (3, .int v3), (4, .int v4), (5, .int v5)] []) (v1 : Int32) (v2 : Int32) (v3 : Int32) (v4 : Int32) (v5 : Int32) (hf : f_X3_rowsToQuestion_80 n X rc k24 v1 v2 v3 v4 v5 = some r) : Z z (yK D cI ad) 7 (zQI z (yK D cI ad) (r, X)) X 80 [(0, .ref (ad 7)), (1, .int v1), (2, .int v2), (3, .int v3), (4, .int v4), (5, .int v5)] [] := by
  unfold f_X3_rowsToQuestion_80 at hf
  refine z_iinc (w := 1) (L' := fun v5_1 => [(5, .int v5_1), (0, .ref (ad 7)), (1, .int v1), (2, .int v2), (3, .int v3), (4, .int v4)]) F hf dX3_rowsToQuestion_80 5 rfl (by decide +kernel) (Nat.le_of_ble_eq_true rfl) (fun _ => rfl) (fun v5_1 hf => ?_)
  refine z_goto (tgt := 24) F dX3_rowsToQuestion_83 (by decide) ?_
  exact z_sub [1, 2, 3, 4, 5, 0] rfl (hk24 v1 v2 v3 v4 v5_1 hf)
set_option maxHeartbeats 4000000 in
set_option maxRecDepth 100000 in
theorem z_X3_rowsToQuestion_24 {z : ZC} {D : va_G} {cI : ClassId} {ad : Nat → Nat} {r : Int32} {rc : Int32 → Int32 → Int32 → Option Int32} {d : Nat} (F : ZF z (yK D cI ad) cX3_rowsToQuestion RX3 7 (some .int) d) (n : Nat) (X : KX) {dr : Nat} (hlev : dr + 1 ≤ d) (hd0 : 3 ≤ d) (hrc : ∀ (a1 : Int32) (a2 : Int32) (a3 : Int32) (r1 : Int32), rc a1 a2 a3 = some r1 → zMI (yK D cI ad) yX3_rowsToQuestion cX3_rowsToQuestion 7 (some .int) dr [.ref (ad 7), .int a1, .int a2, .int a3] X (r1, X)) : ∀ (t : Nat) (v1 : Int32) (v2 : Int32) (v3 : Int32) (v4 : Int32) (v5 : Int32), f_X3_rowsToQuestion_24 n X rc t v1 v2 v3 v4 v5 = some r → Z z (yK D cI ad) 7 (zQI z (yK D cI ad) (r, X)) X 24 [(0, .ref (ad 7)), (1, .int v1), (2, .int v2), (3, .int v3), (4, .int v4), (5, .int v5)] [] := by
  intro t
  induction t with
  | zero => intro v1 v2 v3 v4 v5 hf; rw [f_X3_rowsToQuestion_24] at hf; exact zNone hf
  | succ t ih =>
    intro v1 v2 v3 v4 v5 hf
    rw [f_X3_rowsToQuestion_24] at hf
    refine z_iload F dX3_rowsToQuestion_24 5 rfl ?_
    refine z_aload_n F dX3_rowsToQuestion_26 0 rfl rfl ?_
    refine gK_7_4 F wm_136 dX3_rowsToQuestion_27 ?_
    refine z_icmp_ge (tgt := 86) F hf dX3_rowsToQuestion_30 (by decide) (fun hf => ?_) (fun hf => ?_)
    · refine z_iload F dX3_rowsToQuestion_86 4 rfl ?_
      exact z_iret F dX3_rowsToQuestion_88 (Prod.ext (Option.some.inj hf) rfl)
    · refine z_iload_n F dX3_rowsToQuestion_33 2 rfl rfl ?_
      refine z_iload F dX3_rowsToQuestion_34 5 rfl ?_
      refine k_X6_hasN F (Nat.le_trans (by decide) hd0) (fun _ h => h.2.2.1) (Nat.le_of_ble_eq_true rfl) dX3_rowsToQuestion_36 ?_
      refine z_if_eq (tgt := 80) F hf dX3_rowsToQuestion_39 (by decide) (fun hf => ?_) (fun hf => ?_)
      · exact z_sub [0, 1, 2, 3, 4, 5] rfl (z_X3_rowsToQuestion_80 F n X hlev hd0 hrc ih v1 v2 v3 v4 v5 hf)
      · refine z_aload_n F dX3_rowsToQuestion_42 0 rfl rfl ?_
        refine z_iload_n F dX3_rowsToQuestion_43 1 rfl rfl ?_
        refine z_iload F dX3_rowsToQuestion_44 5 rfl ?_
        refine z_aload_n F dX3_rowsToQuestion_46 0 rfl rfl ?_
        refine gK_7_9 F wm_157 dX3_rowsToQuestion_47 ?_
        refine z_iload F dX3_rowsToQuestion_50 5 rfl ?_
        refine lK_11 F hf dX3_rowsToQuestion_52 (fun hf => ?_)
        refine k_X2_ledFrom F (Nat.le_trans (by decide) hd0) wm_599 (Nat.le_of_ble_eq_true rfl) hf dX3_rowsToQuestion_53 (fun r_1 hf => ?_)
        refine z_istore (L' := [(6, .int r_1), (0, .ref (ad 7)), (1, .int v1), (2, .int v2), (3, .int v3), (4, .int v4), (5, .int v5)]) F dX3_rowsToQuestion_56 (Nat.le_of_ble_eq_true rfl) rfl ?_
        refine z_iload F dX3_rowsToQuestion_58 5 rfl ?_
        refine z_aload_n F dX3_rowsToQuestion_60 1 rfl rfl ?_
        refine z_iload F dX3_rowsToQuestion_61 0 rfl ?_
        refine z_iload_n F dX3_rowsToQuestion_63 3 rfl rfl ?_
        refine z_iconst (v := 1) F dX3_rowsToQuestion_64 (by decide +kernel) ?_
        refine z_iload F dX3_rowsToQuestion_65 6 rfl ?_
        refine z_ishl F dX3_rowsToQuestion_67 ?_
        refine z_iconst (v := (-1)) F dX3_rowsToQuestion_68 (by decide +kernel) ?_
        refine z_ixor F dX3_rowsToQuestion_69 ?_
        refine z_iand F dX3_rowsToQuestion_70 ?_
        refine z_iload_n F dX3_rowsToQuestion_71 4 rfl rfl ?_
        refine z_iconst (v := 1) F dX3_rowsToQuestion_72 (by decide +kernel) ?_
        refine z_isub F dX3_rowsToQuestion_73 ?_
        obtain ⟨r_2, hc, hf⟩ := zB1_some hf
        refine z_cSI (As := [.ref (ad 7), .int r_1, .int (v2 &&& ((zShl 1 v5) ^^^ (-1))), .int (v3 - 1)]) F (hrc r_1 (v2 &&& ((zShl 1 v5) ^^^ (-1))) (v3 - 1) _ hc) kn_X3_rowsToQuestion kv_X3_rowsToQuestion wm_614 hlev rfl (Nat.le_of_ble_eq_true rfl) dX3_rowsToQuestion_74 rfl ?_
        refine z_iadd F dX3_rowsToQuestion_77 ?_
        refine z_top hf (fun v4_3 hf => ?_)
        refine z_istore (L' := [(4, .int v4_3), (6, .int r_1), (0, .ref (ad 7)), (1, .int v1), (2, .int v2), (3, .int v3), (5, .int v5)]) F dX3_rowsToQuestion_78 (Nat.le_of_ble_eq_true rfl) rfl ?_
        exact z_sub [2, 3, 4, 5, 0, 6] rfl (z_X3_rowsToQuestion_80 F n X hlev hd0 hrc ih v1 v2 v3 v4_3 v5 hf)
set_option maxHeartbeats 4000000 in
set_option maxRecDepth 100000 in
theorem c_X3_rowsToQuestion {D : va_G} {cI : ClassId} {ad : Nat → Nat} (n : Nat) : ∀ (t : Nat) (X : KX) (a1 : Int32) (a2 : Int32) (a3 : Int32) (r : Int32), f_X3_rowsToQuestion n t X a1 a2 a3 = some r → zMI (yK D cI ad) yX3_rowsToQuestion cX3_rowsToQuestion 7 (some .int) (3 + t) [.ref (ad 7), .int a1, .int a2, .int a3] X (r, X) := by
  intro t
  induction t with
  | zero => intro X a1 a2 a3 r hf; rw [f_X3_rowsToQuestion] at hf; exact zNone hf
  | succ t ih =>
    intro X a1 a2 a3 r hf
    rw [f_X3_rowsToQuestion] at hf
    refine zMI_of (by decide +kernel) (Nat.le_of_ble_eq_true rfl) (fun z F => z_sub (L' := [(0, .ref (ad 7)), (1, .int a1), (2, .int a2), (3, .int a3)]) [0, 1, 2, 3] rfl ?_)
    have hlev : 3 + t + 1 ≤ 3 + (t + 1) := Nat.le_refl _
    have hd0 : 3 ≤ 3 + (t + 1) := Nat.le_add_right _ _
    have hrc : ∀ (a1 : Int32) (a2 : Int32) (a3 : Int32) (q : Int32), (f_X3_rowsToQuestion n t X) a1 a2 a3 = some q → zMI (yK D cI ad) yX3_rowsToQuestion cX3_rowsToQuestion 7 (some .int) (3 + t) [.ref (ad 7), .int a1, .int a2, .int a3] X (q, X) := fun a1 a2 a3 q hq => ih X a1 a2 a3 q hq
    refine z_iload_n F dX3_rowsToQuestion_0 3 rfl rfl ?_
    refine z_if_gt (tgt := 18) F hf dX3_rowsToQuestion_1 (by decide) (fun hf => ?_) (fun hf => ?_)
    · refine z_iconst (v := 0) F dX3_rowsToQuestion_18 (by decide +kernel) ?_
      refine z_istore (L' := [(4, .int 0), (0, .ref (ad 7)), (1, .int a1), (2, .int a2), (3, .int a3)]) F dX3_rowsToQuestion_19 (Nat.le_of_ble_eq_true rfl) rfl ?_
      refine z_iconst (v := 0) F dX3_rowsToQuestion_21 (by decide +kernel) ?_
      refine z_istore (L' := [(5, .int 0), (4, .int 0), (0, .ref (ad 7)), (1, .int a1), (2, .int a2), (3, .int a3)]) F dX3_rowsToQuestion_22 (Nat.le_of_ble_eq_true rfl) rfl ?_
      exact z_sub [2, 3, 4, 5, 1, 0] rfl (z_X3_rowsToQuestion_24 F n X hlev hd0 hrc n a1 a2 a3 0 0 hf)
    · refine z_iload_n F dX3_rowsToQuestion_4 1 rfl rfl ?_
      refine z_aload_n F dX3_rowsToQuestion_5 0 rfl rfl ?_
      refine gK_7_1 F wm_126 dX3_rowsToQuestion_6 ?_
      refine z_icmp_ne (tgt := 16) F hf dX3_rowsToQuestion_9 (by decide) (fun hf => ?_) (fun hf => ?_)
      · refine z_iconst (v := 0) F dX3_rowsToQuestion_16 (by decide +kernel) ?_
        exact z_iret F dX3_rowsToQuestion_17 (Prod.ext (Option.some.inj hf) rfl)
      · refine z_iconst (v := 1) F dX3_rowsToQuestion_12 (by decide +kernel) ?_
        refine z_goto (tgt := 17) F dX3_rowsToQuestion_13 (by decide) ?_
        exact z_iret F dX3_rowsToQuestion_17 (Prod.ext (Option.some.inj hf) rfl)
theorem k_X3_rowsToQuestion {z : ZC} {D : va_G} {cI : ClassId} {ad : Nat → Nat} {cc : ByteArray} {own : String} {nL d pc index : Nat} {ret : Option FieldType} {Q : State → Prop} {X : KX} {L : List (Nat × Value)} {rest : List Value} {n : Nat} {a1 a2 a3 : Int32} (F : ZF z (yK D cI ad) cc own nL ret d) (hd : (3 + 10) + 1 ≤ d) (hw : Cond.methodLink own index yX3_rowsToQuestion ∈ wsA) (hst : (rest.map fun v => v.category).sum ≤ 8) {β : Type} {e : Int32 → Option β} {r : β} (hf : zB1 (f_X3_rowsToQuestion n 10 X a1 a2 a3) e = some r) (hdg : decode cc pc = .ok (.invokestatic index, 3)) (kk : ∀ v : Int32, e v = some r → Z z (yK D cI ad) nL Q X (pc + 3) L (.int v :: rest)) : Z z (yK D cI ad) nL Q X pc L (.int a3 :: .int a2 :: .int a1 :: .ref (ad 7) :: rest) := by
  obtain ⟨v, h1, h2⟩ := zB1_some hf
  exact z_cSI (As := [.ref (ad 7), .int a1, .int a2, .int a3]) F (c_X3_rowsToQuestion n 10 X a1 a2 a3 _ h1) kn_X3_rowsToQuestion kv_X3_rowsToQuestion hw hd rfl hst hdg rfl (kk v h2)
theorem k_X3_rowsToQuestionN {z : ZC} {D : va_G} {cI : ClassId} {ad : Nat → Nat} {cc : ByteArray} {own : String} {nL d pc index : Nat} {ret : Option FieldType} {Q : State → Prop} {X : KX} {L : List (Nat × Value)} {rest : List Value} {n : Nat} {a1 a2 a3 : Int32} (F : ZF z (yK D cI ad) cc own nL ret d) (hd : (3 + 10) + 1 ≤ d) (hw : ∀ s, zN s → va_Nw (.methodLinkNest own index yX3_rowsToQuestion "AilingKing") s) (hst : (rest.map fun v => v.category).sum ≤ 8) {β : Type} {e : Int32 → Option β} {r : β} (hf : zB1 (f_X3_rowsToQuestion n 10 X a1 a2 a3) e = some r) (hdg : decode cc pc = .ok (.invokestatic index, 3)) (kk : ∀ v : Int32, e v = some r → Z z (yK D cI ad) nL Q X (pc + 3) L (.int v :: rest)) : Z z (yK D cI ad) nL Q X pc L (.int a3 :: .int a2 :: .int a1 :: .ref (ad 7) :: rest) := by
  obtain ⟨v, h1, h2⟩ := zB1_some hf
  exact z_cNI (As := [.ref (ad 7), .int a1, .int a2, .int a3]) F (c_X3_rowsToQuestion n 10 X a1 a2 a3 _ h1) kn_X3_rowsToQuestion kv_X3_rowsToQuestion hw hd rfl hst hdg rfl (kk v h2)
theorem kv_X6_rowsOfUnlike : Cond.static yX6_rowsOfUnlike ∈ wsA := wm_616
theorem kn_X6_rowsOfUnlike : zKn yX6_rowsOfUnlike cX6_rowsOfUnlike 4 (some .int) 2 := ⟨wm_617, wm_55, by decide +kernel, by decide⟩
set_option maxHeartbeats 4000000 in
set_option maxRecDepth 100000 in
theorem z_X6_rowsOfUnlike_4 {z : ZC} {D : va_G} {cI : ClassId} {ad : Nat → Nat} {r : Int32} (F : ZF z (yK D cI ad) cX6_rowsOfUnlike RX6 4 (some .int) 1) {X : KX} (n : Nat) : ∀ (t : Nat) (v0 : Int32) (v1 : Int32) (v2 : Int32) (v3 : Int32), f_X6_rowsOfUnlike_4 n t v0 v1 v2 v3 = some r → Z z (yK D cI ad) 4 (zQI z (yK D cI ad) (r, X)) X 4 [(0, .int v0), (1, .int v1), (2, .int v2), (3, .int v3)] [] := by
  intro t
  induction t with
  | zero => intro v0 v1 v2 v3 hf; rw [f_X6_rowsOfUnlike_4] at hf; exact zNone hf
  | succ t ih =>
    intro v0 v1 v2 v3 hf
    rw [f_X6_rowsOfUnlike_4] at hf
    refine z_iload_n F dX6_rowsOfUnlike_4 3 rfl rfl ?_
    refine z_iload_n F dX6_rowsOfUnlike_5 1 rfl rfl ?_
    refine z_icmp_ge (tgt := 21) F hf dX6_rowsOfUnlike_6 (by decide) (fun hf => ?_) (fun hf => ?_)
    · refine z_iload_n F dX6_rowsOfUnlike_21 2 rfl rfl ?_
      exact z_iret F dX6_rowsOfUnlike_22 (Prod.ext (Option.some.inj hf) rfl)
    · refine z_iload_n F dX6_rowsOfUnlike_9 2 rfl rfl ?_
      refine z_iload_n F dX6_rowsOfUnlike_10 0 rfl rfl ?_
      refine z_iload_n F dX6_rowsOfUnlike_11 3 rfl rfl ?_
      refine z_isub F dX6_rowsOfUnlike_12 ?_
      refine z_imul F dX6_rowsOfUnlike_13 ?_
      refine z_top hf (fun v2_1 hf => ?_)
      refine z_istore_n (L' := [(2, .int v2_1), (0, .int v0), (1, .int v1), (3, .int v3)]) F dX6_rowsOfUnlike_14 rfl (Nat.le_of_ble_eq_true rfl) rfl ?_
      refine z_iinc (w := 1) (L' := fun v3_2 => [(3, .int v3_2), (2, .int v2_1), (0, .int v0), (1, .int v1)]) F hf dX6_rowsOfUnlike_15 3 rfl (by decide +kernel) (Nat.le_of_ble_eq_true rfl) (fun _ => rfl) (fun v3_2 hf => ?_)
      refine z_goto (tgt := 4) F dX6_rowsOfUnlike_18 (by decide) ?_
      exact z_sub [2, 3, 1, 0] rfl (ih v0 v1 v2_1 v3_2 hf)
set_option maxHeartbeats 4000000 in
set_option maxRecDepth 100000 in
theorem z_X6_rowsOfUnlike {z : ZC} {D : va_G} {cI : ClassId} {ad : Nat → Nat} {r : Int32} (F : ZF z (yK D cI ad) cX6_rowsOfUnlike RX6 4 (some .int) 1) {X : KX} (n : Nat) (a0 : Int32) (a1 : Int32) (hf : f_X6_rowsOfUnlike n a0 a1 = some r) : Z z (yK D cI ad) 4 (zQI z (yK D cI ad) (r, X)) X 0 [(0, .int a0), (1, .int a1)] [] := by
  unfold f_X6_rowsOfUnlike at hf
  refine z_iconst (v := 1) F dX6_rowsOfUnlike_0 (by decide +kernel) ?_
  refine z_istore_n (L' := [(2, .int 1), (0, .int a0), (1, .int a1)]) F dX6_rowsOfUnlike_1 rfl (Nat.le_of_ble_eq_true rfl) rfl ?_
  refine z_iconst (v := 0) F dX6_rowsOfUnlike_2 (by decide +kernel) ?_
  refine z_istore_n (L' := [(3, .int 0), (2, .int 1), (0, .int a0), (1, .int a1)]) F dX6_rowsOfUnlike_3 rfl (Nat.le_of_ble_eq_true rfl) rfl ?_
  exact z_sub [2, 3, 1, 0] rfl (z_X6_rowsOfUnlike_4 F n n a0 a1 1 0 hf)
theorem c_X6_rowsOfUnlike {D : va_G} {cI : ClassId} {ad : Nat → Nat} {r : Int32} (n : Nat) (X : KX) (a0 : Int32) (a1 : Int32) (hf : f_X6_rowsOfUnlike n a0 a1 = some r) : zMI (yK D cI ad) yX6_rowsOfUnlike cX6_rowsOfUnlike 4 (some .int) 1 [.int a0, .int a1] X (r, X) := zMI_of (by decide +kernel) (Nat.le_of_ble_eq_true rfl) (fun z F => z_sub [0, 1] rfl (z_X6_rowsOfUnlike F n a0 a1 hf))
theorem k_X6_rowsOfUnlike {z : ZC} {D : va_G} {cI : ClassId} {ad : Nat → Nat} {cc : ByteArray} {own : String} {nL d pc index : Nat} {ret : Option FieldType} {Q : State → Prop} {X : KX} {L : List (Nat × Value)} {rest : List Value} {n : Nat} {a0 a1 : Int32} (F : ZF z (yK D cI ad) cc own nL ret d) (hd : 1 + 1 ≤ d) (hw : Cond.methodLink own index yX6_rowsOfUnlike ∈ wsA) (hst : (rest.map fun v => v.category).sum ≤ 8) {β : Type} {e : Int32 → Option β} {r : β} (hf : zB1 (f_X6_rowsOfUnlike n a0 a1) e = some r) (hdg : decode cc pc = .ok (.invokestatic index, 3)) (kk : ∀ v : Int32, e v = some r → Z z (yK D cI ad) nL Q X (pc + 3) L (.int v :: rest)) : Z z (yK D cI ad) nL Q X pc L (.int a1 :: .int a0 :: rest) := by
  obtain ⟨v, h1, h2⟩ := zB1_some hf
  exact z_cSI (As := [.int a0, .int a1]) F (c_X6_rowsOfUnlike n X a0 a1 h1) kn_X6_rowsOfUnlike kv_X6_rowsOfUnlike hw hd rfl hst hdg rfl (kk v h2)
theorem k_X6_rowsOfUnlikeN {z : ZC} {D : va_G} {cI : ClassId} {ad : Nat → Nat} {cc : ByteArray} {own : String} {nL d pc index : Nat} {ret : Option FieldType} {Q : State → Prop} {X : KX} {L : List (Nat × Value)} {rest : List Value} {n : Nat} {a0 a1 : Int32} (F : ZF z (yK D cI ad) cc own nL ret d) (hd : 1 + 1 ≤ d) (hw : ∀ s, zN s → va_Nw (.methodLinkNest own index yX6_rowsOfUnlike "AilingKing") s) (hst : (rest.map fun v => v.category).sum ≤ 8) {β : Type} {e : Int32 → Option β} {r : β} (hf : zB1 (f_X6_rowsOfUnlike n a0 a1) e = some r) (hdg : decode cc pc = .ok (.invokestatic index, 3)) (kk : ∀ v : Int32, e v = some r → Z z (yK D cI ad) nL Q X (pc + 3) L (.int v :: rest)) : Z z (yK D cI ad) nL Q X pc L (.int a1 :: .int a0 :: rest) := by
  obtain ⟨v, h1, h2⟩ := zB1_some hf
  exact z_cNI (As := [.int a0, .int a1]) F (c_X6_rowsOfUnlike n X a0 a1 h1) kn_X6_rowsOfUnlike kv_X6_rowsOfUnlike hw hd rfl hst hdg rfl (kk v h2)
theorem kv_X6_commonDivisor : Cond.static yX6_commonDivisor ∈ wsA := wm_619
theorem kn_X6_commonDivisor : zKn yX6_commonDivisor cX6_commonDivisor 6 (some .int) 2 := ⟨wm_620, wm_55, by decide +kernel, by decide⟩
set_option maxHeartbeats 4000000 in
set_option maxRecDepth 100000 in
theorem z_X6_commonDivisor_34 {z : ZC} {D : va_G} {cI : ClassId} {ad : Nat → Nat} {r : Int32} (F : ZF z (yK D cI ad) cX6_commonDivisor RX6 6 (some .int) 1) {X : KX} (n : Nat) (v2 : Int32) (hf : f_X6_commonDivisor_34 n v2 = some r) : Z z (yK D cI ad) 6 (zQI z (yK D cI ad) (r, X)) X 34 [(2, .int v2)] [] := by
  unfold f_X6_commonDivisor_34 at hf
  refine z_iload_n F dX6_commonDivisor_34 0 rfl rfl ?_
  refine z_if_ne (tgt := 42) F hf dX6_commonDivisor_35 (by decide) (fun hf => ?_) (fun hf => ?_)
  · refine z_iload_n F dX6_commonDivisor_42 0 rfl rfl ?_
    exact z_iret F dX6_commonDivisor_43 (Prod.ext (Option.some.inj hf) rfl)
  · refine z_iconst (v := 1) F dX6_commonDivisor_38 (by decide +kernel) ?_
    refine z_goto (tgt := 43) F dX6_commonDivisor_39 (by decide) ?_
    exact z_iret F dX6_commonDivisor_43 (Prod.ext (Option.some.inj hf) rfl)
set_option maxHeartbeats 4000000 in
set_option maxRecDepth 100000 in
theorem z_X6_commonDivisor_7 {z : ZC} {D : va_G} {cI : ClassId} {ad : Nat → Nat} {r : Int32} (F : ZF z (yK D cI ad) cX6_commonDivisor RX6 6 (some .int) 1) {X : KX} (n : Nat) : ∀ (t : Nat) (v2 : Int32) (v3 : Int32) (v4 : Int32), f_X6_commonDivisor_7 n t v2 v3 v4 = some r → Z z (yK D cI ad) 6 (zQI z (yK D cI ad) (r, X)) X 7 [(2, .int v2), (3, .int v3), (4, .int v4)] [] := by
  intro t
  induction t with
  | zero => intro v2 v3 v4 hf; rw [f_X6_commonDivisor_7] at hf; exact zNone hf
  | succ t ih =>
    intro v2 v3 v4 hf
    rw [f_X6_commonDivisor_7] at hf
    refine z_iload F dX6_commonDivisor_7 2 rfl ?_
    refine z_bipush (v := 64) F dX6_commonDivisor_9 (by decide +kernel) ?_
    refine z_icmp_ge (tgt := 34) F hf dX6_commonDivisor_11 (by decide) (fun hf => ?_) (fun hf => ?_)
    · exact z_sub [0] rfl (z_X6_commonDivisor_34 F n v2 hf)
    · refine z_iload_n F dX6_commonDivisor_14 1 rfl rfl ?_
      refine z_if_eq (tgt := 34) F hf dX6_commonDivisor_15 (by decide) (fun hf => ?_) (fun hf => ?_)
      · exact z_sub [0] rfl (z_X6_commonDivisor_34 F n v2 hf)
      · refine z_iload_n F dX6_commonDivisor_18 0 rfl rfl ?_
        refine z_iload_n F dX6_commonDivisor_19 1 rfl rfl ?_
        refine z_irem F hf dX6_commonDivisor_20 (fun hf => ?_)
        refine z_top hf (fun v5_1 hf => ?_)
        refine z_istore (L' := [(5, .int v5_1), (2, .int v2), (3, .int v3), (4, .int v4)]) F dX6_commonDivisor_21 (Nat.le_of_ble_eq_true rfl) rfl ?_
        refine z_iload_n F dX6_commonDivisor_23 2 rfl rfl ?_
        refine z_istore_n (L' := [(2, .int v3), (5, .int v5_1), (3, .int v3), (4, .int v4)]) F dX6_commonDivisor_24 rfl (Nat.le_of_ble_eq_true rfl) rfl ?_
        refine z_iload F dX6_commonDivisor_25 1 rfl ?_
        refine z_istore_n (L' := [(3, .int v5_1), (2, .int v3), (5, .int v5_1), (4, .int v4)]) F dX6_commonDivisor_27 rfl (Nat.le_of_ble_eq_true rfl) rfl ?_
        refine z_iinc (w := 1) (L' := fun v4_2 => [(4, .int v4_2), (3, .int v5_1), (2, .int v3), (5, .int v5_1)]) F hf dX6_commonDivisor_28 3 rfl (by decide +kernel) (Nat.le_of_ble_eq_true rfl) (fun _ => rfl) (fun v4_2 hf => ?_)
        refine z_goto (tgt := 7) F dX6_commonDivisor_31 (by decide) ?_
        exact z_sub [2, 1, 0] rfl (ih v3 v5_1 v4_2 hf)
set_option maxHeartbeats 4000000 in
set_option maxRecDepth 100000 in
theorem z_X6_commonDivisor {z : ZC} {D : va_G} {cI : ClassId} {ad : Nat → Nat} {r : Int32} (F : ZF z (yK D cI ad) cX6_commonDivisor RX6 6 (some .int) 1) {X : KX} (n : Nat) (a0 : Int32) (a1 : Int32) (hf : f_X6_commonDivisor n a0 a1 = some r) : Z z (yK D cI ad) 6 (zQI z (yK D cI ad) (r, X)) X 0 [(0, .int a0), (1, .int a1)] [] := by
  unfold f_X6_commonDivisor at hf
  refine z_iload_n F dX6_commonDivisor_0 1 rfl rfl ?_
  refine z_istore_n (L' := [(2, .int a1), (0, .int a0), (1, .int a1)]) F dX6_commonDivisor_1 rfl (Nat.le_of_ble_eq_true rfl) rfl ?_
  refine z_iload_n F dX6_commonDivisor_2 1 rfl rfl ?_
  refine z_istore_n (L' := [(3, .int a0), (2, .int a1), (0, .int a0), (1, .int a1)]) F dX6_commonDivisor_3 rfl (Nat.le_of_ble_eq_true rfl) rfl ?_
  refine z_iconst (v := 0) F dX6_commonDivisor_4 (by decide +kernel) ?_
  refine z_istore (L' := [(4, .int 0), (3, .int a0), (2, .int a1), (0, .int a0), (1, .int a1)]) F dX6_commonDivisor_5 (Nat.le_of_ble_eq_true rfl) rfl ?_
  exact z_sub [2, 1, 0] rfl (z_X6_commonDivisor_7 F n n a1 a0 0 hf)
theorem c_X6_commonDivisor {D : va_G} {cI : ClassId} {ad : Nat → Nat} {r : Int32} (n : Nat) (X : KX) (a0 : Int32) (a1 : Int32) (hf : f_X6_commonDivisor n a0 a1 = some r) : zMI (yK D cI ad) yX6_commonDivisor cX6_commonDivisor 6 (some .int) 1 [.int a0, .int a1] X (r, X) := zMI_of (by decide +kernel) (Nat.le_of_ble_eq_true rfl) (fun z F => z_sub [0, 1] rfl (z_X6_commonDivisor F n a0 a1 hf))
theorem k_X6_commonDivisor {z : ZC} {D : va_G} {cI : ClassId} {ad : Nat → Nat} {cc : ByteArray} {own : String} {nL d pc index : Nat} {ret : Option FieldType} {Q : State → Prop} {X : KX} {L : List (Nat × Value)} {rest : List Value} {n : Nat} {a0 a1 : Int32} (F : ZF z (yK D cI ad) cc own nL ret d) (hd : 1 + 1 ≤ d) (hw : Cond.methodLink own index yX6_commonDivisor ∈ wsA) (hst : (rest.map fun v => v.category).sum ≤ 8) {β : Type} {e : Int32 → Option β} {r : β} (hf : zB1 (f_X6_commonDivisor n a0 a1) e = some r) (hdg : decode cc pc = .ok (.invokestatic index, 3)) (kk : ∀ v : Int32, e v = some r → Z z (yK D cI ad) nL Q X (pc + 3) L (.int v :: rest)) : Z z (yK D cI ad) nL Q X pc L (.int a1 :: .int a0 :: rest) := by
  obtain ⟨v, h1, h2⟩ := zB1_some hf
  exact z_cSI (As := [.int a0, .int a1]) F (c_X6_commonDivisor n X a0 a1 h1) kn_X6_commonDivisor kv_X6_commonDivisor hw hd rfl hst hdg rfl (kk v h2)
theorem k_X6_commonDivisorN {z : ZC} {D : va_G} {cI : ClassId} {ad : Nat → Nat} {cc : ByteArray} {own : String} {nL d pc index : Nat} {ret : Option FieldType} {Q : State → Prop} {X : KX} {L : List (Nat × Value)} {rest : List Value} {n : Nat} {a0 a1 : Int32} (F : ZF z (yK D cI ad) cc own nL ret d) (hd : 1 + 1 ≤ d) (hw : ∀ s, zN s → va_Nw (.methodLinkNest own index yX6_commonDivisor "AilingKing") s) (hst : (rest.map fun v => v.category).sum ≤ 8) {β : Type} {e : Int32 → Option β} {r : β} (hf : zB1 (f_X6_commonDivisor n a0 a1) e = some r) (hdg : decode cc pc = .ok (.invokestatic index, 3)) (kk : ∀ v : Int32, e v = some r → Z z (yK D cI ad) nL Q X (pc + 3) L (.int v :: rest)) : Z z (yK D cI ad) nL Q X pc L (.int a1 :: .int a0 :: rest) := by
  obtain ⟨v, h1, h2⟩ := zB1_some hf
  exact z_cNI (As := [.int a0, .int a1]) F (c_X6_commonDivisor n X a0 a1 h1) kn_X6_commonDivisor kv_X6_commonDivisor hw hd rfl hst hdg rfl (kk v h2)
theorem kv_X6_chance : zKv yX6_chance := ⟨wm_608, wm_609⟩
theorem kn_X6_chance : zKn yX6_chance cX6_chance 8 (some .int) 3 := ⟨wm_610, wm_55, by decide +kernel, by decide⟩
set_option maxHeartbeats 4000000 in
set_option maxRecDepth 100000 in
theorem z_X6_chance_131 {z : ZC} {D : va_G} {cI : ClassId} {ad : Nat → Nat} {r : Int32} (F : ZF z (yK D cI ad) cX6_chance RX6 8 (some .int) 16) (n : Nat) (X : KX) (s0 : Int32) (v7 : Int32) (hf : f_X6_chance_131 n X s0 v7 = some r) : Z z (yK D cI ad) 8 (zQI z (yK D cI ad) (r, X)) X 131 [(7, .int v7)] [.int s0] := by
  unfold f_X6_chance_131 at hf
  refine z_iload F dX6_chance_131 0 rfl ?_
  refine z_idiv F hf dX6_chance_133 (fun hf => ?_)
  exact z_iret F dX6_chance_134 (Prod.ext (Option.some.inj hf) rfl)
set_option maxHeartbeats 4000000 in
set_option maxRecDepth 100000 in
theorem z_X6_chance {z : ZC} {D : va_G} {cI : ClassId} {ad : Nat → Nat} {r : Int32} (F : ZF z (yK D cI ad) cX6_chance RX6 8 (some .int) 16) (n : Nat) (X : KX) (a1 : Int32) (a2 : Int32) (a3 : Int32) (hf : f_X6_chance n X a1 a2 a3 = some r) : Z z (yK D cI ad) 8 (zQI z (yK D cI ad) (r, X)) X 0 [(0, .ref (ad 0)), (1, .int a1), (2, .int a2), (3, .int a3)] [] := by
  unfold f_X6_chance at hf
  refine z_aload_n F dX6_chance_0 0 rfl rfl ?_
  refine gK_0_2 F wm_276 dX6_chance_1 ?_
  refine z_iload_n F dX6_chance_4 1 rfl rfl ?_
  refine k_X2_isGuest F (by decide) wm_445 (Nat.le_of_ble_eq_true rfl) dX6_chance_5 ?_
  refine z_if_eq (tgt := 27) F hf dX6_chance_8 (by decide) (fun hf => ?_) (fun hf => ?_)
  · refine z_ldc F wm_315 dX6_chance_27 ?_
    exact z_iret F dX6_chance_29 (Prod.ext (Option.some.inj hf) rfl)
  · refine z_iload_n F dX6_chance_11 2 rfl rfl ?_
    refine z_iconst (v := 5) F dX6_chance_12 (by decide +kernel) ?_
    refine k_X6_isBelow F (by decide) wm_312 (Nat.le_of_ble_eq_true rfl) dX6_chance_13 ?_
    refine z_if_eq (tgt := 27) F hf dX6_chance_16 (by decide) (fun hf => ?_) (fun hf => ?_)
    · refine z_ldc F wm_315 dX6_chance_27 ?_
      exact z_iret F dX6_chance_29 (Prod.ext (Option.some.inj hf) rfl)
    · refine z_iload_n F dX6_chance_19 3 rfl rfl ?_
      refine z_iconst (v := 2) F dX6_chance_20 (by decide +kernel) ?_
      refine k_X6_isBelow F (by decide) wm_312 (Nat.le_of_ble_eq_true rfl) dX6_chance_21 ?_
      refine z_if_ne (tgt := 30) F hf dX6_chance_24 (by decide) (fun hf => ?_) (fun hf => ?_)
      · refine z_aload_n F dX6_chance_30 0 rfl rfl ?_
        refine gK_0_2 F wm_276 dX6_chance_31 ?_
        refine z_iload_n F dX6_chance_34 1 rfl rfl ?_
        refine k_X2_stateOf F (by decide) wm_450 (Nat.le_of_ble_eq_true rfl) dX6_chance_35 ?_
        refine z_iconst (v := 2) F dX6_chance_38 (by decide +kernel) ?_
        refine z_icmp_ne (tgt := 45) F hf dX6_chance_39 (by decide) (fun hf => ?_) (fun hf => ?_)
        · refine z_aload_n F dX6_chance_45 0 rfl rfl ?_
          refine gK_0_2 F wm_276 dX6_chance_46 ?_
          refine z_iload_n F dX6_chance_49 1 rfl rfl ?_
          refine k_X2_hintsAhead F (by decide) wm_561 (Nat.le_of_ble_eq_true rfl) dX6_chance_50 ?_
          refine z_top hf (fun v4_1 hf => ?_)
          refine z_istore (L' := [(4, .int v4_1), (0, .ref (ad 0)), (1, .int a1), (2, .int a2), (3, .int a3)]) F dX6_chance_53 (Nat.le_of_ble_eq_true rfl) rfl ?_
          refine z_iload_n F dX6_chance_55 3 rfl rfl ?_
          refine z_iload F dX6_chance_56 0 rfl ?_
          refine k_J6_bitCount_0f7a4 F (by decide) wm_475 (Nat.le_of_ble_eq_true rfl) dX6_chance_58 ?_
          refine z_icmp_gt (tgt := 76) F hf dX6_chance_61 (by decide) (fun hf => ?_) (fun hf => ?_)
          · refine z_ldc F wm_590 dX6_chance_76 ?_
            exact z_iret F dX6_chance_78 (Prod.ext (Option.some.inj hf) rfl)
          · refine z_iload_n F dX6_chance_64 3 rfl rfl ?_
            refine z_aload_n F dX6_chance_65 1 rfl rfl ?_
            refine gK_0_2 F wm_276 dX6_chance_66 ?_
            refine z_iload_n F dX6_chance_69 2 rfl rfl ?_
            refine k_X2_leftAhead F (by decide) wm_580 (Nat.le_of_ble_eq_true rfl) dX6_chance_70 ?_
            refine z_icmp_le (tgt := 79) F hf dX6_chance_73 (by decide) (fun hf => ?_) (fun hf => ?_)
            · refine z_aload_n F dX6_chance_79 1 rfl rfl ?_
              refine gK_0_2 F wm_276 dX6_chance_80 ?_
              refine z_aload_n F dX6_chance_83 1 rfl rfl ?_
              refine gK_0_2 F wm_276 dX6_chance_84 ?_
              refine gK_7_10 F wm_163 dX6_chance_87 ?_
              refine z_iload_n F dX6_chance_90 2 rfl rfl ?_
              refine lK_12 F hf dX6_chance_91 (fun hf => ?_)
              refine z_iload F dX6_chance_92 0 rfl ?_
              refine z_iload_n F dX6_chance_94 3 rfl rfl ?_
              refine k_X3_rowsToQuestionN F (by decide) (fun _ h => h.2.2.2.2) (Nat.le_of_ble_eq_true rfl) hf dX6_chance_95 (fun r_2 hf => ?_)
              refine z_istore (L' := [(5, .int r_2), (4, .int v4_1), (0, .ref (ad 0)), (1, .int a1), (2, .int a2), (3, .int a3)]) F dX6_chance_98 (Nat.le_of_ble_eq_true rfl) rfl ?_
              refine z_iload F dX6_chance_100 1 rfl ?_
              refine k_J6_bitCount_0f7a4 F (by decide) wm_475 (Nat.le_of_ble_eq_true rfl) dX6_chance_102 ?_
              refine z_iload_n F dX6_chance_105 4 rfl rfl ?_
              refine k_X6_rowsOfUnlike F (by decide) wm_615 (Nat.le_of_ble_eq_true rfl) hf dX6_chance_106 (fun r_3 hf => ?_)
              refine z_istore (L' := [(6, .int r_3), (5, .int r_2), (4, .int v4_1), (0, .ref (ad 0)), (1, .int a1), (2, .int a2), (3, .int a3)]) F dX6_chance_109 (Nat.le_of_ble_eq_true rfl) rfl ?_
              refine z_iload F dX6_chance_111 1 rfl ?_
              refine z_iload F dX6_chance_113 0 rfl ?_
              refine k_X6_commonDivisor F (by decide) wm_618 (Nat.le_of_ble_eq_true rfl) hf dX6_chance_115 (fun r_4 hf => ?_)
              refine z_istore (L' := [(7, .int r_4), (6, .int r_3), (5, .int r_2), (4, .int v4_1), (0, .ref (ad 0)), (1, .int a1), (2, .int a2), (3, .int a3)]) F dX6_chance_118 (Nat.le_of_ble_eq_true rfl) rfl ?_
              refine z_iload_n F dX6_chance_120 7 rfl rfl ?_
              refine z_if_ne (tgt := 129) F hf dX6_chance_121 (by decide) (fun hf => ?_) (fun hf => ?_)
              · refine z_iload F dX6_chance_129 1 rfl ?_
                exact z_sub [0] rfl (z_X6_chance_131 F n X r_3 r_4 hf)
              · refine z_iload F dX6_chance_124 2 rfl ?_
                refine z_goto (tgt := 131) F dX6_chance_126 (by decide) ?_
                exact z_sub [0] rfl (z_X6_chance_131 F n X r_2 r_4 hf)
            · refine z_ldc F wm_590 dX6_chance_76 ?_
              exact z_iret F dX6_chance_78 (Prod.ext (Option.some.inj hf) rfl)
        · refine z_ldc F wm_457 dX6_chance_42 ?_
          exact z_iret F dX6_chance_44 (Prod.ext (Option.some.inj hf) rfl)
      · refine z_ldc F wm_315 dX6_chance_27 ?_
        exact z_iret F dX6_chance_29 (Prod.ext (Option.some.inj hf) rfl)
theorem c_X6_chance {D : va_G} {cI : ClassId} {ad : Nat → Nat} {r : Int32} (n : Nat) (X : KX) (a1 : Int32) (a2 : Int32) (a3 : Int32) (hf : f_X6_chance n X a1 a2 a3 = some r) : zMI (yK D cI ad) yX6_chance cX6_chance 8 (some .int) 16 [.ref (ad 0), .int a1, .int a2, .int a3] X (r, X) := zMI_of (by decide +kernel) (Nat.le_of_ble_eq_true rfl) (fun z F => z_sub [0, 1, 2, 3] rfl (z_X6_chance F n X a1 a2 a3 hf))
theorem k_X6_chance {z : ZC} {D : va_G} {cI : ClassId} {ad : Nat → Nat} {cc : ByteArray} {own : String} {nL d pc index : Nat} {ret : Option FieldType} {Q : State → Prop} {X : KX} {L : List (Nat × Value)} {rest : List Value} {n : Nat} {a1 a2 a3 : Int32} (F : ZF z (yK D cI ad) cc own nL ret d) (hd : 16 + 1 ≤ d) (hw : Cond.methodLink own index yX6_chance ∈ wsA) (hst : (rest.map fun v => v.category).sum ≤ 8) {β : Type} {e : Int32 → Option β} {r : β} (hf : zB1 (f_X6_chance n X a1 a2 a3) e = some r) (hdg : decode cc pc = .ok (.invokevirtual index, 3)) (kk : ∀ v : Int32, e v = some r → Z z (yK D cI ad) nL Q X (pc + 3) L (.int v :: rest)) : Z z (yK D cI ad) nL Q X pc L (.int a3 :: .int a2 :: .int a1 :: .ref (ad 0) :: rest) := by
  obtain ⟨v, h1, h2⟩ := zB1_some hf
  exact z_cVI (As := [.int a1, .int a2, .int a3]) F (c_X6_chance n X a1 a2 a3 h1) kn_X6_chance kv_X6_chance hw (q0 := 0) rfl rfl hd rfl hst hdg rfl (kk v h2)
theorem kv_X6_taught : zKv yX6_taught := ⟨wm_622, wm_623⟩
theorem kn_X6_taught : zKn yX6_taught cX6_taught 2 (some .int) 1 := ⟨wm_624, wm_55, by decide +kernel, by decide⟩
set_option maxHeartbeats 4000000 in
set_option maxRecDepth 100000 in
theorem z_X6_taught {z : ZC} {D : va_G} {cI : ClassId} {ad : Nat → Nat} {r : Int32} (F : ZF z (yK D cI ad) cX6_taught RX6 2 (some .int) 3) (X : KX) (a1 : Int32) (hf : f_X6_taught X a1 = some r) : Z z (yK D cI ad) 2 (zQI z (yK D cI ad) (r, X)) X 0 [(0, .ref (ad 0)), (1, .int a1)] [] := by
  unfold f_X6_taught at hf
  refine z_aload_n F dX6_taught_0 0 rfl rfl ?_
  refine gK_0_2 F wm_276 dX6_taught_1 ?_
  refine z_iload_n F dX6_taught_4 1 rfl rfl ?_
  refine k_X2_isGuest F (by decide) wm_445 (Nat.le_of_ble_eq_true rfl) dX6_taught_5 ?_
  refine z_if_ne (tgt := 14) F hf dX6_taught_8 (by decide) (fun hf => ?_) (fun hf => ?_)
  · refine z_iconst (v := 0) F dX6_taught_14 (by decide +kernel) ?_
    refine z_aload_n F dX6_taught_15 0 rfl rfl ?_
    refine gK_0_2 F wm_276 dX6_taught_16 ?_
    refine gK_7_11 F wm_166 dX6_taught_19 ?_
    refine z_iload_n F dX6_taught_22 1 rfl rfl ?_
    refine lK_13 F hf dX6_taught_23 (fun hf => ?_)
    refine z_aload_n F dX6_taught_24 0 rfl rfl ?_
    refine gK_0_2 F wm_276 dX6_taught_25 ?_
    refine gK_7_12 F wm_169 dX6_taught_28 ?_
    refine z_iload_n F dX6_taught_31 1 rfl rfl ?_
    refine lK_14 F hf dX6_taught_32 (fun hf => ?_)
    refine z_isub F dX6_taught_33 ?_
    refine z_max F (by decide) wm_516 wm_517 wm_65 wm_518 (Nat.le_of_ble_eq_true rfl) dX6_taught_34 ?_
    exact z_iret F dX6_taught_37 (Prod.ext (Option.some.inj hf) rfl)
  · refine z_ldc F wm_315 dX6_taught_11 ?_
    exact z_iret F dX6_taught_13 (Prod.ext (Option.some.inj hf) rfl)
theorem c_X6_taught {D : va_G} {cI : ClassId} {ad : Nat → Nat} {r : Int32} (X : KX) (a1 : Int32) (hf : f_X6_taught X a1 = some r) : zMI (yK D cI ad) yX6_taught cX6_taught 2 (some .int) 3 [.ref (ad 0), .int a1] X (r, X) := zMI_of (by decide +kernel) (Nat.le_of_ble_eq_true rfl) (fun z F => z_sub [0, 1] rfl (z_X6_taught F X a1 hf))
theorem k_X6_taught {z : ZC} {D : va_G} {cI : ClassId} {ad : Nat → Nat} {cc : ByteArray} {own : String} {nL d pc index : Nat} {ret : Option FieldType} {Q : State → Prop} {X : KX} {L : List (Nat × Value)} {rest : List Value} {a1 : Int32} (F : ZF z (yK D cI ad) cc own nL ret d) (hd : 3 + 1 ≤ d) (hw : Cond.methodLink own index yX6_taught ∈ wsA) (hst : (rest.map fun v => v.category).sum ≤ 8) {β : Type} {e : Int32 → Option β} {r : β} (hf : zB1 (f_X6_taught X a1) e = some r) (hdg : decode cc pc = .ok (.invokevirtual index, 3)) (kk : ∀ v : Int32, e v = some r → Z z (yK D cI ad) nL Q X (pc + 3) L (.int v :: rest)) : Z z (yK D cI ad) nL Q X pc L (.int a1 :: .ref (ad 0) :: rest) := by
  obtain ⟨v, h1, h2⟩ := zB1_some hf
  exact z_cVI (As := [.int a1]) F (c_X6_taught X a1 h1) kn_X6_taught kv_X6_taught hw (q0 := 0) rfl rfl hd rfl hst hdg rfl (kk v h2)
theorem kv_X3_bestOf : zKv yX3_bestOf := ⟨wm_630, wm_631⟩
theorem kn_X3_bestOf : zKn yX3_bestOf cX3_bestOf 8 (some .int) 2 := ⟨wm_632, wm_60, by decide +kernel, by decide⟩
set_option maxHeartbeats 4000000 in
set_option maxRecDepth 100000 in
theorem z_X3_bestOf_103 {z : ZC} {D : va_G} {cI : ClassId} {ad : Nat → Nat} {R : Int32 × KX} {k20 : KX → Int32 → Int32 → Int32 → Int32 → Option (Int32 × KX)} (F : ZF z (yK D cI ad) cX3_bestOf RX3 8 (some .int) 4) (n : Nat) (hk20 : ∀ (X : KX) (v2 : Int32) (v3 : Int32) (v4 : Int32) (v5 : Int32), k20 X v2 v3 v4 v5 = some R → Z z (yK D cI ad) 8 (zQI z (yK D cI ad) R) X 20 [(0, .ref (ad 47)), (1, .ref (ad 7)), (2, .int v2), (3, .int v3), (4, .int v4), (5, .int v5)] []) (X : KX) (v2 : Int32) (v3 : Int32) (v4 : Int32) (v5 : Int32) (hf : f_X3_bestOf_103 n k20 X v2 v3 v4 v5 = some R) : Z z (yK D cI ad) 8 (zQI z (yK D cI ad) R) X 103 [(0, .ref (ad 47)), (1, .ref (ad 7)), (2, .int v2), (3, .int v3), (4, .int v4), (5, .int v5)] [] := by
  unfold f_X3_bestOf_103 at hf
  refine z_iinc (w := 1) (L' := fun v5_1 => [(5, .int v5_1), (0, .ref (ad 47)), (1, .ref (ad 7)), (2, .int v2), (3, .int v3), (4, .int v4)]) F hf dX3_bestOf_103 5 rfl (by decide +kernel) (Nat.le_of_ble_eq_true rfl) (fun _ => rfl) (fun v5_1 hf => ?_)
  refine z_goto (tgt := 20) F dX3_bestOf_106 (by decide) ?_
  exact z_sub [1, 2, 3, 4, 5, 0] rfl (hk20 X v2 v3 v4 v5_1 hf)
set_option maxHeartbeats 4000000 in
set_option maxRecDepth 100000 in
theorem z_X3_bestOf_96 {z : ZC} {D : va_G} {cI : ClassId} {ad : Nat → Nat} {R : Int32 × KX} {k20 : KX → Int32 → Int32 → Int32 → Int32 → Option (Int32 × KX)} (F : ZF z (yK D cI ad) cX3_bestOf RX3 8 (some .int) 4) (n : Nat) (hk20 : ∀ (X : KX) (v2 : Int32) (v3 : Int32) (v4 : Int32) (v5 : Int32), k20 X v2 v3 v4 v5 = some R → Z z (yK D cI ad) 8 (zQI z (yK D cI ad) R) X 20 [(0, .ref (ad 47)), (1, .ref (ad 7)), (2, .int v2), (3, .int v3), (4, .int v4), (5, .int v5)] []) (X : KX) (v2 : Int32) (v5 : Int32) (v6 : Int32) (hf : f_X3_bestOf_96 n k20 X v2 v5 v6 = some R) : Z z (yK D cI ad) 8 (zQI z (yK D cI ad) R) X 96 [(0, .ref (ad 47)), (1, .ref (ad 7)), (2, .int v2), (5, .int v5), (6, .int v6)] [] := by
  unfold f_X3_bestOf_96 at hf
  refine z_iload F dX3_bestOf_96 3 rfl ?_
  refine z_istore_n (L' := [(3, .int v5), (0, .ref (ad 47)), (1, .ref (ad 7)), (2, .int v2), (5, .int v5), (6, .int v6)]) F dX3_bestOf_98 rfl (Nat.le_of_ble_eq_true rfl) rfl ?_
  refine z_iload F dX3_bestOf_99 5 rfl ?_
  refine z_istore (L' := [(4, .int v6), (3, .int v5), (0, .ref (ad 47)), (1, .ref (ad 7)), (2, .int v2), (5, .int v5), (6, .int v6)]) F dX3_bestOf_101 (Nat.le_of_ble_eq_true rfl) rfl ?_
  exact z_sub [2, 3, 4, 1, 0, 5] rfl (z_X3_bestOf_103 F n hk20 X v2 v5 v6 v5 hf)
set_option maxHeartbeats 4000000 in
set_option maxRecDepth 100000 in
theorem z_X3_bestOf_76 {z : ZC} {D : va_G} {cI : ClassId} {ad : Nat → Nat} {R : Int32 × KX} {k20 : KX → Int32 → Int32 → Int32 → Int32 → Option (Int32 × KX)} (F : ZF z (yK D cI ad) cX3_bestOf RX3 8 (some .int) 4) (n : Nat) (hk20 : ∀ (X : KX) (v2 : Int32) (v3 : Int32) (v4 : Int32) (v5 : Int32), k20 X v2 v3 v4 v5 = some R → Z z (yK D cI ad) 8 (zQI z (yK D cI ad) R) X 20 [(0, .ref (ad 47)), (1, .ref (ad 7)), (2, .int v2), (3, .int v3), (4, .int v4), (5, .int v5)] []) (X : KX) (s0 : Int32) (v2 : Int32) (v3 : Int32) (v4 : Int32) (v5 : Int32) (v6 : Int32) (hf : f_X3_bestOf_76 n k20 X s0 v2 v3 v4 v5 v6 = some R) : Z z (yK D cI ad) 8 (zQI z (yK D cI ad) R) X 76 [(0, .ref (ad 47)), (1, .ref (ad 7)), (2, .int v2), (3, .int v3), (4, .int v4), (5, .int v5), (6, .int v6)] [.int s0] := by
  unfold f_X3_bestOf_76 at hf
  refine z_istore (L' := [(7, .int s0), (0, .ref (ad 47)), (1, .ref (ad 7)), (2, .int v2), (3, .int v3), (4, .int v4), (5, .int v5), (6, .int v6)]) F dX3_bestOf_76 (Nat.le_of_ble_eq_true rfl) rfl ?_
  refine z_iload F dX3_bestOf_78 0 rfl ?_
  refine z_if_eq (tgt := 103) F hf dX3_bestOf_80 (by decide) (fun hf => ?_) (fun hf => ?_)
  · exact z_sub [1, 2, 3, 4, 5, 6] rfl (z_X3_bestOf_103 F n hk20 X v2 v3 v4 v5 hf)
  · refine z_iload_n F dX3_bestOf_83 4 rfl rfl ?_
    refine z_ldc F wm_589 dX3_bestOf_84 ?_
    refine z_icmp_eq (tgt := 96) F hf dX3_bestOf_86 (by decide) (fun hf => ?_) (fun hf => ?_)
    · exact z_sub [1, 2, 3, 6, 7] rfl (z_X3_bestOf_96 F n hk20 X v2 v5 v6 hf)
    · refine z_iload F dX3_bestOf_89 7 rfl ?_
      refine z_iload F dX3_bestOf_91 5 rfl ?_
      refine z_icmp_ge (tgt := 103) F hf dX3_bestOf_93 (by decide) (fun hf => ?_) (fun hf => ?_)
      · exact z_sub [1, 2, 3, 4, 5, 6] rfl (z_X3_bestOf_103 F n hk20 X v2 v3 v4 v5 hf)
      · exact z_sub [1, 2, 3, 6, 7] rfl (z_X3_bestOf_96 F n hk20 X v2 v5 v6 hf)
set_option maxHeartbeats 4000000 in
set_option maxRecDepth 100000 in
theorem z_X3_bestOf_75 {z : ZC} {D : va_G} {cI : ClassId} {ad : Nat → Nat} {R : Int32 × KX} {k20 : KX → Int32 → Int32 → Int32 → Int32 → Option (Int32 × KX)} (F : ZF z (yK D cI ad) cX3_bestOf RX3 8 (some .int) 4) (n : Nat) (hk20 : ∀ (X : KX) (v2 : Int32) (v3 : Int32) (v4 : Int32) (v5 : Int32), k20 X v2 v3 v4 v5 = some R → Z z (yK D cI ad) 8 (zQI z (yK D cI ad) R) X 20 [(0, .ref (ad 47)), (1, .ref (ad 7)), (2, .int v2), (3, .int v3), (4, .int v4), (5, .int v5)] []) (X : KX) (v2 : Int32) (v3 : Int32) (v4 : Int32) (v5 : Int32) (v6 : Int32) (hf : f_X3_bestOf_75 n k20 X v2 v3 v4 v5 v6 = some R) : Z z (yK D cI ad) 8 (zQI z (yK D cI ad) R) X 75 [(0, .ref (ad 47)), (1, .ref (ad 7)), (2, .int v2), (3, .int v3), (4, .int v4), (5, .int v5), (6, .int v6)] [] := by
  unfold f_X3_bestOf_75 at hf
  refine z_iconst (v := 0) F dX3_bestOf_75 (by decide +kernel) ?_
  exact z_sub [0, 1, 2, 3, 4, 5, 6] rfl (z_X3_bestOf_76 F n hk20 X 0 v2 v3 v4 v5 v6 hf)
set_option maxHeartbeats 4000000 in
set_option maxRecDepth 100000 in
theorem z_X3_bestOf_20 {z : ZC} {D : va_G} {cI : ClassId} {ad : Nat → Nat} {R : Int32 × KX} (F : ZF z (yK D cI ad) cX3_bestOf RX3 8 (some .int) 4) (n : Nat) : ∀ (t : Nat) (X : KX) (v2 : Int32) (v3 : Int32) (v4 : Int32) (v5 : Int32), f_X3_bestOf_20 n t X v2 v3 v4 v5 = some R → Z z (yK D cI ad) 8 (zQI z (yK D cI ad) R) X 20 [(0, .ref (ad 47)), (1, .ref (ad 7)), (2, .int v2), (3, .int v3), (4, .int v4), (5, .int v5)] [] := by
  intro t
  induction t with
  | zero => intro X v2 v3 v4 v5 hf; rw [f_X3_bestOf_20] at hf; exact zNone hf
  | succ t ih =>
    intro X v2 v3 v4 v5 hf
    rw [f_X3_bestOf_20] at hf
    refine z_iload F dX3_bestOf_20 5 rfl ?_
    refine z_aload_n F dX3_bestOf_22 1 rfl rfl ?_
    refine gK_7_5 F wm_142 dX3_bestOf_23 ?_
    refine z_icmp_ge (tgt := 109) F hf dX3_bestOf_26 (by decide) (fun hf => ?_) (fun hf => ?_)
    · refine z_iload_n F dX3_bestOf_109 2 rfl rfl ?_
      refine z_if_eq (tgt := 117) F hf dX3_bestOf_110 (by decide) (fun hf => ?_) (fun hf => ?_)
      · refine z_iload F dX3_bestOf_117 4 rfl ?_
        exact z_iret F dX3_bestOf_119 (Option.some.inj hf)
      · refine z_iload_n F dX3_bestOf_113 3 rfl rfl ?_
        refine z_goto (tgt := 119) F dX3_bestOf_114 (by decide) ?_
        exact z_iret F dX3_bestOf_119 (Option.some.inj hf)
    · refine z_aload_n F dX3_bestOf_29 0 rfl rfl ?_
      refine z_aload_n F dX3_bestOf_30 1 rfl rfl ?_
      refine gK_7_10 F wm_161 dX3_bestOf_31 ?_
      refine z_iload F dX3_bestOf_34 5 rfl ?_
      refine lK_12 F hf dX3_bestOf_36 (fun hf => ?_)
      refine z_aload_n F dX3_bestOf_37 1 rfl rfl ?_
      refine gK_7_3 F wm_132 dX3_bestOf_38 ?_
      refine k_X3_fewestFrom F (by decide) wm_635 (Nat.le_of_ble_eq_true rfl) hf dX3_bestOf_41 (fun r_1 hf => ?_)
      refine z_istore (L' := [(6, .int r_1), (0, .ref (ad 47)), (1, .ref (ad 7)), (2, .int v2), (3, .int v3), (4, .int v4), (5, .int v5)]) F dX3_bestOf_44 (Nat.le_of_ble_eq_true rfl) rfl ?_
      refine z_aload_n F dX3_bestOf_46 2 rfl rfl ?_
      refine z_iload F dX3_bestOf_47 6 rfl ?_
      refine k_X2_stateOf F (by decide) wm_636 (Nat.le_of_ble_eq_true rfl) dX3_bestOf_49 ?_
      refine z_if_ne (tgt := 75) F hf dX3_bestOf_52 (by decide) (fun hf => ?_) (fun hf => ?_)
      · exact z_sub [1, 2, 3, 4, 5, 6, 0] rfl (z_X3_bestOf_75 F n ih X v2 v3 v4 v5 r_1 hf)
      · refine z_aload_n F dX3_bestOf_55 2 rfl rfl ?_
        refine z_iload F dX3_bestOf_56 6 rfl ?_
        refine k_X2_dares F (by decide) wm_637 (Nat.le_of_ble_eq_true rfl) hf dX3_bestOf_58 (fun r_2 hf => ?_)
        refine z_if_eq (tgt := 75) F hf dX3_bestOf_61 (by decide) (fun hf => ?_) (fun hf => ?_)
        · exact z_sub [1, 2, 3, 4, 5, 6, 0] rfl (z_X3_bestOf_75 F n ih X v2 v3 v4 v5 r_1 hf)
        · refine z_iload F dX3_bestOf_64 0 rfl ?_
          refine z_ldc F wm_589 dX3_bestOf_66 ?_
          refine z_icmp_eq (tgt := 75) F hf dX3_bestOf_68 (by decide) (fun hf => ?_) (fun hf => ?_)
          · exact z_sub [1, 2, 3, 4, 5, 6, 0] rfl (z_X3_bestOf_75 F n ih X v2 v3 v4 v5 r_1 hf)
          · refine z_iconst (v := 1) F dX3_bestOf_71 (by decide +kernel) ?_
            refine z_goto (tgt := 76) F dX3_bestOf_72 (by decide) ?_
            exact z_sub [1, 2, 3, 4, 5, 6, 0] rfl (z_X3_bestOf_76 F n ih X 1 v2 v3 v4 v5 r_1 hf)
set_option maxHeartbeats 4000000 in
set_option maxRecDepth 100000 in
theorem z_X3_bestOf {z : ZC} {D : va_G} {cI : ClassId} {ad : Nat → Nat} {R : Int32 × KX} (F : ZF z (yK D cI ad) cX3_bestOf RX3 8 (some .int) 4) (n : Nat) (X : KX) (a2 : Int32) (hf : f_X3_bestOf n X a2 = some R) : Z z (yK D cI ad) 8 (zQI z (yK D cI ad) R) X 0 [(0, .ref (ad 47)), (1, .ref (ad 7)), (2, .int a2)] [] := by
  unfold f_X3_bestOf at hf
  refine z_ldc F wm_589 dX3_bestOf_0 ?_
  refine z_istore_n (L' := [(3, .int (-1000000)), (0, .ref (ad 47)), (1, .ref (ad 7)), (2, .int a2)]) F dX3_bestOf_2 rfl (Nat.le_of_ble_eq_true rfl) rfl ?_
  refine z_ldc F wm_589 dX3_bestOf_3 ?_
  refine z_istore (L' := [(4, .int (-1000000)), (3, .int (-1000000)), (0, .ref (ad 47)), (1, .ref (ad 7)), (2, .int a2)]) F dX3_bestOf_5 (Nat.le_of_ble_eq_true rfl) rfl ?_
  refine z_aload_n F dX3_bestOf_7 2 rfl rfl ?_
  refine z_aload_n F dX3_bestOf_8 3 rfl rfl ?_
  refine z_aload_n F dX3_bestOf_9 3 rfl rfl ?_
  refine k_X2_allHints F (by decide) wm_633 (Nat.le_of_ble_eq_true rfl) dX3_bestOf_10 ?_
  refine z_iconst (v := 0) F dX3_bestOf_13 (by decide +kernel) ?_
  refine k_X3_measure F (by decide) wm_634 (Nat.le_of_ble_eq_true rfl) hf dX3_bestOf_14 (fun X_1 hf => ?_)
  refine z_iconst (v := 0) F dX3_bestOf_17 (by decide +kernel) ?_
  refine z_istore (L' := [(5, .int 0), (4, .int (-1000000)), (3, .int (-1000000)), (0, .ref (ad 47)), (1, .ref (ad 7)), (2, .int a2)]) F dX3_bestOf_18 (Nat.le_of_ble_eq_true rfl) rfl ?_
  exact z_sub [3, 4, 5, 2, 1, 0] rfl (z_X3_bestOf_20 F n n X_1 a2 (-1000000) (-1000000) 0 hf)
theorem c_X3_bestOf {D : va_G} {cI : ClassId} {ad : Nat → Nat} {R : Int32 × KX} (n : Nat) (X : KX) (a2 : Int32) (hf : f_X3_bestOf n X a2 = some R) : zMI (yK D cI ad) yX3_bestOf cX3_bestOf 8 (some .int) 4 [.ref (ad 47), .ref (ad 7), .int a2] X R := zMI_of (by decide +kernel) (Nat.le_of_ble_eq_true rfl) (fun z F => z_sub [0, 1, 2] rfl (z_X3_bestOf F n X a2 hf))
theorem k_X3_bestOf {z : ZC} {D : va_G} {cI : ClassId} {ad : Nat → Nat} {cc : ByteArray} {own : String} {nL d pc index : Nat} {ret : Option FieldType} {Q : State → Prop} {X : KX} {L : List (Nat × Value)} {rest : List Value} {n : Nat} {a2 : Int32} (F : ZF z (yK D cI ad) cc own nL ret d) (hd : 4 + 1 ≤ d) (hw : Cond.methodLink own index yX3_bestOf ∈ wsA) (hst : (rest.map fun v => v.category).sum ≤ 8) {β : Type} {e : Int32 → KX → Option β} {r : β} (hf : zB2 (f_X3_bestOf n X a2) e = some r) (hdg : decode cc pc = .ok (.invokevirtual index, 3)) (kk : ∀ (v : Int32) (X2 : KX), e v X2 = some r → Z z (yK D cI ad) nL Q X2 (pc + 3) L (.int v :: rest)) : Z z (yK D cI ad) nL Q X pc L (.int a2 :: .ref (ad 7) :: .ref (ad 47) :: rest) := by
  obtain ⟨v, X2, h1, h2⟩ := zB2_some hf
  exact z_cVI (As := [.ref (ad 7), .int a2]) F (c_X3_bestOf n X a2 h1) kn_X3_bestOf kv_X3_bestOf hw (q0 := 47) rfl rfl hd rfl hst hdg rfl (kk v X2 h2)
theorem kv_X6_bestGuest : zKv yX6_bestGuest := ⟨wm_626, wm_627⟩
theorem kn_X6_bestGuest : zKn yX6_bestGuest cX6_bestGuest 2 (some .int) 1 := ⟨wm_628, wm_55, by decide +kernel, by decide⟩
set_option maxHeartbeats 4000000 in
set_option maxRecDepth 100000 in
theorem z_X6_bestGuest_41 {z : ZC} {D : va_G} {cI : ClassId} {ad : Nat → Nat} {R : Int32 × KX} (F : ZF z (yK D cI ad) cX6_bestGuest RX6 2 (some .int) 5) (n : Nat) (X : KX) (s0 : Int32) (hf : f_X6_bestGuest_41 n X s0 = some R) : Z z (yK D cI ad) 2 (zQI z (yK D cI ad) R) X 41 [] [.int s0, .ref (ad 7), .ref (ad 47)] := by
  unfold f_X6_bestGuest_41 at hf
  refine k_X3_bestOf F (by decide) wm_629 (Nat.le_of_ble_eq_true rfl) hf dX6_bestGuest_41 (fun r_1 X_2 hf => ?_)
  exact z_iret F dX6_bestGuest_44 (Option.some.inj hf)
set_option maxHeartbeats 4000000 in
set_option maxRecDepth 100000 in
theorem z_X6_bestGuest {z : ZC} {D : va_G} {cI : ClassId} {ad : Nat → Nat} {R : Int32 × KX} (F : ZF z (yK D cI ad) cX6_bestGuest RX6 2 (some .int) 5) (n : Nat) (X : KX) (a1 : Int32) (hf : f_X6_bestGuest n X a1 = some R) : Z z (yK D cI ad) 2 (zQI z (yK D cI ad) R) X 0 [(0, .ref (ad 0)), (1, .int a1)] [] := by
  unfold f_X6_bestGuest at hf
  refine z_aload_n F dX6_bestGuest_0 0 rfl rfl ?_
  refine gK_0_2 F wm_276 dX6_bestGuest_1 ?_
  refine gK_7_0 F wm_124 dX6_bestGuest_4 ?_
  refine z_if_ne (tgt := 13) F hf dX6_bestGuest_7 (by decide) (fun hf => ?_) (fun hf => ?_)
  · refine z_iload_n F dX6_bestGuest_13 1 rfl rfl ?_
    refine z_iconst (v := 2) F dX6_bestGuest_14 (by decide +kernel) ?_
    refine k_X6_isBelow F (by decide) wm_312 (Nat.le_of_ble_eq_true rfl) dX6_bestGuest_15 ?_
    refine z_if_ne (tgt := 24) F hf dX6_bestGuest_18 (by decide) (fun hf => ?_) (fun hf => ?_)
    · refine z_aload_n F dX6_bestGuest_24 0 rfl rfl ?_
      refine gK_0_7 F wm_281 dX6_bestGuest_25 ?_
      refine z_aload_n F dX6_bestGuest_28 0 rfl rfl ?_
      refine gK_0_2 F wm_276 dX6_bestGuest_29 ?_
      refine z_iload_n F dX6_bestGuest_32 1 rfl rfl ?_
      refine z_if_ne (tgt := 40) F hf dX6_bestGuest_33 (by decide) (fun hf => ?_) (fun hf => ?_)
      · refine z_iconst (v := 0) F dX6_bestGuest_40 (by decide +kernel) ?_
        exact z_sub [] rfl (z_X6_bestGuest_41 F n X 0 hf)
      · refine z_iconst (v := 1) F dX6_bestGuest_36 (by decide +kernel) ?_
        refine z_goto (tgt := 41) F dX6_bestGuest_37 (by decide) ?_
        exact z_sub [] rfl (z_X6_bestGuest_41 F n X 1 hf)
    · refine z_ldc F wm_315 dX6_bestGuest_21 ?_
      exact z_iret F dX6_bestGuest_23 (Option.some.inj hf)
  · refine z_ldc F wm_457 dX6_bestGuest_10 ?_
    exact z_iret F dX6_bestGuest_12 (Option.some.inj hf)
theorem c_X6_bestGuest {D : va_G} {cI : ClassId} {ad : Nat → Nat} {R : Int32 × KX} (n : Nat) (X : KX) (a1 : Int32) (hf : f_X6_bestGuest n X a1 = some R) : zMI (yK D cI ad) yX6_bestGuest cX6_bestGuest 2 (some .int) 5 [.ref (ad 0), .int a1] X R := zMI_of (by decide +kernel) (Nat.le_of_ble_eq_true rfl) (fun z F => z_sub [0, 1] rfl (z_X6_bestGuest F n X a1 hf))
theorem k_X6_bestGuest {z : ZC} {D : va_G} {cI : ClassId} {ad : Nat → Nat} {cc : ByteArray} {own : String} {nL d pc index : Nat} {ret : Option FieldType} {Q : State → Prop} {X : KX} {L : List (Nat × Value)} {rest : List Value} {n : Nat} {a1 : Int32} (F : ZF z (yK D cI ad) cc own nL ret d) (hd : 5 + 1 ≤ d) (hw : Cond.methodLink own index yX6_bestGuest ∈ wsA) (hst : (rest.map fun v => v.category).sum ≤ 8) {β : Type} {e : Int32 → KX → Option β} {r : β} (hf : zB2 (f_X6_bestGuest n X a1) e = some r) (hdg : decode cc pc = .ok (.invokevirtual index, 3)) (kk : ∀ (v : Int32) (X2 : KX), e v X2 = some r → Z z (yK D cI ad) nL Q X2 (pc + 3) L (.int v :: rest)) : Z z (yK D cI ad) nL Q X pc L (.int a1 :: .ref (ad 0) :: rest) := by
  obtain ⟨v, X2, h1, h2⟩ := zB2_some hf
  exact z_cVI (As := [.int a1]) F (c_X6_bestGuest n X a1 h1) kn_X6_bestGuest kv_X6_bestGuest hw (q0 := 0) rfl rfl hd rfl hst hdg rfl (kk v X2 h2)
theorem kv_X2_thoughtsToCome : zKv yX2_thoughtsToCome := ⟨wm_647, wm_648⟩
theorem kn_X2_thoughtsToCome : zKn yX2_thoughtsToCome cX2_thoughtsToCome 3 (some .int) 0 := ⟨wm_649, wm_58, by decide +kernel, by decide⟩
set_option maxHeartbeats 4000000 in
set_option maxRecDepth 100000 in
theorem z_X2_thoughtsToCome_31 {z : ZC} {D : va_G} {cI : ClassId} {ad : Nat → Nat} {r : Int32} {k4 : Int32 → Int32 → Option Int32} (F : ZF z (yK D cI ad) cX2_thoughtsToCome RX2 3 (some .int) 3) (n : Nat) (X : KX) (hk4 : ∀ (v1 : Int32) (v2 : Int32), k4 v1 v2 = some r → Z z (yK D cI ad) 3 (zQI z (yK D cI ad) (r, X)) X 4 [(0, .ref (ad 7)), (1, .int v1), (2, .int v2)] []) (v1 : Int32) (v2 : Int32) (hf : f_X2_thoughtsToCome_31 n X k4 v1 v2 = some r) : Z z (yK D cI ad) 3 (zQI z (yK D cI ad) (r, X)) X 31 [(0, .ref (ad 7)), (1, .int v1), (2, .int v2)] [] := by
  unfold f_X2_thoughtsToCome_31 at hf
  refine z_iinc (w := 1) (L' := fun v2_1 => [(2, .int v2_1), (0, .ref (ad 7)), (1, .int v1)]) F hf dX2_thoughtsToCome_31 2 rfl (by decide +kernel) (Nat.le_of_ble_eq_true rfl) (fun _ => rfl) (fun v2_1 hf => ?_)
  refine z_goto (tgt := 4) F dX2_thoughtsToCome_34 (by decide) ?_
  exact z_sub [1, 2, 0] rfl (hk4 v1 v2_1 hf)
set_option maxHeartbeats 4000000 in
set_option maxRecDepth 100000 in
theorem z_X2_thoughtsToCome_4 {z : ZC} {D : va_G} {cI : ClassId} {ad : Nat → Nat} {r : Int32} (F : ZF z (yK D cI ad) cX2_thoughtsToCome RX2 3 (some .int) 3) (n : Nat) (X : KX) : ∀ (t : Nat) (v1 : Int32) (v2 : Int32), f_X2_thoughtsToCome_4 n X t v1 v2 = some r → Z z (yK D cI ad) 3 (zQI z (yK D cI ad) (r, X)) X 4 [(0, .ref (ad 7)), (1, .int v1), (2, .int v2)] [] := by
  intro t
  induction t with
  | zero => intro v1 v2 hf; rw [f_X2_thoughtsToCome_4] at hf; exact zNone hf
  | succ t ih =>
    intro v1 v2 hf
    rw [f_X2_thoughtsToCome_4] at hf
    refine z_iload_n F dX2_thoughtsToCome_4 2 rfl rfl ?_
    refine z_aload_n F dX2_thoughtsToCome_5 0 rfl rfl ?_
    refine gK_7_5 F wm_139 dX2_thoughtsToCome_6 ?_
    refine z_icmp_ge (tgt := 37) F hf dX2_thoughtsToCome_9 (by decide) (fun hf => ?_) (fun hf => ?_)
    · refine z_iload_n F dX2_thoughtsToCome_37 1 rfl rfl ?_
      exact z_iret F dX2_thoughtsToCome_38 (Prod.ext (Option.some.inj hf) rfl)
    · refine z_aload_n F dX2_thoughtsToCome_12 0 rfl rfl ?_
      refine z_iload_n F dX2_thoughtsToCome_13 2 rfl rfl ?_
      refine k_X2_stateOf F (by decide) wm_650 (Nat.le_of_ble_eq_true rfl) dX2_thoughtsToCome_14 ?_
      refine z_if_ne (tgt := 31) F hf dX2_thoughtsToCome_17 (by decide) (fun hf => ?_) (fun hf => ?_)
      · exact z_sub [0, 1, 2] rfl (z_X2_thoughtsToCome_31 F n X ih v1 v2 hf)
      · refine z_iload_n F dX2_thoughtsToCome_20 1 rfl rfl ?_
        refine z_iconst (v := 1) F dX2_thoughtsToCome_21 (by decide +kernel) ?_
        refine z_aload_n F dX2_thoughtsToCome_22 0 rfl rfl ?_
        refine gK_7_10 F wm_160 dX2_thoughtsToCome_23 ?_
        refine z_iload_n F dX2_thoughtsToCome_26 2 rfl rfl ?_
        refine lK_12 F hf dX2_thoughtsToCome_27 (fun hf => ?_)
        refine z_ishl F dX2_thoughtsToCome_28 ?_
        refine z_ior F dX2_thoughtsToCome_29 ?_
        refine z_top hf (fun v1_1 hf => ?_)
        refine z_istore_n (L' := [(1, .int v1_1), (0, .ref (ad 7)), (2, .int v2)]) F dX2_thoughtsToCome_30 rfl (Nat.le_of_ble_eq_true rfl) rfl ?_
        exact z_sub [1, 0, 2] rfl (z_X2_thoughtsToCome_31 F n X ih v1_1 v2 hf)
set_option maxHeartbeats 4000000 in
set_option maxRecDepth 100000 in
theorem z_X2_thoughtsToCome {z : ZC} {D : va_G} {cI : ClassId} {ad : Nat → Nat} {r : Int32} (F : ZF z (yK D cI ad) cX2_thoughtsToCome RX2 3 (some .int) 3) (n : Nat) (X : KX)  (hf : f_X2_thoughtsToCome n X = some r) : Z z (yK D cI ad) 3 (zQI z (yK D cI ad) (r, X)) X 0 [(0, .ref (ad 7))] [] := by
  unfold f_X2_thoughtsToCome at hf
  refine z_iconst (v := 0) F dX2_thoughtsToCome_0 (by decide +kernel) ?_
  refine z_istore_n (L' := [(1, .int 0), (0, .ref (ad 7))]) F dX2_thoughtsToCome_1 rfl (Nat.le_of_ble_eq_true rfl) rfl ?_
  refine z_iconst (v := 0) F dX2_thoughtsToCome_2 (by decide +kernel) ?_
  refine z_istore_n (L' := [(2, .int 0), (1, .int 0), (0, .ref (ad 7))]) F dX2_thoughtsToCome_3 rfl (Nat.le_of_ble_eq_true rfl) rfl ?_
  exact z_sub [2, 1, 0] rfl (z_X2_thoughtsToCome_4 F n X n 0 0 hf)
theorem c_X2_thoughtsToCome {D : va_G} {cI : ClassId} {ad : Nat → Nat} {r : Int32} (n : Nat) (X : KX)  (hf : f_X2_thoughtsToCome n X = some r) : zMI (yK D cI ad) yX2_thoughtsToCome cX2_thoughtsToCome 3 (some .int) 3 [.ref (ad 7)] X (r, X) := zMI_of (by decide +kernel) (Nat.le_of_ble_eq_true rfl) (fun z F => z_sub [0] rfl (z_X2_thoughtsToCome F n X hf))
theorem k_X2_thoughtsToCome {z : ZC} {D : va_G} {cI : ClassId} {ad : Nat → Nat} {cc : ByteArray} {own : String} {nL d pc index : Nat} {ret : Option FieldType} {Q : State → Prop} {X : KX} {L : List (Nat × Value)} {rest : List Value} {n : Nat} (F : ZF z (yK D cI ad) cc own nL ret d) (hd : 3 + 1 ≤ d) (hw : Cond.methodLink own index yX2_thoughtsToCome ∈ wsA) (hst : (rest.map fun v => v.category).sum ≤ 8) {β : Type} {e : Int32 → Option β} {r : β} (hf : zB1 (f_X2_thoughtsToCome n X) e = some r) (hdg : decode cc pc = .ok (.invokevirtual index, 3)) (kk : ∀ v : Int32, e v = some r → Z z (yK D cI ad) nL Q X (pc + 3) L (.int v :: rest)) : Z z (yK D cI ad) nL Q X pc L (.ref (ad 7) :: rest) := by
  obtain ⟨v, h1, h2⟩ := zB1_some hf
  exact z_cVI (As := []) F (c_X2_thoughtsToCome n X h1) kn_X2_thoughtsToCome kv_X2_thoughtsToCome hw (q0 := 7) rfl rfl hd rfl hst hdg rfl (kk v h2)
theorem kv_X3_thoughtsWithRoute : zKv yX3_thoughtsWithRoute := ⟨wm_657, wm_15⟩
theorem kn_X3_thoughtsWithRoute : zKn yX3_thoughtsWithRoute cX3_thoughtsWithRoute 3 (some .int) 2 := ⟨wm_658, wm_60, by decide +kernel, by decide⟩
set_option maxHeartbeats 4000000 in
set_option maxRecDepth 100000 in
theorem z_X3_thoughtsWithRoute {z : ZC} {D : va_G} {cI : ClassId} {ad : Nat → Nat} {R : Int32 × KX} (F : ZF z (yK D cI ad) cX3_thoughtsWithRoute RX3 3 (some .int) 4) (n : Nat) (X : KX) (a2 : Int32) (hf : f_X3_thoughtsWithRoute n X a2 = some R) : Z z (yK D cI ad) 3 (zQI z (yK D cI ad) R) X 0 [(0, .ref (ad 47)), (1, .ref (ad 7)), (2, .int a2)] [] := by
  unfold f_X3_thoughtsWithRoute at hf
  refine z_aload_n F dX3_thoughtsWithRoute_0 0 rfl rfl ?_
  refine z_aload_n F dX3_thoughtsWithRoute_1 1 rfl rfl ?_
  refine z_iload_n F dX3_thoughtsWithRoute_2 2 rfl rfl ?_
  refine z_iconst (v := 0) F dX3_thoughtsWithRoute_3 (by decide +kernel) ?_
  refine k_X3_measure F (by decide) wm_634 (Nat.le_of_ble_eq_true rfl) hf dX3_thoughtsWithRoute_4 (fun X_1 hf => ?_)
  refine z_aload_n F dX3_thoughtsWithRoute_7 1 rfl rfl ?_
  refine gK_7_3 F wm_132 dX3_thoughtsWithRoute_8 ?_
  refine z_aload_n F dX3_thoughtsWithRoute_11 0 rfl rfl ?_
  refine gK_47_0 F wm_252 dX3_thoughtsWithRoute_12 ?_
  refine nK_48 F dX3_thoughtsWithRoute_15 ?_
  refine k_X6_isBelowN F (by decide) (fun _ h => h.2.2.2.1) (Nat.le_of_ble_eq_true rfl) dX3_thoughtsWithRoute_16 ?_
  refine z_if_eq (tgt := 34) F hf dX3_thoughtsWithRoute_19 (by decide) (fun hf => ?_) (fun hf => ?_)
  · refine z_iconst (v := 0) F dX3_thoughtsWithRoute_34 (by decide +kernel) ?_
    exact z_iret F dX3_thoughtsWithRoute_35 (Option.some.inj hf)
  · refine z_aload_n F dX3_thoughtsWithRoute_22 0 rfl rfl ?_
    refine gK_47_0 F wm_252 dX3_thoughtsWithRoute_23 ?_
    refine z_aload_n F dX3_thoughtsWithRoute_26 1 rfl rfl ?_
    refine gK_7_3 F wm_132 dX3_thoughtsWithRoute_27 ?_
    refine lK_48 F hf dX3_thoughtsWithRoute_30 (fun hf => ?_)
    refine z_goto (tgt := 35) F dX3_thoughtsWithRoute_31 (by decide) ?_
    exact z_iret F dX3_thoughtsWithRoute_35 (Option.some.inj hf)
theorem c_X3_thoughtsWithRoute {D : va_G} {cI : ClassId} {ad : Nat → Nat} {R : Int32 × KX} (n : Nat) (X : KX) (a2 : Int32) (hf : f_X3_thoughtsWithRoute n X a2 = some R) : zMI (yK D cI ad) yX3_thoughtsWithRoute cX3_thoughtsWithRoute 3 (some .int) 4 [.ref (ad 47), .ref (ad 7), .int a2] X R := zMI_of (by decide +kernel) (Nat.le_of_ble_eq_true rfl) (fun z F => z_sub [0, 1, 2] rfl (z_X3_thoughtsWithRoute F n X a2 hf))
theorem k_X3_thoughtsWithRoute {z : ZC} {D : va_G} {cI : ClassId} {ad : Nat → Nat} {cc : ByteArray} {own : String} {nL d pc index : Nat} {ret : Option FieldType} {Q : State → Prop} {X : KX} {L : List (Nat × Value)} {rest : List Value} {n : Nat} {a2 : Int32} (F : ZF z (yK D cI ad) cc own nL ret d) (hd : 4 + 1 ≤ d) (hw : Cond.methodLink own index yX3_thoughtsWithRoute ∈ wsA) (hst : (rest.map fun v => v.category).sum ≤ 8) {β : Type} {e : Int32 → KX → Option β} {r : β} (hf : zB2 (f_X3_thoughtsWithRoute n X a2) e = some r) (hdg : decode cc pc = .ok (.invokevirtual index, 3)) (kk : ∀ (v : Int32) (X2 : KX), e v X2 = some r → Z z (yK D cI ad) nL Q X2 (pc + 3) L (.int v :: rest)) : Z z (yK D cI ad) nL Q X pc L (.int a2 :: .ref (ad 7) :: .ref (ad 47) :: rest) := by
  obtain ⟨v, X2, h1, h2⟩ := zB2_some hf
  exact z_cVI (As := [.ref (ad 7), .int a2]) F (c_X3_thoughtsWithRoute n X a2 h1) kn_X3_thoughtsWithRoute kv_X3_thoughtsWithRoute hw (q0 := 47) rfl rfl hd rfl hst hdg rfl (kk v X2 h2)
theorem kv_X3_haveRoute : zKv yX3_haveRoute := ⟨wm_653, wm_14⟩
theorem kn_X3_haveRoute : zKn yX3_haveRoute cX3_haveRoute 4 (some .boolean) 3 := ⟨wm_654, wm_60, by decide +kernel, by decide⟩
set_option maxHeartbeats 4000000 in
set_option maxRecDepth 100000 in
theorem z_X3_haveRoute {z : ZC} {D : va_G} {cI : ClassId} {ad : Nat → Nat} {R : Int32 × KX} (F : ZF z (yK D cI ad) cX3_haveRoute RX3 4 (some .boolean) 5) (n : Nat) (X : KX) (a2 : Int32) (a3 : Int32) (hf : f_X3_haveRoute n X a2 a3 = some R) : Z z (yK D cI ad) 4 (zQI z (yK D cI ad) R) X 0 [(0, .ref (ad 47)), (1, .ref (ad 7)), (2, .int a2), (3, .int a3)] [] := by
  unfold f_X3_haveRoute at hf
  refine z_iload_n F dX3_haveRoute_0 2 rfl rfl ?_
  refine z_aload_n F dX3_haveRoute_1 0 rfl rfl ?_
  refine z_aload_n F dX3_haveRoute_2 1 rfl rfl ?_
  refine z_iload_n F dX3_haveRoute_3 3 rfl rfl ?_
  refine k_X3_thoughtsWithRoute F (by decide) wm_655 (Nat.le_of_ble_eq_true rfl) hf dX3_haveRoute_4 (fun r_1 X_2 hf => ?_)
  refine z_iconst (v := (-1)) F dX3_haveRoute_7 (by decide +kernel) ?_
  refine z_ixor F dX3_haveRoute_8 ?_
  refine z_iand F dX3_haveRoute_9 ?_
  refine z_if_ne (tgt := 17) F hf dX3_haveRoute_10 (by decide) (fun hf => ?_) (fun hf => ?_)
  · refine z_iconst (v := 0) F dX3_haveRoute_17 (by decide +kernel) ?_
    exact z_zret F (by decide) dX3_haveRoute_18 (Option.some.inj hf)
  · refine z_iconst (v := 1) F dX3_haveRoute_13 (by decide +kernel) ?_
    refine z_goto (tgt := 18) F dX3_haveRoute_14 (by decide) ?_
    exact z_zret F (by decide) dX3_haveRoute_18 (Option.some.inj hf)
theorem c_X3_haveRoute {D : va_G} {cI : ClassId} {ad : Nat → Nat} {R : Int32 × KX} (n : Nat) (X : KX) (a2 : Int32) (a3 : Int32) (hf : f_X3_haveRoute n X a2 a3 = some R) : zMI (yK D cI ad) yX3_haveRoute cX3_haveRoute 4 (some .boolean) 5 [.ref (ad 47), .ref (ad 7), .int a2, .int a3] X R := zMI_of (by decide +kernel) (Nat.le_of_ble_eq_true rfl) (fun z F => z_sub [0, 1, 2, 3] rfl (z_X3_haveRoute F n X a2 a3 hf))
theorem k_X3_haveRoute {z : ZC} {D : va_G} {cI : ClassId} {ad : Nat → Nat} {cc : ByteArray} {own : String} {nL d pc index : Nat} {ret : Option FieldType} {Q : State → Prop} {X : KX} {L : List (Nat × Value)} {rest : List Value} {n : Nat} {a2 a3 : Int32} (F : ZF z (yK D cI ad) cc own nL ret d) (hd : 5 + 1 ≤ d) (hw : Cond.methodLink own index yX3_haveRoute ∈ wsA) (hst : (rest.map fun v => v.category).sum ≤ 8) {β : Type} {e : Int32 → KX → Option β} {r : β} (hf : zB2 (f_X3_haveRoute n X a2 a3) e = some r) (hdg : decode cc pc = .ok (.invokevirtual index, 3)) (kk : ∀ (v : Int32) (X2 : KX), e v X2 = some r → Z z (yK D cI ad) nL Q X2 (pc + 3) L (.int v :: rest)) : Z z (yK D cI ad) nL Q X pc L (.int a3 :: .int a2 :: .ref (ad 7) :: .ref (ad 47) :: rest) := by
  obtain ⟨v, X2, h1, h2⟩ := zB2_some hf
  exact z_cVI (As := [.ref (ad 7), .int a2, .int a3]) F (c_X3_haveRoute n X a2 a3 h1) kn_X3_haveRoute kv_X3_haveRoute hw (q0 := 47) rfl rfl hd rfl hst hdg rfl (kk v X2 h2)
theorem kv_X3_fewestForAll : zKv yX3_fewestForAll := ⟨wm_643, wm_644⟩
theorem kn_X3_fewestForAll : zKn yX3_fewestForAll cX3_fewestForAll 6 (some .int) 1 := ⟨wm_645, wm_60, by decide +kernel, by decide⟩
set_option maxHeartbeats 4000000 in
set_option maxRecDepth 100000 in
theorem z_X3_fewestForAll_80 {z : ZC} {D : va_G} {cI : ClassId} {ad : Nat → Nat} {R : Int32 × KX} {k27 : KX → Int32 → Int32 → Int32 → Option (Int32 × KX)} (F : ZF z (yK D cI ad) cX3_fewestForAll RX3 6 (some .int) 6) (n : Nat) (hk27 : ∀ (X : KX) (v2 : Int32) (v3 : Int32) (v4 : Int32), k27 X v2 v3 v4 = some R → Z z (yK D cI ad) 6 (zQI z (yK D cI ad) R) X 27 [(0, .ref (ad 47)), (1, .ref (ad 7)), (2, .int v2), (3, .int v3), (4, .int v4)] []) (X : KX) (v2 : Int32) (v3 : Int32) (v4 : Int32) (hf : f_X3_fewestForAll_80 n k27 X v2 v3 v4 = some R) : Z z (yK D cI ad) 6 (zQI z (yK D cI ad) R) X 80 [(0, .ref (ad 47)), (1, .ref (ad 7)), (2, .int v2), (3, .int v3), (4, .int v4)] [] := by
  unfold f_X3_fewestForAll_80 at hf
  refine z_iinc (w := 1) (L' := fun v4_1 => [(4, .int v4_1), (0, .ref (ad 47)), (1, .ref (ad 7)), (2, .int v2), (3, .int v3)]) F hf dX3_fewestForAll_80 4 rfl (by decide +kernel) (Nat.le_of_ble_eq_true rfl) (fun _ => rfl) (fun v4_1 hf => ?_)
  refine z_goto (tgt := 27) F dX3_fewestForAll_83 (by decide) ?_
  exact z_sub [1, 2, 3, 4, 0] rfl (hk27 X v2 v3 v4_1 hf)
set_option maxHeartbeats 4000000 in
set_option maxRecDepth 100000 in
theorem z_X3_fewestForAll_59 {z : ZC} {D : va_G} {cI : ClassId} {ad : Nat → Nat} {R : Int32 × KX} {k27 : KX → Int32 → Int32 → Int32 → Option (Int32 × KX)} (F : ZF z (yK D cI ad) cX3_fewestForAll RX3 6 (some .int) 6) (n : Nat) (hk27 : ∀ (X : KX) (v2 : Int32) (v3 : Int32) (v4 : Int32), k27 X v2 v3 v4 = some R → Z z (yK D cI ad) 6 (zQI z (yK D cI ad) R) X 27 [(0, .ref (ad 47)), (1, .ref (ad 7)), (2, .int v2), (3, .int v3), (4, .int v4)] []) (X : KX) (s0 : Int32) (v2 : Int32) (v3 : Int32) (v4 : Int32) (hf : f_X3_fewestForAll_59 n k27 X s0 v2 v3 v4 = some R) : Z z (yK D cI ad) 6 (zQI z (yK D cI ad) R) X 59 [(0, .ref (ad 47)), (1, .ref (ad 7)), (2, .int v2), (3, .int v3), (4, .int v4)] [.int s0] := by
  unfold f_X3_fewestForAll_59 at hf
  refine z_istore (L' := [(5, .int s0), (0, .ref (ad 47)), (1, .ref (ad 7)), (2, .int v2), (3, .int v3), (4, .int v4)]) F dX3_fewestForAll_59 (Nat.le_of_ble_eq_true rfl) rfl ?_
  refine z_iload F dX3_fewestForAll_61 0 rfl ?_
  refine z_if_eq (tgt := 80) F hf dX3_fewestForAll_63 (by decide) (fun hf => ?_) (fun hf => ?_)
  · exact z_sub [1, 2, 3, 4, 5] rfl (z_X3_fewestForAll_80 F n hk27 X v2 v3 v4 hf)
  · refine z_aload_n F dX3_fewestForAll_66 1 rfl rfl ?_
    refine z_aload_n F dX3_fewestForAll_67 2 rfl rfl ?_
    refine z_iload_n F dX3_fewestForAll_68 3 rfl rfl ?_
    refine z_iload F dX3_fewestForAll_69 5 rfl ?_
    refine k_X3_haveRoute F (by decide) wm_651 (Nat.le_of_ble_eq_true rfl) hf dX3_fewestForAll_71 (fun r_1 X_2 hf => ?_)
    refine z_if_eq (tgt := 80) F hf dX3_fewestForAll_74 (by decide) (fun hf => ?_) (fun hf => ?_)
    · exact z_sub [1, 2, 3, 4, 5] rfl (z_X3_fewestForAll_80 F n hk27 X_2 v2 v3 v4 hf)
    · refine z_iload F dX3_fewestForAll_77 5 rfl ?_
      refine z_istore_n (L' := [(3, .int v4), (5, .int s0), (0, .ref (ad 47)), (1, .ref (ad 7)), (2, .int v2), (4, .int v4)]) F dX3_fewestForAll_79 rfl (Nat.le_of_ble_eq_true rfl) rfl ?_
      exact z_sub [2, 3, 4, 0, 5] rfl (z_X3_fewestForAll_80 F n hk27 X_2 v2 v4 v4 hf)
set_option maxHeartbeats 4000000 in
set_option maxRecDepth 100000 in
theorem z_X3_fewestForAll_54 {z : ZC} {D : va_G} {cI : ClassId} {ad : Nat → Nat} {R : Int32 × KX} {k27 : KX → Int32 → Int32 → Int32 → Option (Int32 × KX)} (F : ZF z (yK D cI ad) cX3_fewestForAll RX3 6 (some .int) 6) (n : Nat) (hk27 : ∀ (X : KX) (v2 : Int32) (v3 : Int32) (v4 : Int32), k27 X v2 v3 v4 = some R → Z z (yK D cI ad) 6 (zQI z (yK D cI ad) R) X 27 [(0, .ref (ad 47)), (1, .ref (ad 7)), (2, .int v2), (3, .int v3), (4, .int v4)] []) (X : KX) (v2 : Int32) (v3 : Int32) (v4 : Int32) (hf : f_X3_fewestForAll_54 n k27 X v2 v3 v4 = some R) : Z z (yK D cI ad) 6 (zQI z (yK D cI ad) R) X 54 [(0, .ref (ad 47)), (1, .ref (ad 7)), (2, .int v2), (3, .int v3), (4, .int v4)] [] := by
  unfold f_X3_fewestForAll_54 at hf
  refine z_iconst (v := 1) F dX3_fewestForAll_54 (by decide +kernel) ?_
  refine z_goto (tgt := 59) F dX3_fewestForAll_55 (by decide) ?_
  exact z_sub [0, 1, 2, 3, 4] rfl (z_X3_fewestForAll_59 F n hk27 X 1 v2 v3 v4 hf)
set_option maxHeartbeats 4000000 in
set_option maxRecDepth 100000 in
theorem z_X3_fewestForAll_27 {z : ZC} {D : va_G} {cI : ClassId} {ad : Nat → Nat} {R : Int32 × KX} (F : ZF z (yK D cI ad) cX3_fewestForAll RX3 6 (some .int) 6) (n : Nat) : ∀ (t : Nat) (X : KX) (v2 : Int32) (v3 : Int32) (v4 : Int32), f_X3_fewestForAll_27 n t X v2 v3 v4 = some R → Z z (yK D cI ad) 6 (zQI z (yK D cI ad) R) X 27 [(0, .ref (ad 47)), (1, .ref (ad 7)), (2, .int v2), (3, .int v3), (4, .int v4)] [] := by
  intro t
  induction t with
  | zero => intro X v2 v3 v4 hf; rw [f_X3_fewestForAll_27] at hf; exact zNone hf
  | succ t ih =>
    intro X v2 v3 v4 hf
    rw [f_X3_fewestForAll_27] at hf
    refine z_iload F dX3_fewestForAll_27 4 rfl ?_
    refine z_aload_n F dX3_fewestForAll_29 1 rfl rfl ?_
    refine k_X2_allHints F (by decide) wm_633 (Nat.le_of_ble_eq_true rfl) dX3_fewestForAll_30 ?_
    refine z_icmp_gt (tgt := 86) F hf dX3_fewestForAll_33 (by decide) (fun hf => ?_) (fun hf => ?_)
    · refine z_iload_n F dX3_fewestForAll_86 3 rfl rfl ?_
      exact z_iret F dX3_fewestForAll_87 (Option.some.inj hf)
    · refine z_iload_n F dX3_fewestForAll_36 3 rfl rfl ?_
      refine z_ldc F wm_589 dX3_fewestForAll_37 ?_
      refine z_icmp_eq (tgt := 54) F hf dX3_fewestForAll_39 (by decide) (fun hf => ?_) (fun hf => ?_)
      · exact z_sub [0, 1, 2, 3, 4] rfl (z_X3_fewestForAll_54 F n ih X v2 v3 v4 hf)
      · refine z_iload F dX3_fewestForAll_42 4 rfl ?_
        refine k_J6_bitCount_0f7a4 F (by decide) wm_660 (Nat.le_of_ble_eq_true rfl) dX3_fewestForAll_44 ?_
        refine z_iload_n F dX3_fewestForAll_47 3 rfl rfl ?_
        refine k_J6_bitCount_0f7a4 F (by decide) wm_660 (Nat.le_of_ble_eq_true rfl) dX3_fewestForAll_48 ?_
        refine z_icmp_ge (tgt := 58) F hf dX3_fewestForAll_51 (by decide) (fun hf => ?_) (fun hf => ?_)
        · refine z_iconst (v := 0) F dX3_fewestForAll_58 (by decide +kernel) ?_
          exact z_sub [0, 1, 2, 3, 4] rfl (z_X3_fewestForAll_59 F n ih X 0 v2 v3 v4 hf)
        · exact z_sub [0, 1, 2, 3, 4] rfl (z_X3_fewestForAll_54 F n ih X v2 v3 v4 hf)
