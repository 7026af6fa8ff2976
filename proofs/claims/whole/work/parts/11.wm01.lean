theorem kv_X7_in : Cond.static yX7_in ∈ wsA := wm_844
theorem kn_X7_in : zKn yX7_in cX7_in 3 (some .boolean) 3 := ⟨wm_845, wm_62, by decide +kernel, by decide⟩
set_option maxHeartbeats 4000000 in
set_option maxRecDepth 100000 in
theorem z_X7_in {z : ZC} {D : va_G} {cI cZ : ClassId} {ad : Nat → Nat} {r : Int32} (F : ZF z (yM D cI cZ ad) cX7_in RX7 3 (some .boolean) 1) {X : KX} (a0 : Int32) (a1 : Int32) (a2 : Int32) (hf : f_X7_in a0 a1 a2 = r) : Z z (yM D cI cZ ad) 3 (zQI z (yM D cI cZ ad) (r, X)) X 0 [(0, .int a0), (1, .int a1), (2, .int a2)] [] := by
  unfold f_X7_in at hf
  refine z_iload_n F dX7_in_0 0 rfl rfl ?_
  refine z_iload_n F dX7_in_1 1 rfl rfl ?_
  refine z_icmp_lt (tgt := 14) F hf dX7_in_2 (by decide) (fun hf => ?_) (fun hf => ?_)
  · refine z_iconst (v := 0) F dX7_in_14 (by decide +kernel) ?_
    exact z_zret F (by decide) dX7_in_15 (Prod.ext hf rfl)
  · refine z_iload_n F dX7_in_5 0 rfl rfl ?_
    refine z_iload_n F dX7_in_6 2 rfl rfl ?_
    refine z_icmp_gt (tgt := 14) F hf dX7_in_7 (by decide) (fun hf => ?_) (fun hf => ?_)
    · refine z_iconst (v := 0) F dX7_in_14 (by decide +kernel) ?_
      exact z_zret F (by decide) dX7_in_15 (Prod.ext hf rfl)
    · refine z_iconst (v := 1) F dX7_in_10 (by decide +kernel) ?_
      refine z_goto (tgt := 15) F dX7_in_11 (by decide) ?_
      exact z_zret F (by decide) dX7_in_15 (Prod.ext hf rfl)
theorem c_X7_in {D : va_G} {cI cZ : ClassId} {ad : Nat → Nat} (X : KX) (a0 : Int32) (a1 : Int32) (a2 : Int32) : zMI (yM D cI cZ ad) yX7_in cX7_in 3 (some .boolean) 1 [.int a0, .int a1, .int a2] X (f_X7_in a0 a1 a2, X) := zMI_of (by decide +kernel) (Nat.le_of_ble_eq_true rfl) (fun z F => z_sub [0, 1, 2] rfl (z_X7_in F a0 a1 a2 rfl))
theorem k_X7_in {z : ZC} {D : va_G} {cI cZ : ClassId} {ad : Nat → Nat} {cc : ByteArray} {own : String} {nL d pc index : Nat} {ret : Option FieldType} {Q : State → Prop} {X : KX} {L : List (Nat × Value)} {rest : List Value} {a0 a1 a2 : Int32} (F : ZF z (yM D cI cZ ad) cc own nL ret d) (hd : 1 + 1 ≤ d) (hw : Cond.methodLink own index yX7_in ∈ wsA) (hst : (rest.map fun v => v.category).sum ≤ 8) (hdg : decode cc pc = .ok (.invokestatic index, 3)) (kk : Z z (yM D cI cZ ad) nL Q X (pc + 3) L (.int (f_X7_in a0 a1 a2) :: rest)) : Z z (yM D cI cZ ad) nL Q X pc L (.int a2 :: .int a1 :: .int a0 :: rest) := z_cSI (As := [.int a0, .int a1, .int a2]) F (c_X7_in X a0 a1 a2) kn_X7_in kv_X7_in hw hd rfl hst hdg rfl kk
theorem k_X7_inN {z : ZC} {D : va_G} {cI cZ : ClassId} {ad : Nat → Nat} {cc : ByteArray} {own : String} {nL d pc index : Nat} {ret : Option FieldType} {Q : State → Prop} {X : KX} {L : List (Nat × Value)} {rest : List Value} {a0 a1 a2 : Int32} (F : ZF z (yM D cI cZ ad) cc own nL ret d) (hd : 1 + 1 ≤ d) (hw : ∀ s, zN s → va_Nw (.methodLinkNest own index yX7_in "AilingKing") s) (hst : (rest.map fun v => v.category).sum ≤ 8) (hdg : decode cc pc = .ok (.invokestatic index, 3)) (kk : Z z (yM D cI cZ ad) nL Q X (pc + 3) L (.int (f_X7_in a0 a1 a2) :: rest)) : Z z (yM D cI cZ ad) nL Q X pc L (.int a2 :: .int a1 :: .int a0 :: rest) := z_cNI (As := [.int a0, .int a1, .int a2]) F (c_X7_in X a0 a1 a2) kn_X7_in kv_X7_in hw hd rfl hst hdg rfl kk
theorem bz_X7_in (a0 : Int32) (a1 : Int32) (a2 : Int32) : f_X7_in a0 a1 a2 = 0 ∨ f_X7_in a0 a1 a2 = 1 := by
  unfold f_X7_in
  repeat' split
  all_goals first | exact Or.inl rfl | exact Or.inr rfl | exact bz_X6_isBelow _ _ | exact bz_X5_isFigure _ | exact bz_X2_isGuest _ _ | exact bz_X6_has _ _ | exact bz_X2_isHint _ _ | exact bz_X6_isOneOf _ _
theorem kv_X7_isRow : Cond.static yX7_isRow ∈ wsA := wm_841
theorem kn_X7_isRow : zKn yX7_isRow cX7_isRow 1 (some .boolean) 1 := ⟨wm_842, wm_62, by decide +kernel, by decide⟩
set_option maxHeartbeats 4000000 in
set_option maxRecDepth 100000 in
theorem z_X7_isRow {z : ZC} {D : va_G} {cI cZ : ClassId} {ad : Nat → Nat} {r : Int32} (F : ZF z (yM D cI cZ ad) cX7_isRow RX7 1 (some .boolean) 2) {X : KX} (a0 : Int32) (hf : f_X7_isRow a0 = r) : Z z (yM D cI cZ ad) 1 (zQI z (yM D cI cZ ad) (r, X)) X 0 [(0, .int a0)] [] := by
  unfold f_X7_isRow at hf
  refine z_iload_n F dX7_isRow_0 0 rfl rfl ?_
  refine z_iconst (v := 0) F dX7_isRow_1 (by decide +kernel) ?_
  refine z_bipush (v := 7) F dX7_isRow_2 (by decide +kernel) ?_
  refine k_X7_in F (by decide) wm_843 (Nat.le_of_ble_eq_true rfl) dX7_isRow_4 ?_
  exact z_zret F (bz_X7_in _ _ _) dX7_isRow_7 (Prod.ext hf rfl)
theorem c_X7_isRow {D : va_G} {cI cZ : ClassId} {ad : Nat → Nat} (X : KX) (a0 : Int32) : zMI (yM D cI cZ ad) yX7_isRow cX7_isRow 1 (some .boolean) 2 [.int a0] X (f_X7_isRow a0, X) := zMI_of (by decide +kernel) (Nat.le_of_ble_eq_true rfl) (fun z F => z_sub [0] rfl (z_X7_isRow F a0 rfl))
theorem k_X7_isRow {z : ZC} {D : va_G} {cI cZ : ClassId} {ad : Nat → Nat} {cc : ByteArray} {own : String} {nL d pc index : Nat} {ret : Option FieldType} {Q : State → Prop} {X : KX} {L : List (Nat × Value)} {rest : List Value} {a0 : Int32} (F : ZF z (yM D cI cZ ad) cc own nL ret d) (hd : 2 + 1 ≤ d) (hw : Cond.methodLink own index yX7_isRow ∈ wsA) (hst : (rest.map fun v => v.category).sum ≤ 8) (hdg : decode cc pc = .ok (.invokestatic index, 3)) (kk : Z z (yM D cI cZ ad) nL Q X (pc + 3) L (.int (f_X7_isRow a0) :: rest)) : Z z (yM D cI cZ ad) nL Q X pc L (.int a0 :: rest) := z_cSI (As := [.int a0]) F (c_X7_isRow X a0) kn_X7_isRow kv_X7_isRow hw hd rfl hst hdg rfl kk
theorem k_X7_isRowN {z : ZC} {D : va_G} {cI cZ : ClassId} {ad : Nat → Nat} {cc : ByteArray} {own : String} {nL d pc index : Nat} {ret : Option FieldType} {Q : State → Prop} {X : KX} {L : List (Nat × Value)} {rest : List Value} {a0 : Int32} (F : ZF z (yM D cI cZ ad) cc own nL ret d) (hd : 2 + 1 ≤ d) (hw : ∀ s, zN s → va_Nw (.methodLinkNest own index yX7_isRow "AilingKing") s) (hst : (rest.map fun v => v.category).sum ≤ 8) (hdg : decode cc pc = .ok (.invokestatic index, 3)) (kk : Z z (yM D cI cZ ad) nL Q X (pc + 3) L (.int (f_X7_isRow a0) :: rest)) : Z z (yM D cI cZ ad) nL Q X pc L (.int a0 :: rest) := z_cNI (As := [.int a0]) F (c_X7_isRow X a0) kn_X7_isRow kv_X7_isRow hw hd rfl hst hdg rfl kk
theorem bz_X7_isRow (a0 : Int32) : f_X7_isRow a0 = 0 ∨ f_X7_isRow a0 = 1 := by
  unfold f_X7_isRow
  repeat' split
  all_goals first | exact Or.inl rfl | exact Or.inr rfl | exact bz_X6_isBelow _ _ | exact bz_X5_isFigure _ | exact bz_X2_isGuest _ _ | exact bz_X6_has _ _ | exact bz_X2_isHint _ _ | exact bz_X6_isOneOf _ _ | exact bz_X7_in _ _ _
theorem kv_X7_found : zKv yX7_found := ⟨wm_849, wm_18⟩
theorem kn_X7_found : zKn yX7_found cX7_found 2 (some .int) 1 := ⟨wm_850, wm_62, by decide +kernel, by decide⟩
set_option maxHeartbeats 4000000 in
set_option maxRecDepth 100000 in
theorem z_X7_found {z : ZC} {D : va_G} {cI cZ : ClassId} {ad : Nat → Nat} {R : Int32 × KX} (F : ZF z (yM D cI cZ ad) cX7_found RX7 2 (some .int) 1) (X : KX) (a1 : Int32) (hf : f_X7_found X a1 = some R) : Z z (yM D cI cZ ad) 2 (zQI z (yM D cI cZ ad) R) X 0 [(0, .ref (ad 0)), (1, .int a1)] [] := by
  unfold f_X7_found at hf
  refine z_aload_n F dX7_found_0 0 rfl rfl ?_
  refine z_iload_n F dX7_found_1 1 rfl rfl ?_
  refine pM_0_4 F hf wm_766 dX7_found_2 (fun X_1 hf => ?_)
  refine z_ldc F wm_851 dX7_found_5 ?_
  refine z_iload_n F dX7_found_7 1 rfl rfl ?_
  refine z_isub F dX7_found_8 ?_
  exact z_iret F dX7_found_9 (Option.some.inj hf)
theorem c_X7_found {D : va_G} {cI cZ : ClassId} {ad : Nat → Nat} {R : Int32 × KX} (X : KX) (a1 : Int32) (hf : f_X7_found X a1 = some R) : zMI (yM D cI cZ ad) yX7_found cX7_found 2 (some .int) 1 [.ref (ad 0), .int a1] X R := zMI_of (by decide +kernel) (Nat.le_of_ble_eq_true rfl) (fun z F => z_sub [0, 1] rfl (z_X7_found F X a1 hf))
theorem k_X7_found {z : ZC} {D : va_G} {cI cZ : ClassId} {ad : Nat → Nat} {cc : ByteArray} {own : String} {nL d pc index : Nat} {ret : Option FieldType} {Q : State → Prop} {X : KX} {L : List (Nat × Value)} {rest : List Value} {a1 : Int32} (F : ZF z (yM D cI cZ ad) cc own nL ret d) (hd : 1 + 1 ≤ d) (hw : Cond.methodLink own index yX7_found ∈ wsA) (hst : (rest.map fun v => v.category).sum ≤ 8) {β : Type} {e : Int32 → KX → Option β} {r : β} (hf : zB2 (f_X7_found X a1) e = some r) (hdg : decode cc pc = .ok (.invokevirtual index, 3)) (kk : ∀ (v : Int32) (X2 : KX), e v X2 = some r → Z z (yM D cI cZ ad) nL Q X2 (pc + 3) L (.int v :: rest)) : Z z (yM D cI cZ ad) nL Q X pc L (.int a1 :: .ref (ad 0) :: rest) := by
  obtain ⟨v, X2, h1, h2⟩ := zB2_some hf
  exact z_cVI (As := [.int a1]) F (c_X7_found X a1 h1) kn_X7_found kv_X7_found hw (q0 := 0) rfl rfl hd rfl hst hdg rfl (kk v X2 h2)
theorem kv_X7_well : zKv yX7_well := ⟨wm_854, wm_19⟩
theorem kn_X7_well : zKn yX7_well cX7_well 2 (some .int) 1 := ⟨wm_855, wm_62, by decide +kernel, by decide⟩
set_option maxHeartbeats 4000000 in
set_option maxRecDepth 100000 in
theorem z_X7_well {z : ZC} {D : va_G} {cI cZ : ClassId} {ad : Nat → Nat} {R : Int32 × KX} (F : ZF z (yM D cI cZ ad) cX7_well RX7 2 (some .int) 1) (X : KX) (a1 : Int32) (hf : f_X7_well X a1 = some R) : Z z (yM D cI cZ ad) 2 (zQI z (yM D cI cZ ad) R) X 0 [(0, .ref (ad 0)), (1, .int a1)] [] := by
  unfold f_X7_well at hf
  refine z_aload_n F dX7_well_0 0 rfl rfl ?_
  refine z_iconst (v := 0) F dX7_well_1 (by decide +kernel) ?_
  refine pM_0_4 F hf wm_766 dX7_well_2 (fun X_1 hf => ?_)
  refine z_iload_n F dX7_well_5 1 rfl rfl ?_
  exact z_iret F dX7_well_6 (Option.some.inj hf)
theorem c_X7_well {D : va_G} {cI cZ : ClassId} {ad : Nat → Nat} {R : Int32 × KX} (X : KX) (a1 : Int32) (hf : f_X7_well X a1 = some R) : zMI (yM D cI cZ ad) yX7_well cX7_well 2 (some .int) 1 [.ref (ad 0), .int a1] X R := zMI_of (by decide +kernel) (Nat.le_of_ble_eq_true rfl) (fun z F => z_sub [0, 1] rfl (z_X7_well F X a1 hf))
theorem k_X7_well {z : ZC} {D : va_G} {cI cZ : ClassId} {ad : Nat → Nat} {cc : ByteArray} {own : String} {nL d pc index : Nat} {ret : Option FieldType} {Q : State → Prop} {X : KX} {L : List (Nat × Value)} {rest : List Value} {a1 : Int32} (F : ZF z (yM D cI cZ ad) cc own nL ret d) (hd : 1 + 1 ≤ d) (hw : Cond.methodLink own index yX7_well ∈ wsA) (hst : (rest.map fun v => v.category).sum ≤ 8) {β : Type} {e : Int32 → KX → Option β} {r : β} (hf : zB2 (f_X7_well X a1) e = some r) (hdg : decode cc pc = .ok (.invokevirtual index, 3)) (kk : ∀ (v : Int32) (X2 : KX), e v X2 = some r → Z z (yM D cI cZ ad) nL Q X2 (pc + 3) L (.int v :: rest)) : Z z (yM D cI cZ ad) nL Q X pc L (.int a1 :: .ref (ad 0) :: rest) := by
  obtain ⟨v, X2, h1, h2⟩ := zB2_some hf
  exact z_cVI (As := [.int a1]) F (c_X7_well X a1 h1) kn_X7_well kv_X7_well hw (q0 := 0) rfl rfl hd rfl hst hdg rfl (kk v X2 h2)
theorem kv_X7_row : zKv yX7_row := ⟨wm_837, wm_838⟩
theorem kn_X7_row : zKn yX7_row cX7_row 5 (some .int) 3 := ⟨wm_839, wm_62, by decide +kernel, by decide⟩
set_option maxHeartbeats 4000000 in
set_option maxRecDepth 100000 in
theorem z_X7_row_52 {z : ZC} {D : va_G} {cI cZ : ClassId} {ad : Nat → Nat} {R : Int32 × KX} (F : ZF z (yM D cI cZ ad) cX7_row RX7 5 (some .int) 3) (n : Nat) : ∀ (t : Nat) (X : KX) (v1 : Int32) (v3 : Int32) (v4 : Int32), f_X7_row_52 n t X v1 v3 v4 = some R → Z z (yM D cI cZ ad) 5 (zQI z (yM D cI cZ ad) R) X 52 [(0, .ref (ad 0)), (1, .int v1), (3, .int v3), (4, .int v4)] [] := by
  intro t
  induction t with
  | zero => intro X v1 v3 v4 hf; rw [f_X7_row_52] at hf; exact zNone hf
  | succ t ih =>
    intro X v1 v3 v4 hf
    rw [f_X7_row_52] at hf
    refine z_iload F dX7_row_52 3 rfl ?_
    refine z_bipush (v := 40) F dX7_row_54 (by decide +kernel) ?_
    refine z_icmp_ge (tgt := 78) F hf dX7_row_56 (by decide) (fun hf => ?_) (fun hf => ?_)
    · refine z_aload_n F dX7_row_78 0 rfl rfl ?_
      refine z_iload_n F dX7_row_79 2 rfl rfl ?_
      refine k_X7_well F (by decide) wm_852 (Nat.le_of_ble_eq_true rfl) hf dX7_row_80 (fun r_1 X_2 hf => ?_)
      exact z_iret F dX7_row_83 (Option.some.inj hf)
    · refine z_aload_n F dX7_row_59 0 rfl rfl ?_
      refine gM_0_2 F wm_764 dX7_row_60 ?_
      refine z_bipush (v := 40) F dX7_row_63 (by decide +kernel) ?_
      refine z_iload_n F dX7_row_65 1 rfl rfl ?_
      refine z_imul F dX7_row_66 ?_
      refine z_iload F dX7_row_67 3 rfl ?_
      refine z_iadd F dX7_row_69 ?_
      refine z_iconst (v := 0) F dX7_row_70 (by decide +kernel) ?_
      refine sM_3 F hf dX7_row_71 (fun X_3 hf => ?_)
      refine z_iinc (w := 1) (L' := fun v4_4 => [(4, .int v4_4), (0, .ref (ad 0)), (1, .int v1), (3, .int v3)]) F hf dX7_row_72 3 rfl (by decide +kernel) (Nat.le_of_ble_eq_true rfl) (fun _ => rfl) (fun v4_4 hf => ?_)
      refine z_goto (tgt := 52) F dX7_row_75 (by decide) ?_
      exact z_sub [1, 2, 3, 0] rfl (ih X_3 v1 v3 v4_4 hf)
set_option maxHeartbeats 4000000 in
set_option maxRecDepth 100000 in
theorem z_X7_row {z : ZC} {D : va_G} {cI cZ : ClassId} {ad : Nat → Nat} {R : Int32 × KX} (F : ZF z (yM D cI cZ ad) cX7_row RX7 5 (some .int) 3) (n : Nat) (X : KX) (a1 : Int32) (a2 : Int32) (a3 : Int32) (hf : f_X7_row n X a1 a2 a3 = some R) : Z z (yM D cI cZ ad) 5 (zQI z (yM D cI cZ ad) R) X 0 [(0, .ref (ad 0)), (1, .int a1), (2, .int a2), (3, .int a3)] [] := by
  unfold f_X7_row at hf
  refine z_iload_n F dX7_row_0 1 rfl rfl ?_
  refine k_X7_isRow F (by decide) wm_840 (Nat.le_of_ble_eq_true rfl) dX7_row_1 ?_
  refine z_if_eq (tgt := 22) F hf dX7_row_4 (by decide) (fun hf => ?_) (fun hf => ?_)
  · refine z_ldc F wm_846 dX7_row_22 ?_
    exact z_iret F dX7_row_24 (Option.some.inj hf)
  · refine z_iload_n F dX7_row_7 2 rfl rfl ?_
    refine z_iconst (v := 0) F dX7_row_8 (by decide +kernel) ?_
    refine z_iconst (v := 2) F dX7_row_9 (by decide +kernel) ?_
    refine k_X7_in F (by decide) wm_843 (Nat.le_of_ble_eq_true rfl) dX7_row_10 ?_
    refine z_if_eq (tgt := 22) F hf dX7_row_13 (by decide) (fun hf => ?_) (fun hf => ?_)
    · refine z_ldc F wm_846 dX7_row_22 ?_
      exact z_iret F dX7_row_24 (Option.some.inj hf)
    · refine z_iload_n F dX7_row_16 3 rfl rfl ?_
      refine z_bipush (v := 40) F dX7_row_17 (by decide +kernel) ?_
      refine z_icmp_le (tgt := 25) F hf dX7_row_19 (by decide) (fun hf => ?_) (fun hf => ?_)
      · refine z_iload_n F dX7_row_25 3 rfl rfl ?_
        refine z_if_ge (tgt := 35) F hf dX7_row_26 (by decide) (fun hf => ?_) (fun hf => ?_)
        · refine z_aload_n F dX7_row_35 0 rfl rfl ?_
          refine gM_0_0 F wm_762 dX7_row_36 ?_
          refine z_iload_n F dX7_row_39 1 rfl rfl ?_
          refine z_iload_n F dX7_row_40 2 rfl rfl ?_
          refine sM_1 F hf dX7_row_41 (fun X_1 hf => ?_)
          refine z_aload_n F dX7_row_42 0 rfl rfl ?_
          refine gM_0_1 F wm_763 dX7_row_43 ?_
          refine z_iload_n F dX7_row_46 1 rfl rfl ?_
          refine z_iload_n F dX7_row_47 3 rfl rfl ?_
          refine sM_2 F hf dX7_row_48 (fun X_2 hf => ?_)
          refine z_iconst (v := 0) F dX7_row_49 (by decide +kernel) ?_
          refine z_istore (L' := [(4, .int 0), (0, .ref (ad 0)), (1, .int a1), (2, .int a2), (3, .int a3)]) F dX7_row_50 (Nat.le_of_ble_eq_true rfl) rfl ?_
          exact z_sub [1, 2, 4, 0] rfl (z_X7_row_52 F n n X_2 a1 a3 0 hf)
        · refine z_aload_n F dX7_row_29 0 rfl rfl ?_
          refine z_iconst (v := 4) F dX7_row_30 (by decide +kernel) ?_
          refine k_X7_found F (by decide) wm_847 (Nat.le_of_ble_eq_true rfl) hf dX7_row_31 (fun r_3 X_4 hf => ?_)
          exact z_iret F dX7_row_34 (Option.some.inj hf)
      · refine z_ldc F wm_846 dX7_row_22 ?_
        exact z_iret F dX7_row_24 (Option.some.inj hf)
theorem c_X7_row {D : va_G} {cI cZ : ClassId} {ad : Nat → Nat} {R : Int32 × KX} (n : Nat) (X : KX) (a1 : Int32) (a2 : Int32) (a3 : Int32) (hf : f_X7_row n X a1 a2 a3 = some R) : zMI (yM D cI cZ ad) yX7_row cX7_row 5 (some .int) 3 [.ref (ad 0), .int a1, .int a2, .int a3] X R := zMI_of (by decide +kernel) (Nat.le_of_ble_eq_true rfl) (fun z F => z_sub [0, 1, 2, 3] rfl (z_X7_row F n X a1 a2 a3 hf))
theorem k_X7_row {z : ZC} {D : va_G} {cI cZ : ClassId} {ad : Nat → Nat} {cc : ByteArray} {own : String} {nL d pc index : Nat} {ret : Option FieldType} {Q : State → Prop} {X : KX} {L : List (Nat × Value)} {rest : List Value} {n : Nat} {a1 a2 a3 : Int32} (F : ZF z (yM D cI cZ ad) cc own nL ret d) (hd : 3 + 1 ≤ d) (hw : Cond.methodLink own index yX7_row ∈ wsA) (hst : (rest.map fun v => v.category).sum ≤ 8) {β : Type} {e : Int32 → KX → Option β} {r : β} (hf : zB2 (f_X7_row n X a1 a2 a3) e = some r) (hdg : decode cc pc = .ok (.invokevirtual index, 3)) (kk : ∀ (v : Int32) (X2 : KX), e v X2 = some r → Z z (yM D cI cZ ad) nL Q X2 (pc + 3) L (.int v :: rest)) : Z z (yM D cI cZ ad) nL Q X pc L (.int a3 :: .int a2 :: .int a1 :: .ref (ad 0) :: rest) := by
  obtain ⟨v, X2, h1, h2⟩ := zB2_some hf
  exact z_cVI (As := [.int a1, .int a2, .int a3]) F (c_X7_row n X a1 a2 a3 h1) kn_X7_row kv_X7_row hw (q0 := 0) rfl rfl hd rfl hst hdg rfl (kk v X2 h2)
theorem kv_X7_isMissing : zKv yX7_isMissing := ⟨wm_862, wm_20⟩
theorem kn_X7_isMissing : zKn yX7_isMissing cX7_isMissing 2 (some .boolean) 1 := ⟨wm_863, wm_62, by decide +kernel, by decide⟩
set_option maxHeartbeats 4000000 in
set_option maxRecDepth 100000 in
theorem z_X7_isMissing {z : ZC} {D : va_G} {cI cZ : ClassId} {ad : Nat → Nat} {r : Int32} (F : ZF z (yM D cI cZ ad) cX7_isMissing RX7 2 (some .boolean) 1) (X : KX) (a1 : Int32) (hf : f_X7_isMissing X a1 = some r) : Z z (yM D cI cZ ad) 2 (zQI z (yM D cI cZ ad) (r, X)) X 0 [(0, .ref (ad 0)), (1, .int a1)] [] := by
  unfold f_X7_isMissing at hf
  refine z_aload_n F dX7_isMissing_0 0 rfl rfl ?_
  refine gM_0_0 F wm_762 dX7_isMissing_1 ?_
  refine z_iload_n F dX7_isMissing_4 1 rfl rfl ?_
  refine lM_1 F hf dX7_isMissing_5 (fun hf => ?_)
  refine z_ldc F wm_761 dX7_isMissing_6 ?_
  refine z_icmp_ne (tgt := 15) F hf dX7_isMissing_8 (by decide) (fun hf => ?_) (fun hf => ?_)
  · refine z_iconst (v := 0) F dX7_isMissing_15 (by decide +kernel) ?_
    exact z_zret F (by decide) dX7_isMissing_16 (Prod.ext (Option.some.inj hf) rfl)
  · refine z_iconst (v := 1) F dX7_isMissing_11 (by decide +kernel) ?_
    refine z_goto (tgt := 16) F dX7_isMissing_12 (by decide) ?_
    exact z_zret F (by decide) dX7_isMissing_16 (Prod.ext (Option.some.inj hf) rfl)
theorem c_X7_isMissing {D : va_G} {cI cZ : ClassId} {ad : Nat → Nat} {r : Int32} (X : KX) (a1 : Int32) (hf : f_X7_isMissing X a1 = some r) : zMI (yM D cI cZ ad) yX7_isMissing cX7_isMissing 2 (some .boolean) 1 [.ref (ad 0), .int a1] X (r, X) := zMI_of (by decide +kernel) (Nat.le_of_ble_eq_true rfl) (fun z F => z_sub [0, 1] rfl (z_X7_isMissing F X a1 hf))
theorem k_X7_isMissing {z : ZC} {D : va_G} {cI cZ : ClassId} {ad : Nat → Nat} {cc : ByteArray} {own : String} {nL d pc index : Nat} {ret : Option FieldType} {Q : State → Prop} {X : KX} {L : List (Nat × Value)} {rest : List Value} {a1 : Int32} (F : ZF z (yM D cI cZ ad) cc own nL ret d) (hd : 1 + 1 ≤ d) (hw : Cond.methodLink own index yX7_isMissing ∈ wsA) (hst : (rest.map fun v => v.category).sum ≤ 8) {β : Type} {e : Int32 → Option β} {r : β} (hf : zB1 (f_X7_isMissing X a1) e = some r) (hdg : decode cc pc = .ok (.invokevirtual index, 3)) (kk : ∀ v : Int32, e v = some r → Z z (yM D cI cZ ad) nL Q X (pc + 3) L (.int v :: rest)) : Z z (yM D cI cZ ad) nL Q X pc L (.int a1 :: .ref (ad 0) :: rest) := by
  obtain ⟨v, h1, h2⟩ := zB1_some hf
  exact z_cVI (As := [.int a1]) F (c_X7_isMissing X a1 h1) kn_X7_isMissing kv_X7_isMissing hw (q0 := 0) rfl rfl hd rfl hst hdg rfl (kk v h2)
theorem kv_X7_cut : Cond.static yX7_cut ∈ wsA := wm_865
theorem kn_X7_cut : zKn yX7_cut cX7_cut 2 (some .int) 2 := ⟨wm_866, wm_62, by decide +kernel, by decide⟩
set_option maxHeartbeats 4000000 in
set_option maxRecDepth 100000 in
theorem z_X7_cut {z : ZC} {D : va_G} {cI cZ : ClassId} {ad : Nat → Nat} {r : Int32} (F : ZF z (yM D cI cZ ad) cX7_cut RX7 2 (some .int) 1) {X : KX} (a0 : Int32) (a1 : Int32) (hf : f_X7_cut a0 a1 = r) : Z z (yM D cI cZ ad) 2 (zQI z (yM D cI cZ ad) (r, X)) X 0 [(0, .int a0), (1, .int a1)] [] := by
  unfold f_X7_cut at hf
  refine z_iload_n F dX7_cut_0 0 rfl rfl ?_
  refine z_if_ne (tgt := 14) F hf dX7_cut_1 (by decide) (fun hf => ?_) (fun hf => ?_)
  · refine z_iload_n F dX7_cut_14 0 rfl rfl ?_
    refine z_iconst (v := 1) F dX7_cut_15 (by decide +kernel) ?_
    refine z_icmp_ne (tgt := 29) F hf dX7_cut_16 (by decide) (fun hf => ?_) (fun hf => ?_)
    · refine z_iload_n F dX7_cut_29 1 rfl rfl ?_
      exact z_iret F dX7_cut_30 (Prod.ext hf rfl)
    · refine z_iload_n F dX7_cut_19 1 rfl rfl ?_
      refine z_bipush (v := 16) F dX7_cut_20 (by decide +kernel) ?_
      refine z_ishl F dX7_cut_22 ?_
      refine z_bipush (v := 16) F dX7_cut_23 (by decide +kernel) ?_
      refine z_ishr F dX7_cut_25 ?_
      refine z_goto (tgt := 30) F dX7_cut_26 (by decide) ?_
      exact z_iret F dX7_cut_30 (Prod.ext hf rfl)
  · refine z_iload_n F dX7_cut_4 1 rfl rfl ?_
    refine z_bipush (v := 24) F dX7_cut_5 (by decide +kernel) ?_
    refine z_ishl F dX7_cut_7 ?_
    refine z_bipush (v := 24) F dX7_cut_8 (by decide +kernel) ?_
    refine z_ishr F dX7_cut_10 ?_
    refine z_goto (tgt := 30) F dX7_cut_11 (by decide) ?_
    exact z_iret F dX7_cut_30 (Prod.ext hf rfl)
theorem c_X7_cut {D : va_G} {cI cZ : ClassId} {ad : Nat → Nat} (X : KX) (a0 : Int32) (a1 : Int32) : zMI (yM D cI cZ ad) yX7_cut cX7_cut 2 (some .int) 1 [.int a0, .int a1] X (f_X7_cut a0 a1, X) := zMI_of (by decide +kernel) (Nat.le_of_ble_eq_true rfl) (fun z F => z_sub [0, 1] rfl (z_X7_cut F a0 a1 rfl))
theorem k_X7_cut {z : ZC} {D : va_G} {cI cZ : ClassId} {ad : Nat → Nat} {cc : ByteArray} {own : String} {nL d pc index : Nat} {ret : Option FieldType} {Q : State → Prop} {X : KX} {L : List (Nat × Value)} {rest : List Value} {a0 a1 : Int32} (F : ZF z (yM D cI cZ ad) cc own nL ret d) (hd : 1 + 1 ≤ d) (hw : Cond.methodLink own index yX7_cut ∈ wsA) (hst : (rest.map fun v => v.category).sum ≤ 8) (hdg : decode cc pc = .ok (.invokestatic index, 3)) (kk : Z z (yM D cI cZ ad) nL Q X (pc + 3) L (.int (f_X7_cut a0 a1) :: rest)) : Z z (yM D cI cZ ad) nL Q X pc L (.int a1 :: .int a0 :: rest) := z_cSI (As := [.int a0, .int a1]) F (c_X7_cut X a0 a1) kn_X7_cut kv_X7_cut hw hd rfl hst hdg rfl kk
theorem k_X7_cutN {z : ZC} {D : va_G} {cI cZ : ClassId} {ad : Nat → Nat} {cc : ByteArray} {own : String} {nL d pc index : Nat} {ret : Option FieldType} {Q : State → Prop} {X : KX} {L : List (Nat × Value)} {rest : List Value} {a0 a1 : Int32} (F : ZF z (yM D cI cZ ad) cc own nL ret d) (hd : 1 + 1 ≤ d) (hw : ∀ s, zN s → va_Nw (.methodLinkNest own index yX7_cut "AilingKing") s) (hst : (rest.map fun v => v.category).sum ≤ 8) (hdg : decode cc pc = .ok (.invokestatic index, 3)) (kk : Z z (yM D cI cZ ad) nL Q X (pc + 3) L (.int (f_X7_cut a0 a1) :: rest)) : Z z (yM D cI cZ ad) nL Q X pc L (.int a1 :: .int a0 :: rest) := z_cNI (As := [.int a0, .int a1]) F (c_X7_cut X a0 a1) kn_X7_cut kv_X7_cut hw hd rfl hst hdg rfl kk
theorem kv_X7_set : zKv yX7_set := ⟨wm_857, wm_858⟩
theorem kn_X7_set : zKn yX7_set cX7_set 4 (some .int) 3 := ⟨wm_859, wm_62, by decide +kernel, by decide⟩
set_option maxHeartbeats 4000000 in
set_option maxRecDepth 100000 in
theorem z_X7_set {z : ZC} {D : va_G} {cI cZ : ClassId} {ad : Nat → Nat} {R : Int32 × KX} (F : ZF z (yM D cI cZ ad) cX7_set RX7 4 (some .int) 3) (X : KX) (a1 : Int32) (a2 : Int32) (a3 : Int32) (hf : f_X7_set X a1 a2 a3 = some R) : Z z (yM D cI cZ ad) 4 (zQI z (yM D cI cZ ad) R) X 0 [(0, .ref (ad 0)), (1, .int a1), (2, .int a2), (3, .int a3)] [] := by
  unfold f_X7_set at hf
  refine z_iload_n F dX7_set_0 1 rfl rfl ?_
  refine k_X7_isRow F (by decide) wm_840 (Nat.le_of_ble_eq_true rfl) dX7_set_1 ?_
  refine z_if_ne (tgt := 10) F hf dX7_set_4 (by decide) (fun hf => ?_) (fun hf => ?_)
  · refine z_aload_n F dX7_set_10 0 rfl rfl ?_
    refine z_iload_n F dX7_set_11 1 rfl rfl ?_
    refine k_X7_isMissing F (by decide) wm_860 (Nat.le_of_ble_eq_true rfl) hf dX7_set_12 (fun r_1 hf => ?_)
    refine z_if_eq (tgt := 24) F hf dX7_set_15 (by decide) (fun hf => ?_) (fun hf => ?_)
    · refine z_iload_n F dX7_set_24 2 rfl rfl ?_
      refine z_iconst (v := 0) F dX7_set_25 (by decide +kernel) ?_
      refine z_aload_n F dX7_set_26 0 rfl rfl ?_
      refine gM_0_1 F wm_763 dX7_set_27 ?_
      refine z_iload_n F dX7_set_30 1 rfl rfl ?_
      refine lM_2 F hf dX7_set_31 (fun hf => ?_)
      refine z_iconst (v := 1) F dX7_set_32 (by decide +kernel) ?_
      refine z_isub F dX7_set_33 ?_
      refine k_X7_in F (by decide) wm_843 (Nat.le_of_ble_eq_true rfl) dX7_set_34 ?_
      refine z_if_ne (tgt := 46) F hf dX7_set_37 (by decide) (fun hf => ?_) (fun hf => ?_)
      · refine z_aload_n F dX7_set_46 0 rfl rfl ?_
        refine gM_0_2 F wm_764 dX7_set_47 ?_
        refine z_bipush (v := 40) F dX7_set_50 (by decide +kernel) ?_
        refine z_iload_n F dX7_set_52 1 rfl rfl ?_
        refine z_imul F dX7_set_53 ?_
        refine z_iload_n F dX7_set_54 2 rfl rfl ?_
        refine z_iadd F dX7_set_55 ?_
        refine z_aload_n F dX7_set_56 0 rfl rfl ?_
        refine gM_0_0 F wm_762 dX7_set_57 ?_
        refine z_iload_n F dX7_set_60 1 rfl rfl ?_
        refine lM_1 F hf dX7_set_61 (fun hf => ?_)
        refine z_iload_n F dX7_set_62 3 rfl rfl ?_
        refine k_X7_cut F (by decide) wm_864 (Nat.le_of_ble_eq_true rfl) dX7_set_63 ?_
        refine sM_3 F hf dX7_set_66 (fun X_2 hf => ?_)
        refine z_aload_n F dX7_set_67 0 rfl rfl ?_
        refine z_aload_n F dX7_set_68 0 rfl rfl ?_
        refine gM_0_2 F wm_764 dX7_set_69 ?_
        refine z_bipush (v := 40) F dX7_set_72 (by decide +kernel) ?_
        refine z_iload_n F dX7_set_74 1 rfl rfl ?_
        refine z_imul F dX7_set_75 ?_
        refine z_iload_n F dX7_set_76 2 rfl rfl ?_
        refine z_iadd F dX7_set_77 ?_
        refine lM_3 F hf dX7_set_78 (fun hf => ?_)
        refine k_X7_well F (by decide) wm_852 (Nat.le_of_ble_eq_true rfl) hf dX7_set_79 (fun r_3 X_4 hf => ?_)
        exact z_iret F dX7_set_82 (Option.some.inj hf)
      · refine z_aload_n F dX7_set_40 0 rfl rfl ?_
        refine z_iconst (v := 2) F dX7_set_41 (by decide +kernel) ?_
        refine k_X7_found F (by decide) wm_847 (Nat.le_of_ble_eq_true rfl) hf dX7_set_42 (fun r_5 X_6 hf => ?_)
        exact z_iret F dX7_set_45 (Option.some.inj hf)
    · refine z_aload_n F dX7_set_18 0 rfl rfl ?_
      refine z_iconst (v := 1) F dX7_set_19 (by decide +kernel) ?_
      refine k_X7_found F (by decide) wm_847 (Nat.le_of_ble_eq_true rfl) hf dX7_set_20 (fun r_7 X_8 hf => ?_)
      exact z_iret F dX7_set_23 (Option.some.inj hf)
  · refine z_ldc F wm_846 dX7_set_7 ?_
    exact z_iret F dX7_set_9 (Option.some.inj hf)
theorem c_X7_set {D : va_G} {cI cZ : ClassId} {ad : Nat → Nat} {R : Int32 × KX} (X : KX) (a1 : Int32) (a2 : Int32) (a3 : Int32) (hf : f_X7_set X a1 a2 a3 = some R) : zMI (yM D cI cZ ad) yX7_set cX7_set 4 (some .int) 3 [.ref (ad 0), .int a1, .int a2, .int a3] X R := zMI_of (by decide +kernel) (Nat.le_of_ble_eq_true rfl) (fun z F => z_sub [0, 1, 2, 3] rfl (z_X7_set F X a1 a2 a3 hf))
theorem k_X7_set {z : ZC} {D : va_G} {cI cZ : ClassId} {ad : Nat → Nat} {cc : ByteArray} {own : String} {nL d pc index : Nat} {ret : Option FieldType} {Q : State → Prop} {X : KX} {L : List (Nat × Value)} {rest : List Value} {a1 a2 a3 : Int32} (F : ZF z (yM D cI cZ ad) cc own nL ret d) (hd : 3 + 1 ≤ d) (hw : Cond.methodLink own index yX7_set ∈ wsA) (hst : (rest.map fun v => v.category).sum ≤ 8) {β : Type} {e : Int32 → KX → Option β} {r : β} (hf : zB2 (f_X7_set X a1 a2 a3) e = some r) (hdg : decode cc pc = .ok (.invokevirtual index, 3)) (kk : ∀ (v : Int32) (X2 : KX), e v X2 = some r → Z z (yM D cI cZ ad) nL Q X2 (pc + 3) L (.int v :: rest)) : Z z (yM D cI cZ ad) nL Q X pc L (.int a3 :: .int a2 :: .int a1 :: .ref (ad 0) :: rest) := by
  obtain ⟨v, X2, h1, h2⟩ := zB2_some hf
  exact z_cVI (As := [.int a1, .int a2, .int a3]) F (c_X7_set X a1 a2 a3 h1) kn_X7_set kv_X7_set hw (q0 := 0) rfl rfl hd rfl hst hdg rfl (kk v X2 h2)
theorem kv_X7_isPart : zKv yX7_isPart := ⟨wm_873, wm_21⟩
theorem kn_X7_isPart : zKn yX7_isPart cX7_isPart 4 (some .boolean) 3 := ⟨wm_874, wm_62, by decide +kernel, by decide⟩
set_option maxHeartbeats 4000000 in
set_option maxRecDepth 100000 in
theorem z_X7_isPart {z : ZC} {D : va_G} {cI cZ : ClassId} {ad : Nat → Nat} {r : Int32} (F : ZF z (yM D cI cZ ad) cX7_isPart RX7 4 (some .boolean) 1) (X : KX) (a1 : Int32) (a2 : Int32) (a3 : Int32) (hf : f_X7_isPart X a1 a2 a3 = some r) : Z z (yM D cI cZ ad) 4 (zQI z (yM D cI cZ ad) (r, X)) X 0 [(0, .ref (ad 0)), (1, .int a1), (2, .int a2), (3, .int a3)] [] := by
  unfold f_X7_isPart at hf
  refine z_iload_n F dX7_isPart_0 2 rfl rfl ?_
  refine z_if_lt (tgt := 34) F hf dX7_isPart_1 (by decide) (fun hf => ?_) (fun hf => ?_)
  · refine z_iconst (v := 0) F dX7_isPart_34 (by decide +kernel) ?_
    exact z_zret F (by decide) dX7_isPart_35 (Prod.ext (Option.some.inj hf) rfl)
  · refine z_iload_n F dX7_isPart_4 3 rfl rfl ?_
    refine z_if_lt (tgt := 34) F hf dX7_isPart_5 (by decide) (fun hf => ?_) (fun hf => ?_)
    · refine z_iconst (v := 0) F dX7_isPart_34 (by decide +kernel) ?_
      exact z_zret F (by decide) dX7_isPart_35 (Prod.ext (Option.some.inj hf) rfl)
    · refine z_iload_n F dX7_isPart_8 2 rfl rfl ?_
      refine z_aload_n F dX7_isPart_9 0 rfl rfl ?_
      refine gM_0_1 F wm_763 dX7_isPart_10 ?_
      refine z_iload_n F dX7_isPart_13 1 rfl rfl ?_
      refine lM_2 F hf dX7_isPart_14 (fun hf => ?_)
      refine z_icmp_gt (tgt := 34) F hf dX7_isPart_15 (by decide) (fun hf => ?_) (fun hf => ?_)
      · refine z_iconst (v := 0) F dX7_isPart_34 (by decide +kernel) ?_
        exact z_zret F (by decide) dX7_isPart_35 (Prod.ext (Option.some.inj hf) rfl)
      · refine z_iload_n F dX7_isPart_18 3 rfl rfl ?_
        refine z_aload_n F dX7_isPart_19 0 rfl rfl ?_
        refine gM_0_1 F wm_763 dX7_isPart_20 ?_
        refine z_iload_n F dX7_isPart_23 1 rfl rfl ?_
        refine lM_2 F hf dX7_isPart_24 (fun hf => ?_)
        refine z_iload_n F dX7_isPart_25 2 rfl rfl ?_
        refine z_isub F dX7_isPart_26 ?_
        refine z_icmp_gt (tgt := 34) F hf dX7_isPart_27 (by decide) (fun hf => ?_) (fun hf => ?_)
        · refine z_iconst (v := 0) F dX7_isPart_34 (by decide +kernel) ?_
          exact z_zret F (by decide) dX7_isPart_35 (Prod.ext (Option.some.inj hf) rfl)
        · refine z_iconst (v := 1) F dX7_isPart_30 (by decide +kernel) ?_
          refine z_goto (tgt := 35) F dX7_isPart_31 (by decide) ?_
          exact z_zret F (by decide) dX7_isPart_35 (Prod.ext (Option.some.inj hf) rfl)
theorem c_X7_isPart {D : va_G} {cI cZ : ClassId} {ad : Nat → Nat} {r : Int32} (X : KX) (a1 : Int32) (a2 : Int32) (a3 : Int32) (hf : f_X7_isPart X a1 a2 a3 = some r) : zMI (yM D cI cZ ad) yX7_isPart cX7_isPart 4 (some .boolean) 1 [.ref (ad 0), .int a1, .int a2, .int a3] X (r, X) := zMI_of (by decide +kernel) (Nat.le_of_ble_eq_true rfl) (fun z F => z_sub [0, 1, 2, 3] rfl (z_X7_isPart F X a1 a2 a3 hf))
theorem k_X7_isPart {z : ZC} {D : va_G} {cI cZ : ClassId} {ad : Nat → Nat} {cc : ByteArray} {own : String} {nL d pc index : Nat} {ret : Option FieldType} {Q : State → Prop} {X : KX} {L : List (Nat × Value)} {rest : List Value} {a1 a2 a3 : Int32} (F : ZF z (yM D cI cZ ad) cc own nL ret d) (hd : 1 + 1 ≤ d) (hw : Cond.methodLink own index yX7_isPart ∈ wsA) (hst : (rest.map fun v => v.category).sum ≤ 8) {β : Type} {e : Int32 → Option β} {r : β} (hf : zB1 (f_X7_isPart X a1 a2 a3) e = some r) (hdg : decode cc pc = .ok (.invokevirtual index, 3)) (kk : ∀ v : Int32, e v = some r → Z z (yM D cI cZ ad) nL Q X (pc + 3) L (.int v :: rest)) : Z z (yM D cI cZ ad) nL Q X pc L (.int a3 :: .int a2 :: .int a1 :: .ref (ad 0) :: rest) := by
  obtain ⟨v, h1, h2⟩ := zB1_some hf
  exact z_cVI (As := [.int a1, .int a2, .int a3]) F (c_X7_isPart X a1 a2 a3 h1) kn_X7_isPart kv_X7_isPart hw (q0 := 0) rfl rfl hd rfl hst hdg rfl (kk v h2)
theorem kv_X7_copy : zKv yX7_copy := ⟨wm_868, wm_869⟩
theorem kn_X7_copy : zKn yX7_copy cX7_copy 7 (some .int) 5 := ⟨wm_870, wm_62, by decide +kernel, by decide⟩
set_option maxHeartbeats 4000000 in
set_option maxRecDepth 100000 in
theorem z_X7_copy_129 {z : ZC} {D : va_G} {cI cZ : ClassId} {ad : Nat → Nat} {R : Int32 × KX} (F : ZF z (yM D cI cZ ad) cX7_copy RX7 7 (some .int) 3) (n : Nat) : ∀ (t : Nat) (X : KX) (v3 : Int32) (v4 : Int32) (v5 : Int32) (v6 : Int32), f_X7_copy_129 n t X v3 v4 v5 v6 = some R → Z z (yM D cI cZ ad) 7 (zQI z (yM D cI cZ ad) R) X 129 [(0, .ref (ad 0)), (3, .int v3), (4, .int v4), (5, .int v5), (6, .int v6)] [] := by
  intro t
  induction t with
  | zero => intro X v3 v4 v5 v6 hf; rw [f_X7_copy_129] at hf; exact zNone hf
  | succ t ih =>
    intro X v3 v4 v5 v6 hf
    rw [f_X7_copy_129] at hf
    refine z_iload F dX7_copy_129 4 rfl ?_
    refine z_iload F dX7_copy_131 3 rfl ?_
    refine z_icmp_ge (tgt := 164) F hf dX7_copy_133 (by decide) (fun hf => ?_) (fun hf => ?_)
    · refine z_aload_n F dX7_copy_164 0 rfl rfl ?_
      refine z_iload F dX7_copy_165 3 rfl ?_
      refine k_X7_well F (by decide) wm_852 (Nat.le_of_ble_eq_true rfl) hf dX7_copy_167 (fun r_1 X_2 hf => ?_)
      exact z_iret F dX7_copy_170 (Option.some.inj hf)
    · refine z_aload_n F dX7_copy_136 0 rfl rfl ?_
      refine gM_0_2 F wm_764 dX7_copy_137 ?_
      refine z_bipush (v := 40) F dX7_copy_140 (by decide +kernel) ?_
      refine z_iload_n F dX7_copy_142 1 rfl rfl ?_
      refine z_imul F dX7_copy_143 ?_
      refine z_iload F dX7_copy_144 2 rfl ?_
      refine z_iadd F dX7_copy_146 ?_
      refine z_iload F dX7_copy_147 4 rfl ?_
      refine z_iadd F dX7_copy_149 ?_
      refine z_aload_n F dX7_copy_150 0 rfl rfl ?_
      refine gM_0_3 F wm_765 dX7_copy_151 ?_
      refine z_iload F dX7_copy_154 4 rfl ?_
      refine lM_4 F hf dX7_copy_156 (fun hf => ?_)
      refine sM_3 F hf dX7_copy_157 (fun X_3 hf => ?_)
      refine z_iinc (w := 1) (L' := fun v6_4 => [(6, .int v6_4), (0, .ref (ad 0)), (3, .int v3), (4, .int v4), (5, .int v5)]) F hf dX7_copy_158 4 rfl (by decide +kernel) (Nat.le_of_ble_eq_true rfl) (fun _ => rfl) (fun v6_4 hf => ?_)
      refine z_goto (tgt := 129) F dX7_copy_161 (by decide) ?_
      exact z_sub [1, 2, 3, 4, 0] rfl (ih X_3 v3 v4 v5 v6_4 hf)
set_option maxHeartbeats 4000000 in
set_option maxRecDepth 100000 in
theorem z_X7_copy_92 {z : ZC} {D : va_G} {cI cZ : ClassId} {ad : Nat → Nat} {R : Int32 × KX} (F : ZF z (yM D cI cZ ad) cX7_copy RX7 7 (some .int) 3) (n : Nat) : ∀ (t : Nat) (X : KX) (v1 : Int32) (v2 : Int32) (v3 : Int32) (v4 : Int32) (v5 : Int32) (v6 : Int32), f_X7_copy_92 n t X v1 v2 v3 v4 v5 v6 = some R → Z z (yM D cI cZ ad) 7 (zQI z (yM D cI cZ ad) R) X 92 [(0, .ref (ad 0)), (1, .int v1), (2, .int v2), (3, .int v3), (4, .int v4), (5, .int v5), (6, .int v6)] [] := by
  intro t
  induction t with
  | zero => intro X v1 v2 v3 v4 v5 v6 hf; rw [f_X7_copy_92] at hf; exact zNone hf
  | succ t ih =>
    intro X v1 v2 v3 v4 v5 v6 hf
    rw [f_X7_copy_92] at hf
    refine z_iload F dX7_copy_92 6 rfl ?_
    refine z_iload F dX7_copy_94 5 rfl ?_
    refine z_icmp_ge (tgt := 126) F hf dX7_copy_96 (by decide) (fun hf => ?_) (fun hf => ?_)
    · refine z_iconst (v := 0) F dX7_copy_126 (by decide +kernel) ?_
      refine z_istore (L' := [(6, .int 0), (0, .ref (ad 0)), (1, .int v1), (2, .int v2), (3, .int v3), (4, .int v4), (5, .int v5)]) F dX7_copy_127 (Nat.le_of_ble_eq_true rfl) rfl ?_
      exact z_sub [1, 4, 5, 6, 0] rfl (z_X7_copy_129 F n n X v3 v4 v5 0 hf)
    · refine z_aload_n F dX7_copy_99 0 rfl rfl ?_
      refine gM_0_3 F wm_765 dX7_copy_100 ?_
      refine z_iload F dX7_copy_103 6 rfl ?_
      refine z_aload_n F dX7_copy_105 0 rfl rfl ?_
      refine gM_0_2 F wm_764 dX7_copy_106 ?_
      refine z_bipush (v := 40) F dX7_copy_109 (by decide +kernel) ?_
      refine z_iload_n F dX7_copy_111 1 rfl rfl ?_
      refine z_imul F dX7_copy_112 ?_
      refine z_iload_n F dX7_copy_113 2 rfl rfl ?_
      refine z_iadd F dX7_copy_114 ?_
      refine z_iload F dX7_copy_115 6 rfl ?_
      refine z_iadd F dX7_copy_117 ?_
      refine lM_3 F hf dX7_copy_118 (fun hf => ?_)
      refine sM_4 F hf dX7_copy_119 (fun X_1 hf => ?_)
      refine z_iinc (w := 1) (L' := fun v6_2 => [(6, .int v6_2), (0, .ref (ad 0)), (1, .int v1), (2, .int v2), (3, .int v3), (4, .int v4), (5, .int v5)]) F hf dX7_copy_120 6 rfl (by decide +kernel) (Nat.le_of_ble_eq_true rfl) (fun _ => rfl) (fun v6_2 hf => ?_)
      refine z_goto (tgt := 92) F dX7_copy_123 (by decide) ?_
      exact z_sub [1, 2, 3, 4, 5, 6, 0] rfl (ih X_1 v1 v2 v3 v4 v5 v6_2 hf)
set_option maxHeartbeats 4000000 in
set_option maxRecDepth 100000 in
theorem z_X7_copy_83 {z : ZC} {D : va_G} {cI cZ : ClassId} {ad : Nat → Nat} {R : Int32 × KX} (F : ZF z (yM D cI cZ ad) cX7_copy RX7 7 (some .int) 3) (n : Nat) (X : KX) (hf : f_X7_copy_83 n X = some R) : Z z (yM D cI cZ ad) 7 (zQI z (yM D cI cZ ad) R) X 83 [(0, .ref (ad 0))] [] := by
  unfold f_X7_copy_83 at hf
  refine z_aload_n F dX7_copy_83 0 rfl rfl ?_
  refine z_iconst (v := 2) F dX7_copy_84 (by decide +kernel) ?_
  refine k_X7_found F (by decide) wm_847 (Nat.le_of_ble_eq_true rfl) hf dX7_copy_85 (fun r_1 X_2 hf => ?_)
  exact z_iret F dX7_copy_88 (Option.some.inj hf)
set_option maxHeartbeats 4000000 in
set_option maxRecDepth 100000 in
theorem z_X7_copy_33 {z : ZC} {D : va_G} {cI cZ : ClassId} {ad : Nat → Nat} {R : Int32 × KX} (F : ZF z (yM D cI cZ ad) cX7_copy RX7 7 (some .int) 3) (n : Nat) (X : KX) (hf : f_X7_copy_33 n X = some R) : Z z (yM D cI cZ ad) 7 (zQI z (yM D cI cZ ad) R) X 33 [(0, .ref (ad 0))] [] := by
  unfold f_X7_copy_33 at hf
  refine z_aload_n F dX7_copy_33 0 rfl rfl ?_
  refine z_iconst (v := 1) F dX7_copy_34 (by decide +kernel) ?_
  refine k_X7_found F (by decide) wm_847 (Nat.le_of_ble_eq_true rfl) hf dX7_copy_35 (fun r_1 X_2 hf => ?_)
  exact z_iret F dX7_copy_38 (Option.some.inj hf)
set_option maxHeartbeats 4000000 in
set_option maxRecDepth 100000 in
theorem z_X7_copy {z : ZC} {D : va_G} {cI cZ : ClassId} {ad : Nat → Nat} {R : Int32 × KX} (F : ZF z (yM D cI cZ ad) cX7_copy RX7 7 (some .int) 3) (n : Nat) (X : KX) (a1 : Int32) (a2 : Int32) (a3 : Int32) (a4 : Int32) (a5 : Int32) (hf : f_X7_copy n X a1 a2 a3 a4 a5 = some R) : Z z (yM D cI cZ ad) 7 (zQI z (yM D cI cZ ad) R) X 0 [(0, .ref (ad 0)), (1, .int a1), (2, .int a2), (3, .int a3), (4, .int a4), (5, .int a5)] [] := by
  unfold f_X7_copy at hf
  refine z_iload_n F dX7_copy_0 1 rfl rfl ?_
  refine k_X7_isRow F (by decide) wm_840 (Nat.le_of_ble_eq_true rfl) dX7_copy_1 ?_
  refine z_if_eq (tgt := 14) F hf dX7_copy_4 (by decide) (fun hf => ?_) (fun hf => ?_)
  · refine z_ldc F wm_846 dX7_copy_14 ?_
    exact z_iret F dX7_copy_16 (Option.some.inj hf)
  · refine z_iload_n F dX7_copy_7 3 rfl rfl ?_
    refine k_X7_isRow F (by decide) wm_840 (Nat.le_of_ble_eq_true rfl) dX7_copy_8 ?_
    refine z_if_ne (tgt := 17) F hf dX7_copy_11 (by decide) (fun hf => ?_) (fun hf => ?_)
    · refine z_aload_n F dX7_copy_17 0 rfl rfl ?_
      refine z_iload_n F dX7_copy_18 1 rfl rfl ?_
      refine k_X7_isMissing F (by decide) wm_860 (Nat.le_of_ble_eq_true rfl) hf dX7_copy_19 (fun r_1 hf => ?_)
      refine z_if_ne (tgt := 33) F hf dX7_copy_22 (by decide) (fun hf => ?_) (fun hf => ?_)
      · exact z_sub [0] rfl (z_X7_copy_33 F n X hf)
      · refine z_aload_n F dX7_copy_25 0 rfl rfl ?_
        refine z_iload_n F dX7_copy_26 3 rfl rfl ?_
        refine k_X7_isMissing F (by decide) wm_860 (Nat.le_of_ble_eq_true rfl) hf dX7_copy_27 (fun r_2 hf => ?_)
        refine z_if_eq (tgt := 39) F hf dX7_copy_30 (by decide) (fun hf => ?_) (fun hf => ?_)
        · refine z_aload_n F dX7_copy_39 0 rfl rfl ?_
          refine gM_0_0 F wm_762 dX7_copy_40 ?_
          refine z_iload_n F dX7_copy_43 1 rfl rfl ?_
          refine lM_1 F hf dX7_copy_44 (fun hf => ?_)
          refine z_aload_n F dX7_copy_45 0 rfl rfl ?_
          refine gM_0_0 F wm_762 dX7_copy_46 ?_
          refine z_iload_n F dX7_copy_49 3 rfl rfl ?_
          refine lM_1 F hf dX7_copy_50 (fun hf => ?_)
          refine z_icmp_eq (tgt := 60) F hf dX7_copy_51 (by decide) (fun hf => ?_) (fun hf => ?_)
          · refine z_aload_n F dX7_copy_60 0 rfl rfl ?_
            refine z_iload_n F dX7_copy_61 1 rfl rfl ?_
            refine z_iload_n F dX7_copy_62 2 rfl rfl ?_
            refine z_iload F dX7_copy_63 5 rfl ?_
            refine k_X7_isPart F (by decide) wm_871 (Nat.le_of_ble_eq_true rfl) hf dX7_copy_65 (fun r_3 hf => ?_)
            refine z_if_eq (tgt := 83) F hf dX7_copy_68 (by decide) (fun hf => ?_) (fun hf => ?_)
            · exact z_sub [0] rfl (z_X7_copy_83 F n X hf)
            · refine z_aload_n F dX7_copy_71 0 rfl rfl ?_
              refine z_iload_n F dX7_copy_72 3 rfl rfl ?_
              refine z_iload F dX7_copy_73 4 rfl ?_
              refine z_iload F dX7_copy_75 5 rfl ?_
              refine k_X7_isPart F (by decide) wm_871 (Nat.le_of_ble_eq_true rfl) hf dX7_copy_77 (fun r_4 hf => ?_)
              refine z_if_ne (tgt := 89) F hf dX7_copy_80 (by decide) (fun hf => ?_) (fun hf => ?_)
              · refine z_iconst (v := 0) F dX7_copy_89 (by decide +kernel) ?_
                refine z_istore (L' := [(6, .int 0), (0, .ref (ad 0)), (1, .int a1), (2, .int a2), (3, .int a3), (4, .int a4), (5, .int a5)]) F dX7_copy_90 (Nat.le_of_ble_eq_true rfl) rfl ?_
                exact z_sub [1, 2, 3, 4, 5, 6, 0] rfl (z_X7_copy_92 F n n X a1 a2 a3 a4 a5 0 hf)
              · exact z_sub [0] rfl (z_X7_copy_83 F n X hf)
          · refine z_aload_n F dX7_copy_54 0 rfl rfl ?_
            refine z_iconst (v := 5) F dX7_copy_55 (by decide +kernel) ?_
            refine k_X7_found F (by decide) wm_847 (Nat.le_of_ble_eq_true rfl) hf dX7_copy_56 (fun r_5 X_6 hf => ?_)
            exact z_iret F dX7_copy_59 (Option.some.inj hf)
        · exact z_sub [0] rfl (z_X7_copy_33 F n X hf)
    · refine z_ldc F wm_846 dX7_copy_14 ?_
      exact z_iret F dX7_copy_16 (Option.some.inj hf)
theorem c_X7_copy {D : va_G} {cI cZ : ClassId} {ad : Nat → Nat} {R : Int32 × KX} (n : Nat) (X : KX) (a1 : Int32) (a2 : Int32) (a3 : Int32) (a4 : Int32) (a5 : Int32) (hf : f_X7_copy n X a1 a2 a3 a4 a5 = some R) : zMI (yM D cI cZ ad) yX7_copy cX7_copy 7 (some .int) 3 [.ref (ad 0), .int a1, .int a2, .int a3, .int a4, .int a5] X R := zMI_of (by decide +kernel) (Nat.le_of_ble_eq_true rfl) (fun z F => z_sub [0, 1, 2, 3, 4, 5] rfl (z_X7_copy F n X a1 a2 a3 a4 a5 hf))
theorem k_X7_copy {z : ZC} {D : va_G} {cI cZ : ClassId} {ad : Nat → Nat} {cc : ByteArray} {own : String} {nL d pc index : Nat} {ret : Option FieldType} {Q : State → Prop} {X : KX} {L : List (Nat × Value)} {rest : List Value} {n : Nat} {a1 a2 a3 a4 a5 : Int32} (F : ZF z (yM D cI cZ ad) cc own nL ret d) (hd : 3 + 1 ≤ d) (hw : Cond.methodLink own index yX7_copy ∈ wsA) (hst : (rest.map fun v => v.category).sum ≤ 8) {β : Type} {e : Int32 → KX → Option β} {r : β} (hf : zB2 (f_X7_copy n X a1 a2 a3 a4 a5) e = some r) (hdg : decode cc pc = .ok (.invokevirtual index, 3)) (kk : ∀ (v : Int32) (X2 : KX), e v X2 = some r → Z z (yM D cI cZ ad) nL Q X2 (pc + 3) L (.int v :: rest)) : Z z (yM D cI cZ ad) nL Q X pc L (.int a5 :: .int a4 :: .int a3 :: .int a2 :: .int a1 :: .ref (ad 0) :: rest) := by
  obtain ⟨v, X2, h1, h2⟩ := zB2_some hf
  exact z_cVI (As := [.int a1, .int a2, .int a3, .int a4, .int a5]) F (c_X7_copy n X a1 a2 a3 a4 a5 h1) kn_X7_copy kv_X7_copy hw (q0 := 0) rfl rfl hd rfl hst hdg rfl (kk v X2 h2)
theorem kv_X7_drop : zKv yX7_drop := ⟨wm_876, wm_877⟩
theorem kn_X7_drop : zKn yX7_drop cX7_drop 2 (some .int) 1 := ⟨wm_878, wm_62, by decide +kernel, by decide⟩
set_option maxHeartbeats 4000000 in
set_option maxRecDepth 100000 in
theorem z_X7_drop {z : ZC} {D : va_G} {cI cZ : ClassId} {ad : Nat → Nat} {R : Int32 × KX} (F : ZF z (yM D cI cZ ad) cX7_drop RX7 2 (some .int) 3) (X : KX) (a1 : Int32) (hf : f_X7_drop X a1 = some R) : Z z (yM D cI cZ ad) 2 (zQI z (yM D cI cZ ad) R) X 0 [(0, .ref (ad 0)), (1, .int a1)] [] := by
  unfold f_X7_drop at hf
  refine z_iload_n F dX7_drop_0 1 rfl rfl ?_
  refine k_X7_isRow F (by decide) wm_840 (Nat.le_of_ble_eq_true rfl) dX7_drop_1 ?_
  refine z_if_ne (tgt := 10) F hf dX7_drop_4 (by decide) (fun hf => ?_) (fun hf => ?_)
  · refine z_aload_n F dX7_drop_10 0 rfl rfl ?_
    refine z_iload_n F dX7_drop_11 1 rfl rfl ?_
    refine k_X7_isMissing F (by decide) wm_860 (Nat.le_of_ble_eq_true rfl) hf dX7_drop_12 (fun r_1 hf => ?_)
    refine z_if_eq (tgt := 24) F hf dX7_drop_15 (by decide) (fun hf => ?_) (fun hf => ?_)
    · refine z_aload_n F dX7_drop_24 0 rfl rfl ?_
      refine gM_0_0 F wm_762 dX7_drop_25 ?_
      refine z_iload_n F dX7_drop_28 1 rfl rfl ?_
      refine z_ldc F wm_761 dX7_drop_29 ?_
      refine sM_1 F hf dX7_drop_31 (fun X_2 hf => ?_)
      refine z_aload_n F dX7_drop_32 0 rfl rfl ?_
      refine z_aload_n F dX7_drop_33 0 rfl rfl ?_
      refine gM_0_1 F wm_763 dX7_drop_34 ?_
      refine z_iload_n F dX7_drop_37 1 rfl rfl ?_
      refine lM_2 F hf dX7_drop_38 (fun hf => ?_)
      refine k_X7_well F (by decide) wm_852 (Nat.le_of_ble_eq_true rfl) hf dX7_drop_39 (fun r_3 X_4 hf => ?_)
      exact z_iret F dX7_drop_42 (Option.some.inj hf)
    · refine z_aload_n F dX7_drop_18 0 rfl rfl ?_
      refine z_iconst (v := 1) F dX7_drop_19 (by decide +kernel) ?_
      refine k_X7_found F (by decide) wm_847 (Nat.le_of_ble_eq_true rfl) hf dX7_drop_20 (fun r_5 X_6 hf => ?_)
      exact z_iret F dX7_drop_23 (Option.some.inj hf)
  · refine z_ldc F wm_846 dX7_drop_7 ?_
    exact z_iret F dX7_drop_9 (Option.some.inj hf)
theorem c_X7_drop {D : va_G} {cI cZ : ClassId} {ad : Nat → Nat} {R : Int32 × KX} (X : KX) (a1 : Int32) (hf : f_X7_drop X a1 = some R) : zMI (yM D cI cZ ad) yX7_drop cX7_drop 2 (some .int) 3 [.ref (ad 0), .int a1] X R := zMI_of (by decide +kernel) (Nat.le_of_ble_eq_true rfl) (fun z F => z_sub [0, 1] rfl (z_X7_drop F X a1 hf))
theorem k_X7_drop {z : ZC} {D : va_G} {cI cZ : ClassId} {ad : Nat → Nat} {cc : ByteArray} {own : String} {nL d pc index : Nat} {ret : Option FieldType} {Q : State → Prop} {X : KX} {L : List (Nat × Value)} {rest : List Value} {a1 : Int32} (F : ZF z (yM D cI cZ ad) cc own nL ret d) (hd : 3 + 1 ≤ d) (hw : Cond.methodLink own index yX7_drop ∈ wsA) (hst : (rest.map fun v => v.category).sum ≤ 8) {β : Type} {e : Int32 → KX → Option β} {r : β} (hf : zB2 (f_X7_drop X a1) e = some r) (hdg : decode cc pc = .ok (.invokevirtual index, 3)) (kk : ∀ (v : Int32) (X2 : KX), e v X2 = some r → Z z (yM D cI cZ ad) nL Q X2 (pc + 3) L (.int v :: rest)) : Z z (yM D cI cZ ad) nL Q X pc L (.int a1 :: .ref (ad 0) :: rest) := by
  obtain ⟨v, X2, h1, h2⟩ := zB2_some hf
  exact z_cVI (As := [.int a1]) F (c_X7_drop X a1 h1) kn_X7_drop kv_X7_drop hw (q0 := 0) rfl rfl hd rfl hst hdg rfl (kk v X2 h2)
theorem kv_X7_feed : zKv yX7_feed := ⟨wm_880, wm_881⟩
theorem kn_X7_feed : zKn yX7_feed cX7_feed 2 (some .int) 1 := ⟨wm_882, wm_62, by decide +kernel, by decide⟩
set_option maxHeartbeats 4000000 in
set_option maxRecDepth 100000 in
theorem z_X7_feed {z : ZC} {D : va_G} {cI cZ : ClassId} {ad : Nat → Nat} {R : Int32 × KX} (F : ZF z (yM D cI cZ ad) cX7_feed RX7 2 (some .int) 2) (X : KX) (a1 : Int32) (hf : f_X7_feed X a1 = some R) : Z z (yM D cI cZ ad) 2 (zQI z (yM D cI cZ ad) R) X 0 [(0, .ref (ad 0)), (1, .int a1)] [] := by
  unfold f_X7_feed at hf
  refine z_iload_n F dX7_feed_0 1 rfl rfl ?_
  refine z_iconst (v := 0) F dX7_feed_1 (by decide +kernel) ?_
  refine z_sipush (v := 255) F dX7_feed_2 (by decide +kernel) ?_
  refine k_X7_in F (by decide) wm_843 (Nat.le_of_ble_eq_true rfl) dX7_feed_5 ?_
  refine z_if_ne (tgt := 14) F hf dX7_feed_8 (by decide) (fun hf => ?_) (fun hf => ?_)
  · refine z_aload_n F dX7_feed_14 0 rfl rfl ?_
    refine gM_0_6 F wm_768 dX7_feed_15 ?_
    refine z_bipush (v := 120) F dX7_feed_18 (by decide +kernel) ?_
    refine z_icmp_ne (tgt := 26) F hf dX7_feed_20 (by decide) (fun hf => ?_) (fun hf => ?_)
    · refine z_aload_n F dX7_feed_26 0 rfl rfl ?_
      refine gM_0_5 F wm_767 dX7_feed_27 ?_
      refine z_aload_n F dX7_feed_30 0 rfl rfl ?_
      refine gM_0_6 F wm_768 dX7_feed_31 ?_
      refine z_iload_n F dX7_feed_34 1 rfl rfl ?_
      refine sM_5 F hf dX7_feed_35 (fun X_1 hf => ?_)
      refine z_aload_n F dX7_feed_36 0 rfl rfl ?_
      refine z_dup F dX7_feed_37 rfl ?_
      refine gM_0_6 F wm_768 dX7_feed_38 ?_
      refine z_iconst (v := 1) F dX7_feed_41 (by decide +kernel) ?_
      refine z_iadd F dX7_feed_42 ?_
      refine pM_0_6 F hf wm_768 dX7_feed_43 (fun X_2 hf => ?_)
      refine z_aload_n F dX7_feed_46 0 rfl rfl ?_
      refine gM_0_6 F wm_768 dX7_feed_47 ?_
      exact z_iret F dX7_feed_50 (Option.some.inj hf)
    · refine z_ldc F wm_883 dX7_feed_23 ?_
      exact z_iret F dX7_feed_25 (Option.some.inj hf)
  · refine z_ldc F wm_846 dX7_feed_11 ?_
    exact z_iret F dX7_feed_13 (Option.some.inj hf)
theorem c_X7_feed {D : va_G} {cI cZ : ClassId} {ad : Nat → Nat} {R : Int32 × KX} (X : KX) (a1 : Int32) (hf : f_X7_feed X a1 = some R) : zMI (yM D cI cZ ad) yX7_feed cX7_feed 2 (some .int) 2 [.ref (ad 0), .int a1] X R := zMI_of (by decide +kernel) (Nat.le_of_ble_eq_true rfl) (fun z F => z_sub [0, 1] rfl (z_X7_feed F X a1 hf))
theorem k_X7_feed {z : ZC} {D : va_G} {cI cZ : ClassId} {ad : Nat → Nat} {cc : ByteArray} {own : String} {nL d pc index : Nat} {ret : Option FieldType} {Q : State → Prop} {X : KX} {L : List (Nat × Value)} {rest : List Value} {a1 : Int32} (F : ZF z (yM D cI cZ ad) cc own nL ret d) (hd : 2 + 1 ≤ d) (hw : Cond.methodLink own index yX7_feed ∈ wsA) (hst : (rest.map fun v => v.category).sum ≤ 8) {β : Type} {e : Int32 → KX → Option β} {r : β} (hf : zB2 (f_X7_feed X a1) e = some r) (hdg : decode cc pc = .ok (.invokevirtual index, 3)) (kk : ∀ (v : Int32) (X2 : KX), e v X2 = some r → Z z (yM D cI cZ ad) nL Q X2 (pc + 3) L (.int v :: rest)) : Z z (yM D cI cZ ad) nL Q X pc L (.int a1 :: .ref (ad 0) :: rest) := by
  obtain ⟨v, X2, h1, h2⟩ := zB2_some hf
  exact z_cVI (As := [.int a1]) F (c_X7_feed X a1 h1) kn_X7_feed kv_X7_feed hw (q0 := 0) rfl rfl hd rfl hst hdg rfl (kk v X2 h2)
theorem kv_X7_byteAt : zKv yX7_byteAt := ⟨wm_894, wm_23⟩
theorem kn_X7_byteAt : zKn yX7_byteAt cX7_byteAt 2 (some .int) 1 := ⟨wm_895, wm_62, by decide +kernel, by decide⟩
set_option maxHeartbeats 4000000 in
set_option maxRecDepth 100000 in
theorem z_X7_byteAt {z : ZC} {D : va_G} {cI cZ : ClassId} {ad : Nat → Nat} {r : Int32} (F : ZF z (yM D cI cZ ad) cX7_byteAt RX7 2 (some .int) 1) (X : KX) (a1 : Int32) (hf : f_X7_byteAt X a1 = some r) : Z z (yM D cI cZ ad) 2 (zQI z (yM D cI cZ ad) (r, X)) X 0 [(0, .ref (ad 0)), (1, .int a1)] [] := by
  unfold f_X7_byteAt at hf
  refine z_iload_n F dX7_byteAt_0 1 rfl rfl ?_
  refine z_aload_n F dX7_byteAt_1 0 rfl rfl ?_
  refine gM_0_6 F wm_768 dX7_byteAt_2 ?_
  refine z_icmp_ge (tgt := 17) F hf dX7_byteAt_5 (by decide) (fun hf => ?_) (fun hf => ?_)
  · refine z_iconst (v := (-1)) F dX7_byteAt_17 (by decide +kernel) ?_
    exact z_iret F dX7_byteAt_18 (Prod.ext (Option.some.inj hf) rfl)
  · refine z_aload_n F dX7_byteAt_8 0 rfl rfl ?_
    refine gM_0_5 F wm_767 dX7_byteAt_9 ?_
    refine z_iload_n F dX7_byteAt_12 1 rfl rfl ?_
    refine lM_5 F hf dX7_byteAt_13 (fun hf => ?_)
    refine z_goto (tgt := 18) F dX7_byteAt_14 (by decide) ?_
    exact z_iret F dX7_byteAt_18 (Prod.ext (Option.some.inj hf) rfl)
theorem c_X7_byteAt {D : va_G} {cI cZ : ClassId} {ad : Nat → Nat} {r : Int32} (X : KX) (a1 : Int32) (hf : f_X7_byteAt X a1 = some r) : zMI (yM D cI cZ ad) yX7_byteAt cX7_byteAt 2 (some .int) 1 [.ref (ad 0), .int a1] X (r, X) := zMI_of (by decide +kernel) (Nat.le_of_ble_eq_true rfl) (fun z F => z_sub [0, 1] rfl (z_X7_byteAt F X a1 hf))
theorem k_X7_byteAt {z : ZC} {D : va_G} {cI cZ : ClassId} {ad : Nat → Nat} {cc : ByteArray} {own : String} {nL d pc index : Nat} {ret : Option FieldType} {Q : State → Prop} {X : KX} {L : List (Nat × Value)} {rest : List Value} {a1 : Int32} (F : ZF z (yM D cI cZ ad) cc own nL ret d) (hd : 1 + 1 ≤ d) (hw : Cond.methodLink own index yX7_byteAt ∈ wsA) (hst : (rest.map fun v => v.category).sum ≤ 8) {β : Type} {e : Int32 → Option β} {r : β} (hf : zB1 (f_X7_byteAt X a1) e = some r) (hdg : decode cc pc = .ok (.invokevirtual index, 3)) (kk : ∀ v : Int32, e v = some r → Z z (yM D cI cZ ad) nL Q X (pc + 3) L (.int v :: rest)) : Z z (yM D cI cZ ad) nL Q X pc L (.int a1 :: .ref (ad 0) :: rest) := by
  obtain ⟨v, h1, h2⟩ := zB1_some hf
  exact z_cVI (As := [.int a1]) F (c_X7_byteAt X a1 h1) kn_X7_byteAt kv_X7_byteAt hw (q0 := 0) rfl rfl hd rfl hst hdg rfl (kk v h2)
theorem kv_X7_advances : zKv yX7_advances := ⟨wm_890, wm_22⟩
theorem kn_X7_advances : zKn yX7_advances cX7_advances 2 none 0 := ⟨wm_891, wm_62, by decide +kernel, by decide⟩
set_option maxHeartbeats 4000000 in
set_option maxRecDepth 100000 in
theorem z_X7_advances_200 {z : ZC} {D : va_G} {cI cZ : ClassId} {ad : Nat → Nat} {R : KX} (F : ZF z (yM D cI cZ ad) cX7_advances RX7 2 none 2) (n : Nat) (X : KX) (s0 : Int32) (s1 : Int32) (hf : f_X7_advances_200 n X s0 s1 = some R) : Z z (yM D cI cZ ad) 2 (zQV z (yM D cI cZ ad) R) X 200 [] [.int s0, .int s1, .ref (ad 0)] := by
  unfold f_X7_advances_200 at hf
  refine z_iadd F dX7_advances_200 ?_
  refine pM_0_9 F hf wm_771 dX7_advances_201 (fun X_1 hf => ?_)
  exact z_vret F dX7_advances_204 (Option.some.inj hf)
set_option maxHeartbeats 4000000 in
set_option maxRecDepth 100000 in
theorem z_X7_advances_180 {z : ZC} {D : va_G} {cI cZ : ClassId} {ad : Nat → Nat} {R : KX} (F : ZF z (yM D cI cZ ad) cX7_advances RX7 2 none 2) (n : Nat) (X : KX) (s0 : Int32) (hf : f_X7_advances_180 n X s0 = some R) : Z z (yM D cI cZ ad) 2 (zQV z (yM D cI cZ ad) R) X 180 [(0, .ref (ad 0))] [.int s0, .ref (ad 0)] := by
  unfold f_X7_advances_180 at hf
  refine pM_0_11 F hf wm_773 dX7_advances_180 (fun X_1 hf => ?_)
  refine z_aload_n F dX7_advances_183 0 rfl rfl ?_
  refine z_dup F dX7_advances_184 rfl ?_
  refine gM_0_9 F wm_771 dX7_advances_185 ?_
  refine z_aload_n F dX7_advances_188 0 rfl rfl ?_
  refine gM_0_11 F wm_773 dX7_advances_189 ?_
  refine z_if_ne (tgt := 199) F hf dX7_advances_192 (by decide) (fun hf => ?_) (fun hf => ?_)
  · refine z_iconst (v := 1) F dX7_advances_199 (by decide +kernel) ?_
    exact z_sub [] rfl (z_X7_advances_200 F n X_1 1 (X_1 0 9) hf)
  · refine z_iconst (v := 0) F dX7_advances_195 (by decide +kernel) ?_
    refine z_goto (tgt := 200) F dX7_advances_196 (by decide) ?_
    exact z_sub [] rfl (z_X7_advances_200 F n X_1 0 (X_1 0 9) hf)
set_option maxHeartbeats 4000000 in
set_option maxRecDepth 100000 in
theorem z_X7_advances_131 {z : ZC} {D : va_G} {cI cZ : ClassId} {ad : Nat → Nat} {R : KX} (F : ZF z (yM D cI cZ ad) cX7_advances RX7 2 none 2) (n : Nat) (X : KX) (s0 : Int32) (hf : f_X7_advances_131 n X s0 = some R) : Z z (yM D cI cZ ad) 2 (zQV z (yM D cI cZ ad) R) X 131 [] [.int s0, .ref (ad 0)] := by
  unfold f_X7_advances_131 at hf
  refine pM_0_11 F hf wm_773 dX7_advances_131 (fun X_1 hf => ?_)
  exact z_vret F dX7_advances_134 (Option.some.inj hf)
set_option maxHeartbeats 4000000 in
set_option maxRecDepth 100000 in
theorem z_X7_advances_96 {z : ZC} {D : va_G} {cI cZ : ClassId} {ad : Nat → Nat} {R : KX} {k38 : KX → Option KX} (F : ZF z (yM D cI cZ ad) cX7_advances RX7 2 none 2) (n : Nat) (hk38 : ∀ (X : KX), k38 X = some R → Z z (yM D cI cZ ad) 2 (zQV z (yM D cI cZ ad) R) X 38 [(0, .ref (ad 0))] []) (X : KX) (s0 : Int32) (hf : f_X7_advances_96 n k38 X s0 = some R) : Z z (yM D cI cZ ad) 2 (zQV z (yM D cI cZ ad) R) X 96 [(0, .ref (ad 0))] [.int s0, .ref (ad 0)] := by
  unfold f_X7_advances_96 at hf
  refine pM_0_12 F hf wm_774 dX7_advances_96 (fun X_1 hf => ?_)
  refine z_aload_n F dX7_advances_99 0 rfl rfl ?_
  refine z_dup F dX7_advances_100 rfl ?_
  refine gM_0_9 F wm_771 dX7_advances_101 ?_
  refine z_iconst (v := 1) F dX7_advances_104 (by decide +kernel) ?_
  refine z_iadd F dX7_advances_105 ?_
  refine pM_0_9 F hf wm_771 dX7_advances_106 (fun X_2 hf => ?_)
  refine z_goto (tgt := 38) F dX7_advances_109 (by decide) ?_
  exact z_sub [0] rfl (hk38 X_2 hf)
set_option maxHeartbeats 4000000 in
set_option maxRecDepth 100000 in
theorem z_X7_advances_38 {z : ZC} {D : va_G} {cI cZ : ClassId} {ad : Nat → Nat} {R : KX} (F : ZF z (yM D cI cZ ad) cX7_advances RX7 2 none 2) (n : Nat) : ∀ (t : Nat) (X : KX), f_X7_advances_38 n t X = some R → Z z (yM D cI cZ ad) 2 (zQV z (yM D cI cZ ad) R) X 38 [(0, .ref (ad 0))] [] := by
  intro t
  induction t with
  | zero => intro X hf; rw [f_X7_advances_38] at hf; exact zNone hf
  | succ t ih =>
    intro X hf
    rw [f_X7_advances_38] at hf
    refine z_aload_n F dX7_advances_38 0 rfl rfl ?_
    refine z_aload_n F dX7_advances_39 0 rfl rfl ?_
    refine gM_0_9 F wm_771 dX7_advances_40 ?_
    refine k_X7_byteAt F (by decide) wm_892 (Nat.le_of_ble_eq_true rfl) hf dX7_advances_43 (fun r_1 hf => ?_)
    refine z_bipush (v := 48) F dX7_advances_46 (by decide +kernel) ?_
    refine z_bipush (v := 57) F dX7_advances_48 (by decide +kernel) ?_
    refine k_X7_in F (by decide) wm_843 (Nat.le_of_ble_eq_true rfl) dX7_advances_50 ?_
    refine z_if_eq (tgt := 112) F hf dX7_advances_53 (by decide) (fun hf => ?_) (fun hf => ?_)
    · refine z_aload_n F dX7_advances_112 0 rfl rfl ?_
      refine z_aload_n F dX7_advances_113 0 rfl rfl ?_
      refine gM_0_9 F wm_771 dX7_advances_114 ?_
      refine z_aload_n F dX7_advances_117 0 rfl rfl ?_
      refine gM_0_10 F wm_772 dX7_advances_118 ?_
      refine z_isub F dX7_advances_121 ?_
      refine z_iconst (v := 3) F dX7_advances_122 (by decide +kernel) ?_
      refine z_icmp_ge (tgt := 130) F hf dX7_advances_123 (by decide) (fun hf => ?_) (fun hf => ?_)
      · refine z_iconst (v := 5) F dX7_advances_130 (by decide +kernel) ?_
        exact z_sub [] rfl (z_X7_advances_131 F n X 5 hf)
      · refine z_iconst (v := 2) F dX7_advances_126 (by decide +kernel) ?_
        refine z_goto (tgt := 131) F dX7_advances_127 (by decide) ?_
        exact z_sub [] rfl (z_X7_advances_131 F n X 2 hf)
    · refine z_aload_n F dX7_advances_56 0 rfl rfl ?_
      refine z_aload_n F dX7_advances_57 0 rfl rfl ?_
      refine gM_0_9 F wm_771 dX7_advances_58 ?_
      refine z_aload_n F dX7_advances_61 0 rfl rfl ?_
      refine gM_0_10 F wm_772 dX7_advances_62 ?_
      refine z_isub F dX7_advances_65 ?_
      refine z_iconst (v := 2) F dX7_advances_66 (by decide +kernel) ?_
      refine z_icmp_ge (tgt := 92) F hf dX7_advances_67 (by decide) (fun hf => ?_) (fun hf => ?_)
      · refine z_aload_n F dX7_advances_92 0 rfl rfl ?_
        refine gM_0_12 F wm_774 dX7_advances_93 ?_
        exact z_sub [0] rfl (z_X7_advances_96 F n ih X (X 0 12) hf)
      · refine z_bipush (v := 10) F dX7_advances_70 (by decide +kernel) ?_
        refine z_aload_n F dX7_advances_72 0 rfl rfl ?_
        refine gM_0_12 F wm_774 dX7_advances_73 ?_
        refine z_imul F dX7_advances_76 ?_
        refine z_aload_n F dX7_advances_77 0 rfl rfl ?_
        refine z_aload_n F dX7_advances_78 0 rfl rfl ?_
        refine gM_0_9 F wm_771 dX7_advances_79 ?_
        refine k_X7_byteAt F (by decide) wm_892 (Nat.le_of_ble_eq_true rfl) hf dX7_advances_82 (fun r_2 hf => ?_)
        refine z_iadd F dX7_advances_85 ?_
        refine z_bipush (v := 48) F dX7_advances_86 (by decide +kernel) ?_
        refine z_isub F dX7_advances_88 ?_
        refine z_goto (tgt := 96) F dX7_advances_89 (by decide) ?_
        exact z_sub [0] rfl (z_X7_advances_96 F n ih X (((10 * (X 0 12)) + r_2) - 48) hf)
set_option maxHeartbeats 4000000 in
set_option maxRecDepth 100000 in
theorem z_X7_advances {z : ZC} {D : va_G} {cI cZ : ClassId} {ad : Nat → Nat} {R : KX} (F : ZF z (yM D cI cZ ad) cX7_advances RX7 2 none 2) (n : Nat) (X : KX)  (hf : f_X7_advances n X = some R) : Z z (yM D cI cZ ad) 2 (zQV z (yM D cI cZ ad) R) X 0 [(0, .ref (ad 0))] [] := by
  unfold f_X7_advances at hf
  refine z_aload_n F dX7_advances_0 0 rfl rfl ?_
  refine z_aload_n F dX7_advances_1 0 rfl rfl ?_
  refine gM_0_9 F wm_771 dX7_advances_2 ?_
  refine pM_0_10 F hf wm_772 dX7_advances_5 (fun X_1 hf => ?_)
  refine z_aload_n F dX7_advances_8 0 rfl rfl ?_
  refine z_aload_n F dX7_advances_9 0 rfl rfl ?_
  refine gM_0_9 F wm_771 dX7_advances_10 ?_
  refine k_X7_byteAt F (by decide) wm_892 (Nat.le_of_ble_eq_true rfl) hf dX7_advances_13 (fun r_2 hf => ?_)
  refine z_istore_n (L' := [(1, .int r_2), (0, .ref (ad 0))]) F dX7_advances_16 rfl (Nat.le_of_ble_eq_true rfl) rfl ?_
  refine z_aload_n F dX7_advances_17 1 rfl rfl ?_
  refine z_iload_n F dX7_advances_18 0 rfl rfl ?_
  refine pM_0_12 F hf wm_774 dX7_advances_19 (fun X_3 hf => ?_)
  refine z_iload_n F dX7_advances_22 0 rfl rfl ?_
  refine z_bipush (v := 48) F dX7_advances_23 (by decide +kernel) ?_
  refine z_bipush (v := 57) F dX7_advances_25 (by decide +kernel) ?_
  refine k_X7_in F (by decide) wm_843 (Nat.le_of_ble_eq_true rfl) dX7_advances_27 ?_
  refine z_if_eq (tgt := 135) F hf dX7_advances_30 (by decide) (fun hf => ?_) (fun hf => ?_)
  · refine z_aload_n F dX7_advances_135 1 rfl rfl ?_
    refine z_iload_n F dX7_advances_136 0 rfl rfl ?_
    refine z_if_ge (tgt := 144) F hf dX7_advances_137 (by decide) (fun hf => ?_) (fun hf => ?_)
    · refine z_iload_n F dX7_advances_144 0 rfl rfl ?_
      refine z_bipush (v := 97) F dX7_advances_145 (by decide +kernel) ?_
      refine z_bipush (v := 122) F dX7_advances_147 (by decide +kernel) ?_
      refine k_X7_in F (by decide) wm_843 (Nat.le_of_ble_eq_true rfl) dX7_advances_149 ?_
      refine z_if_eq (tgt := 159) F hf dX7_advances_152 (by decide) (fun hf => ?_) (fun hf => ?_)
      · refine z_iload_n F dX7_advances_159 0 rfl rfl ?_
        refine z_bipush (v := 44) F dX7_advances_160 (by decide +kernel) ?_
        refine z_icmp_ne (tgt := 169) F hf dX7_advances_162 (by decide) (fun hf => ?_) (fun hf => ?_)
        · refine z_iload_n F dX7_advances_169 0 rfl rfl ?_
          refine z_bipush (v := 59) F dX7_advances_170 (by decide +kernel) ?_
          refine z_icmp_ne (tgt := 179) F hf dX7_advances_172 (by decide) (fun hf => ?_) (fun hf => ?_)
          · refine z_iconst (v := 5) F dX7_advances_179 (by decide +kernel) ?_
            exact z_sub [1] rfl (z_X7_advances_180 F n X_3 5 hf)
          · refine z_iconst (v := 4) F dX7_advances_175 (by decide +kernel) ?_
            refine z_goto (tgt := 180) F dX7_advances_176 (by decide) ?_
            exact z_sub [1] rfl (z_X7_advances_180 F n X_3 4 hf)
        · refine z_iconst (v := 3) F dX7_advances_165 (by decide +kernel) ?_
          refine z_goto (tgt := 180) F dX7_advances_166 (by decide) ?_
          exact z_sub [1] rfl (z_X7_advances_180 F n X_3 3 hf)
      · refine z_iconst (v := 1) F dX7_advances_155 (by decide +kernel) ?_
        refine z_goto (tgt := 180) F dX7_advances_156 (by decide) ?_
        exact z_sub [1] rfl (z_X7_advances_180 F n X_3 1 hf)
    · refine z_iconst (v := 0) F dX7_advances_140 (by decide +kernel) ?_
      refine z_goto (tgt := 180) F dX7_advances_141 (by decide) ?_
      exact z_sub [1] rfl (z_X7_advances_180 F n X_3 0 hf)
  · refine z_aload_n F dX7_advances_33 1 rfl rfl ?_
    refine z_iconst (v := 0) F dX7_advances_34 (by decide +kernel) ?_
    refine pM_0_12 F hf wm_774 dX7_advances_35 (fun X_4 hf => ?_)
    exact z_sub [1] rfl (z_X7_advances_38 F n n X_4 hf)
theorem c_X7_advances {D : va_G} {cI cZ : ClassId} {ad : Nat → Nat} {R : KX} (n : Nat) (X : KX)  (hf : f_X7_advances n X = some R) : zMV (yM D cI cZ ad) yX7_advances cX7_advances 2 none 2 [.ref (ad 0)] X R := zMV_of (by decide +kernel) (Nat.le_of_ble_eq_true rfl) (fun z F => z_sub [0] rfl (z_X7_advances F n X hf))
theorem k_X7_advances {z : ZC} {D : va_G} {cI cZ : ClassId} {ad : Nat → Nat} {cc : ByteArray} {own : String} {nL d pc index : Nat} {ret : Option FieldType} {Q : State → Prop} {X : KX} {L : List (Nat × Value)} {rest : List Value} {n : Nat} (F : ZF z (yM D cI cZ ad) cc own nL ret d) (hd : 2 + 1 ≤ d) (hw : Cond.methodLink own index yX7_advances ∈ wsA) (hst : (rest.map fun v => v.category).sum ≤ 8) {β : Type} {e : KX → Option β} {r : β} (hf : zB1 (f_X7_advances n X) e = some r) (hdg : decode cc pc = .ok (.invokevirtual index, 3)) (kk : ∀ X2 : KX, e X2 = some r → Z z (yM D cI cZ ad) nL Q X2 (pc + 3) L rest) : Z z (yM D cI cZ ad) nL Q X pc L (.ref (ad 0) :: rest) := by
  obtain ⟨v, h1, h2⟩ := zB1_some hf
  exact z_cVV (As := []) F (c_X7_advances n X h1) kn_X7_advances kv_X7_advances hw (q0 := 0) rfl rfl hd rfl hst hdg rfl (kk v h2)
theorem kv_X7_isWell : zKv yX7_isWell := ⟨wm_902, wm_25⟩
theorem kn_X7_isWell : zKn yX7_isWell cX7_isWell 1 (some .boolean) 0 := ⟨wm_903, wm_62, by decide +kernel, by decide⟩
set_option maxHeartbeats 4000000 in
set_option maxRecDepth 100000 in
theorem z_X7_isWell {z : ZC} {D : va_G} {cI cZ : ClassId} {ad : Nat → Nat} {r : Int32} (F : ZF z (yM D cI cZ ad) cX7_isWell RX7 1 (some .boolean) 1) (X : KX)  (hf : f_X7_isWell X = r) : Z z (yM D cI cZ ad) 1 (zQI z (yM D cI cZ ad) (r, X)) X 0 [(0, .ref (ad 0))] [] := by
  unfold f_X7_isWell at hf
  refine z_aload_n F dX7_isWell_0 0 rfl rfl ?_
  refine gM_0_8 F wm_770 dX7_isWell_1 ?_
  refine z_if_ge (tgt := 11) F hf dX7_isWell_4 (by decide) (fun hf => ?_) (fun hf => ?_)
  · refine z_iconst (v := 0) F dX7_isWell_11 (by decide +kernel) ?_
    exact z_zret F (by decide) dX7_isWell_12 (Prod.ext hf rfl)
  · refine z_iconst (v := 1) F dX7_isWell_7 (by decide +kernel) ?_
    refine z_goto (tgt := 12) F dX7_isWell_8 (by decide) ?_
    exact z_zret F (by decide) dX7_isWell_12 (Prod.ext hf rfl)
theorem c_X7_isWell {D : va_G} {cI cZ : ClassId} {ad : Nat → Nat} (X : KX)  : zMI (yM D cI cZ ad) yX7_isWell cX7_isWell 1 (some .boolean) 1 [.ref (ad 0)] X (f_X7_isWell X, X) := zMI_of (by decide +kernel) (Nat.le_of_ble_eq_true rfl) (fun z F => z_sub [0] rfl (z_X7_isWell F X rfl))
theorem k_X7_isWell {z : ZC} {D : va_G} {cI cZ : ClassId} {ad : Nat → Nat} {cc : ByteArray} {own : String} {nL d pc index : Nat} {ret : Option FieldType} {Q : State → Prop} {X : KX} {L : List (Nat × Value)} {rest : List Value} (F : ZF z (yM D cI cZ ad) cc own nL ret d) (hd : 1 + 1 ≤ d) (hw : Cond.methodLink own index yX7_isWell ∈ wsA) (hst : (rest.map fun v => v.category).sum ≤ 8) (hdg : decode cc pc = .ok (.invokevirtual index, 3)) (kk : Z z (yM D cI cZ ad) nL Q X (pc + 3) L (.int (f_X7_isWell X) :: rest)) : Z z (yM D cI cZ ad) nL Q X pc L (.ref (ad 0) :: rest) := z_cVI (As := []) F (c_X7_isWell X) kn_X7_isWell kv_X7_isWell hw (q0 := 0) rfl rfl hd rfl hst hdg rfl kk
theorem bz_X7_isWell (X : KX)  : f_X7_isWell X = 0 ∨ f_X7_isWell X = 1 := by
  unfold f_X7_isWell
  repeat' split
  all_goals first | exact Or.inl rfl | exact Or.inr rfl | exact bz_X6_isBelow _ _ | exact bz_X5_isFigure _ | exact bz_X2_isGuest _ _ | exact bz_X6_has _ _ | exact bz_X2_isHint _ _ | exact bz_X6_isOneOf _ _ | exact bz_X7_in _ _ _ | exact bz_X7_isRow _
theorem kv_X7_takes : zKv yX7_takes := ⟨wm_898, wm_24⟩
theorem kn_X7_takes : zKn yX7_takes cX7_takes 4 (some .int) 2 := ⟨wm_899, wm_62, by decide +kernel, by decide⟩
set_option maxHeartbeats 4000000 in
set_option maxRecDepth 100000 in
theorem z_X7_takes {z : ZC} {D : va_G} {cI cZ : ClassId} {ad : Nat → Nat} {R : Int32 × KX} (F : ZF z (yM D cI cZ ad) cX7_takes RX7 4 (some .int) 3) (n : Nat) (X : KX) (a1 : Int32) (a2 : Int32) (hf : f_X7_takes n X a1 a2 = some R) : Z z (yM D cI cZ ad) 4 (zQI z (yM D cI cZ ad) R) X 0 [(0, .ref (ad 0)), (1, .int a1), (2, .int a2)] [] := by
  unfold f_X7_takes at hf
  refine z_aload_n F dX7_takes_0 0 rfl rfl ?_
  refine k_X7_isWell F (by decide) wm_900 (Nat.le_of_ble_eq_true rfl) dX7_takes_1 ?_
  refine z_if_ne (tgt := 9) F hf dX7_takes_4 (by decide) (fun hf => ?_) (fun hf => ?_)
  · refine z_iload_n F dX7_takes_9 1 rfl rfl ?_
    refine z_if_ne (tgt := 28) F hf dX7_takes_10 (by decide) (fun hf => ?_) (fun hf => ?_)
    · refine z_aload_n F dX7_takes_28 0 rfl rfl ?_
      refine gM_0_12 F wm_774 dX7_takes_29 ?_
      refine z_top hf (fun v3_1 hf => ?_)
      refine z_istore_n (L' := [(3, .int v3_1), (0, .ref (ad 0)), (1, .int a1), (2, .int a2)]) F dX7_takes_32 rfl (Nat.le_of_ble_eq_true rfl) rfl ?_
      refine z_aload_n F dX7_takes_33 1 rfl rfl ?_
      refine k_X7_advances F (by decide) wm_888 (Nat.le_of_ble_eq_true rfl) hf dX7_takes_34 (fun X_2 hf => ?_)
      refine z_iload_n F dX7_takes_37 0 rfl rfl ?_
      exact z_iret F dX7_takes_38 (Option.some.inj hf)
    · refine z_aload_n F dX7_takes_13 0 rfl rfl ?_
      refine z_aload_n F dX7_takes_14 0 rfl rfl ?_
      refine gM_0_10 F wm_772 dX7_takes_15 ?_
      refine pM_0_8 F hf wm_770 dX7_takes_18 (fun X_3 hf => ?_)
      refine z_aload_n F dX7_takes_21 0 rfl rfl ?_
      refine z_iload_n F dX7_takes_22 2 rfl rfl ?_
      refine pM_0_7 F hf wm_769 dX7_takes_23 (fun X_4 hf => ?_)
      refine z_iconst (v := 0) F dX7_takes_26 (by decide +kernel) ?_
      exact z_iret F dX7_takes_27 (Option.some.inj hf)
  · refine z_iconst (v := 0) F dX7_takes_7 (by decide +kernel) ?_
    exact z_iret F dX7_takes_8 (Option.some.inj hf)
theorem c_X7_takes {D : va_G} {cI cZ : ClassId} {ad : Nat → Nat} {R : Int32 × KX} (n : Nat) (X : KX) (a1 : Int32) (a2 : Int32) (hf : f_X7_takes n X a1 a2 = some R) : zMI (yM D cI cZ ad) yX7_takes cX7_takes 4 (some .int) 3 [.ref (ad 0), .int a1, .int a2] X R := zMI_of (by decide +kernel) (Nat.le_of_ble_eq_true rfl) (fun z F => z_sub [0, 1, 2] rfl (z_X7_takes F n X a1 a2 hf))
theorem k_X7_takes {z : ZC} {D : va_G} {cI cZ : ClassId} {ad : Nat → Nat} {cc : ByteArray} {own : String} {nL d pc index : Nat} {ret : Option FieldType} {Q : State → Prop} {X : KX} {L : List (Nat × Value)} {rest : List Value} {n : Nat} {a1 a2 : Int32} (F : ZF z (yM D cI cZ ad) cc own nL ret d) (hd : 3 + 1 ≤ d) (hw : Cond.methodLink own index yX7_takes ∈ wsA) (hst : (rest.map fun v => v.category).sum ≤ 8) {β : Type} {e : Int32 → KX → Option β} {r : β} (hf : zB2 (f_X7_takes n X a1 a2) e = some r) (hdg : decode cc pc = .ok (.invokevirtual index, 3)) (kk : ∀ (v : Int32) (X2 : KX), e v X2 = some r → Z z (yM D cI cZ ad) nL Q X2 (pc + 3) L (.int v :: rest)) : Z z (yM D cI cZ ad) nL Q X pc L (.int a2 :: .int a1 :: .ref (ad 0) :: rest) := by
  obtain ⟨v, X2, h1, h2⟩ := zB2_some hf
  exact z_cVI (As := [.int a1, .int a2]) F (c_X7_takes n X a1 a2 h1) kn_X7_takes kv_X7_takes hw (q0 := 0) rfl rfl hd rfl hst hdg rfl (kk v X2 h2)
theorem kv_X7_figure : zKv yX7_figure := ⟨wm_906, wm_26⟩
theorem kn_X7_figure : zKn yX7_figure cX7_figure 3 (some .int) 2 := ⟨wm_907, wm_62, by decide +kernel, by decide⟩
set_option maxHeartbeats 4000000 in
set_option maxRecDepth 100000 in
theorem z_X7_figure_22 {z : ZC} {D : va_G} {cI cZ : ClassId} {ad : Nat → Nat} {R : Int32 × KX} (F : ZF z (yM D cI cZ ad) cX7_figure RX7 3 (some .int) 4) (n : Nat) (X : KX) (v1 : Int32) (v2 : Int32) (hf : f_X7_figure_22 n X v1 v2 = some R) : Z z (yM D cI cZ ad) 3 (zQI z (yM D cI cZ ad) R) X 22 [(0, .ref (ad 0)), (1, .int v1), (2, .int v2)] [] := by
  unfold f_X7_figure_22 at hf
  refine z_aload_n F dX7_figure_22 0 rfl rfl ?_
  refine z_aload_n F dX7_figure_23 0 rfl rfl ?_
  refine gM_0_12 F wm_774 dX7_figure_24 ?_
  refine z_iload_n F dX7_figure_27 1 rfl rfl ?_
  refine z_iload_n F dX7_figure_28 2 rfl rfl ?_
  refine k_X7_in F (by decide) wm_843 (Nat.le_of_ble_eq_true rfl) dX7_figure_29 ?_
  refine z_iconst (v := 2) F dX7_figure_32 (by decide +kernel) ?_
  refine k_X7_takes F (by decide) wm_896 (Nat.le_of_ble_eq_true rfl) hf dX7_figure_33 (fun r_1 X_2 hf => ?_)
  exact z_iret F dX7_figure_36 (Option.some.inj hf)
set_option maxHeartbeats 4000000 in
set_option maxRecDepth 100000 in
theorem z_X7_figure {z : ZC} {D : va_G} {cI cZ : ClassId} {ad : Nat → Nat} {R : Int32 × KX} (F : ZF z (yM D cI cZ ad) cX7_figure RX7 3 (some .int) 4) (n : Nat) (X : KX) (a1 : Int32) (a2 : Int32) (hf : f_X7_figure n X a1 a2 = some R) : Z z (yM D cI cZ ad) 3 (zQI z (yM D cI cZ ad) R) X 0 [(0, .ref (ad 0)), (1, .int a1), (2, .int a2)] [] := by
  unfold f_X7_figure at hf
  refine z_aload_n F dX7_figure_0 0 rfl rfl ?_
  refine k_X7_isWell F (by decide) wm_900 (Nat.le_of_ble_eq_true rfl) dX7_figure_1 ?_
  refine z_if_eq (tgt := 22) F hf dX7_figure_4 (by decide) (fun hf => ?_) (fun hf => ?_)
  · exact z_sub [0, 1, 2] rfl (z_X7_figure_22 F n X a1 a2 hf)
  · refine z_aload_n F dX7_figure_7 0 rfl rfl ?_
    refine gM_0_11 F wm_773 dX7_figure_8 ?_
    refine z_iconst (v := 2) F dX7_figure_11 (by decide +kernel) ?_
    refine z_icmp_eq (tgt := 22) F hf dX7_figure_12 (by decide) (fun hf => ?_) (fun hf => ?_)
    · exact z_sub [0, 1, 2] rfl (z_X7_figure_22 F n X a1 a2 hf)
    · refine z_aload_n F dX7_figure_15 0 rfl rfl ?_
      refine z_iconst (v := 0) F dX7_figure_16 (by decide +kernel) ?_
      refine z_iconst (v := 1) F dX7_figure_17 (by decide +kernel) ?_
      refine k_X7_takes F (by decide) wm_896 (Nat.le_of_ble_eq_true rfl) hf dX7_figure_18 (fun r_1 X_2 hf => ?_)
      exact z_iret F dX7_figure_21 (Option.some.inj hf)
theorem c_X7_figure {D : va_G} {cI cZ : ClassId} {ad : Nat → Nat} {R : Int32 × KX} (n : Nat) (X : KX) (a1 : Int32) (a2 : Int32) (hf : f_X7_figure n X a1 a2 = some R) : zMI (yM D cI cZ ad) yX7_figure cX7_figure 3 (some .int) 4 [.ref (ad 0), .int a1, .int a2] X R := zMI_of (by decide +kernel) (Nat.le_of_ble_eq_true rfl) (fun z F => z_sub [0, 1, 2] rfl (z_X7_figure F n X a1 a2 hf))
theorem k_X7_figure {z : ZC} {D : va_G} {cI cZ : ClassId} {ad : Nat → Nat} {cc : ByteArray} {own : String} {nL d pc index : Nat} {ret : Option FieldType} {Q : State → Prop} {X : KX} {L : List (Nat × Value)} {rest : List Value} {n : Nat} {a1 a2 : Int32} (F : ZF z (yM D cI cZ ad) cc own nL ret d) (hd : 4 + 1 ≤ d) (hw : Cond.methodLink own index yX7_figure ∈ wsA) (hst : (rest.map fun v => v.category).sum ≤ 8) {β : Type} {e : Int32 → KX → Option β} {r : β} (hf : zB2 (f_X7_figure n X a1 a2) e = some r) (hdg : decode cc pc = .ok (.invokevirtual index, 3)) (kk : ∀ (v : Int32) (X2 : KX), e v X2 = some r → Z z (yM D cI cZ ad) nL Q X2 (pc + 3) L (.int v :: rest)) : Z z (yM D cI cZ ad) nL Q X pc L (.int a2 :: .int a1 :: .ref (ad 0) :: rest) := by
  obtain ⟨v, X2, h1, h2⟩ := zB2_some hf
  exact z_cVI (As := [.int a1, .int a2]) F (c_X7_figure n X a1 a2 h1) kn_X7_figure kv_X7_figure hw (q0 := 0) rfl rfl hd rfl hst hdg rfl (kk v X2 h2)
theorem kv_X7_figureBut : zKv yX7_figureBut := ⟨wm_910, wm_27⟩
theorem kn_X7_figureBut : zKn yX7_figureBut cX7_figureBut 3 (some .int) 2 := ⟨wm_911, wm_62, by decide +kernel, by decide⟩
set_option maxHeartbeats 4000000 in
set_option maxRecDepth 100000 in
theorem z_X7_figureBut_44 {z : ZC} {D : va_G} {cI cZ : ClassId} {ad : Nat → Nat} {R : Int32 × KX} (F : ZF z (yM D cI cZ ad) cX7_figureBut RX7 3 (some .int) 4) (n : Nat) (X : KX) (s0 : Int32) (hf : f_X7_figureBut_44 n X s0 = some R) : Z z (yM D cI cZ ad) 3 (zQI z (yM D cI cZ ad) R) X 44 [] [.int s0, .ref (ad 0)] := by
  unfold f_X7_figureBut_44 at hf
  refine z_iconst (v := 2) F dX7_figureBut_44 (by decide +kernel) ?_
  refine k_X7_takes F (by decide) wm_896 (Nat.le_of_ble_eq_true rfl) hf dX7_figureBut_45 (fun r_1 X_2 hf => ?_)
  exact z_iret F dX7_figureBut_48 (Option.some.inj hf)
set_option maxHeartbeats 4000000 in
set_option maxRecDepth 100000 in
theorem z_X7_figureBut_43 {z : ZC} {D : va_G} {cI cZ : ClassId} {ad : Nat → Nat} {R : Int32 × KX} (F : ZF z (yM D cI cZ ad) cX7_figureBut RX7 3 (some .int) 4) (n : Nat) (X : KX) (hf : f_X7_figureBut_43 n X = some R) : Z z (yM D cI cZ ad) 3 (zQI z (yM D cI cZ ad) R) X 43 [] [.ref (ad 0)] := by
  unfold f_X7_figureBut_43 at hf
  refine z_iconst (v := 0) F dX7_figureBut_43 (by decide +kernel) ?_
  exact z_sub [] rfl (z_X7_figureBut_44 F n X 0 hf)
set_option maxHeartbeats 4000000 in
set_option maxRecDepth 100000 in
theorem z_X7_figureBut_22 {z : ZC} {D : va_G} {cI cZ : ClassId} {ad : Nat → Nat} {R : Int32 × KX} (F : ZF z (yM D cI cZ ad) cX7_figureBut RX7 3 (some .int) 4) (n : Nat) (X : KX) (v1 : Int32) (v2 : Int32) (hf : f_X7_figureBut_22 n X v1 v2 = some R) : Z z (yM D cI cZ ad) 3 (zQI z (yM D cI cZ ad) R) X 22 [(0, .ref (ad 0)), (1, .int v1), (2, .int v2)] [] := by
  unfold f_X7_figureBut_22 at hf
  refine z_aload_n F dX7_figureBut_22 0 rfl rfl ?_
  refine z_aload_n F dX7_figureBut_23 0 rfl rfl ?_
  refine gM_0_12 F wm_774 dX7_figureBut_24 ?_
  refine z_iload_n F dX7_figureBut_27 1 rfl rfl ?_
  refine z_icmp_gt (tgt := 43) F hf dX7_figureBut_28 (by decide) (fun hf => ?_) (fun hf => ?_)
  · exact z_sub [] rfl (z_X7_figureBut_43 F n X hf)
  · refine z_aload_n F dX7_figureBut_31 0 rfl rfl ?_
    refine gM_0_12 F wm_774 dX7_figureBut_32 ?_
    refine z_iload_n F dX7_figureBut_35 2 rfl rfl ?_
    refine z_icmp_eq (tgt := 43) F hf dX7_figureBut_36 (by decide) (fun hf => ?_) (fun hf => ?_)
    · exact z_sub [] rfl (z_X7_figureBut_43 F n X hf)
    · refine z_iconst (v := 1) F dX7_figureBut_39 (by decide +kernel) ?_
      refine z_goto (tgt := 44) F dX7_figureBut_40 (by decide) ?_
      exact z_sub [] rfl (z_X7_figureBut_44 F n X 1 hf)
set_option maxHeartbeats 4000000 in
set_option maxRecDepth 100000 in
theorem z_X7_figureBut {z : ZC} {D : va_G} {cI cZ : ClassId} {ad : Nat → Nat} {R : Int32 × KX} (F : ZF z (yM D cI cZ ad) cX7_figureBut RX7 3 (some .int) 4) (n : Nat) (X : KX) (a1 : Int32) (a2 : Int32) (hf : f_X7_figureBut n X a1 a2 = some R) : Z z (yM D cI cZ ad) 3 (zQI z (yM D cI cZ ad) R) X 0 [(0, .ref (ad 0)), (1, .int a1), (2, .int a2)] [] := by
  unfold f_X7_figureBut at hf
  refine z_aload_n F dX7_figureBut_0 0 rfl rfl ?_
  refine k_X7_isWell F (by decide) wm_900 (Nat.le_of_ble_eq_true rfl) dX7_figureBut_1 ?_
  refine z_if_eq (tgt := 22) F hf dX7_figureBut_4 (by decide) (fun hf => ?_) (fun hf => ?_)
  · exact z_sub [0, 1, 2] rfl (z_X7_figureBut_22 F n X a1 a2 hf)
  · refine z_aload_n F dX7_figureBut_7 0 rfl rfl ?_
    refine gM_0_11 F wm_773 dX7_figureBut_8 ?_
    refine z_iconst (v := 2) F dX7_figureBut_11 (by decide +kernel) ?_
    refine z_icmp_eq (tgt := 22) F hf dX7_figureBut_12 (by decide) (fun hf => ?_) (fun hf => ?_)
    · exact z_sub [0, 1, 2] rfl (z_X7_figureBut_22 F n X a1 a2 hf)
    · refine z_aload_n F dX7_figureBut_15 0 rfl rfl ?_
      refine z_iconst (v := 0) F dX7_figureBut_16 (by decide +kernel) ?_
      refine z_iconst (v := 1) F dX7_figureBut_17 (by decide +kernel) ?_
      refine k_X7_takes F (by decide) wm_896 (Nat.le_of_ble_eq_true rfl) hf dX7_figureBut_18 (fun r_1 X_2 hf => ?_)
      exact z_iret F dX7_figureBut_21 (Option.some.inj hf)
theorem c_X7_figureBut {D : va_G} {cI cZ : ClassId} {ad : Nat → Nat} {R : Int32 × KX} (n : Nat) (X : KX) (a1 : Int32) (a2 : Int32) (hf : f_X7_figureBut n X a1 a2 = some R) : zMI (yM D cI cZ ad) yX7_figureBut cX7_figureBut 3 (some .int) 4 [.ref (ad 0), .int a1, .int a2] X R := zMI_of (by decide +kernel) (Nat.le_of_ble_eq_true rfl) (fun z F => z_sub [0, 1, 2] rfl (z_X7_figureBut F n X a1 a2 hf))
theorem k_X7_figureBut {z : ZC} {D : va_G} {cI cZ : ClassId} {ad : Nat → Nat} {cc : ByteArray} {own : String} {nL d pc index : Nat} {ret : Option FieldType} {Q : State → Prop} {X : KX} {L : List (Nat × Value)} {rest : List Value} {n : Nat} {a1 a2 : Int32} (F : ZF z (yM D cI cZ ad) cc own nL ret d) (hd : 4 + 1 ≤ d) (hw : Cond.methodLink own index yX7_figureBut ∈ wsA) (hst : (rest.map fun v => v.category).sum ≤ 8) {β : Type} {e : Int32 → KX → Option β} {r : β} (hf : zB2 (f_X7_figureBut n X a1 a2) e = some r) (hdg : decode cc pc = .ok (.invokevirtual index, 3)) (kk : ∀ (v : Int32) (X2 : KX), e v X2 = some r → Z z (yM D cI cZ ad) nL Q X2 (pc + 3) L (.int v :: rest)) : Z z (yM D cI cZ ad) nL Q X pc L (.int a2 :: .int a1 :: .ref (ad 0) :: rest) := by
  obtain ⟨v, X2, h1, h2⟩ := zB2_some hf
  exact z_cVI (As := [.int a1, .int a2]) F (c_X7_figureBut n X a1 a2 h1) kn_X7_figureBut kv_X7_figureBut hw (q0 := 0) rfl rfl hd rfl hst hdg rfl (kk v X2 h2)
theorem kv_X7_kindOf : Cond.static yX7_kindOf ∈ wsA := wm_913
theorem kn_X7_kindOf : zKn yX7_kindOf cX7_kindOf 1 (some .int) 1 := ⟨wm_914, wm_62, by decide +kernel, by decide⟩
set_option maxHeartbeats 4000000 in
set_option maxRecDepth 100000 in
theorem z_X7_kindOf {z : ZC} {D : va_G} {cI cZ : ClassId} {ad : Nat → Nat} {r : Int32} (F : ZF z (yM D cI cZ ad) cX7_kindOf RX7 1 (some .int) 1) {X : KX} (a0 : Int32) (hf : f_X7_kindOf a0 = r) : Z z (yM D cI cZ ad) 1 (zQI z (yM D cI cZ ad) (r, X)) X 0 [(0, .int a0)] [] := by
  unfold f_X7_kindOf at hf
  refine z_iload_n F dX7_kindOf_0 0 rfl rfl ?_
  refine z_bipush (v := 115) F dX7_kindOf_1 (by decide +kernel) ?_
  refine z_icmp_ne (tgt := 10) F hf dX7_kindOf_3 (by decide) (fun hf => ?_) (fun hf => ?_)
  · refine z_iload_n F dX7_kindOf_10 0 rfl rfl ?_
    refine z_bipush (v := 103) F dX7_kindOf_11 (by decide +kernel) ?_
    refine z_icmp_ne (tgt := 20) F hf dX7_kindOf_13 (by decide) (fun hf => ?_) (fun hf => ?_)
    · refine z_iload_n F dX7_kindOf_20 0 rfl rfl ?_
      refine z_bipush (v := 119) F dX7_kindOf_21 (by decide +kernel) ?_
      refine z_icmp_ne (tgt := 30) F hf dX7_kindOf_23 (by decide) (fun hf => ?_) (fun hf => ?_)
      · refine z_iload_n F dX7_kindOf_30 0 rfl rfl ?_
        refine z_bipush (v := 109) F dX7_kindOf_31 (by decide +kernel) ?_
        refine z_icmp_ne (tgt := 40) F hf dX7_kindOf_33 (by decide) (fun hf => ?_) (fun hf => ?_)
        · refine z_iload_n F dX7_kindOf_40 0 rfl rfl ?_
          refine z_bipush (v := 100) F dX7_kindOf_41 (by decide +kernel) ?_
          refine z_icmp_ne (tgt := 50) F hf dX7_kindOf_43 (by decide) (fun hf => ?_) (fun hf => ?_)
          · refine z_iconst (v := 0) F dX7_kindOf_50 (by decide +kernel) ?_
            exact z_iret F dX7_kindOf_51 (Prod.ext hf rfl)
          · refine z_iconst (v := 5) F dX7_kindOf_46 (by decide +kernel) ?_
            refine z_goto (tgt := 51) F dX7_kindOf_47 (by decide) ?_
            exact z_iret F dX7_kindOf_51 (Prod.ext hf rfl)
        · refine z_iconst (v := 4) F dX7_kindOf_36 (by decide +kernel) ?_
          refine z_goto (tgt := 51) F dX7_kindOf_37 (by decide) ?_
          exact z_iret F dX7_kindOf_51 (Prod.ext hf rfl)
      · refine z_iconst (v := 3) F dX7_kindOf_26 (by decide +kernel) ?_
        refine z_goto (tgt := 51) F dX7_kindOf_27 (by decide) ?_
        exact z_iret F dX7_kindOf_51 (Prod.ext hf rfl)
    · refine z_iconst (v := 2) F dX7_kindOf_16 (by decide +kernel) ?_
      refine z_goto (tgt := 51) F dX7_kindOf_17 (by decide) ?_
      exact z_iret F dX7_kindOf_51 (Prod.ext hf rfl)
  · refine z_iconst (v := 1) F dX7_kindOf_6 (by decide +kernel) ?_
    refine z_goto (tgt := 51) F dX7_kindOf_7 (by decide) ?_
    exact z_iret F dX7_kindOf_51 (Prod.ext hf rfl)
theorem c_X7_kindOf {D : va_G} {cI cZ : ClassId} {ad : Nat → Nat} (X : KX) (a0 : Int32) : zMI (yM D cI cZ ad) yX7_kindOf cX7_kindOf 1 (some .int) 1 [.int a0] X (f_X7_kindOf a0, X) := zMI_of (by decide +kernel) (Nat.le_of_ble_eq_true rfl) (fun z F => z_sub [0] rfl (z_X7_kindOf F a0 rfl))
theorem k_X7_kindOf {z : ZC} {D : va_G} {cI cZ : ClassId} {ad : Nat → Nat} {cc : ByteArray} {own : String} {nL d pc index : Nat} {ret : Option FieldType} {Q : State → Prop} {X : KX} {L : List (Nat × Value)} {rest : List Value} {a0 : Int32} (F : ZF z (yM D cI cZ ad) cc own nL ret d) (hd : 1 + 1 ≤ d) (hw : Cond.methodLink own index yX7_kindOf ∈ wsA) (hst : (rest.map fun v => v.category).sum ≤ 8) (hdg : decode cc pc = .ok (.invokestatic index, 3)) (kk : Z z (yM D cI cZ ad) nL Q X (pc + 3) L (.int (f_X7_kindOf a0) :: rest)) : Z z (yM D cI cZ ad) nL Q X pc L (.int a0 :: rest) := z_cSI (As := [.int a0]) F (c_X7_kindOf X a0) kn_X7_kindOf kv_X7_kindOf hw hd rfl hst hdg rfl kk
theorem k_X7_kindOfN {z : ZC} {D : va_G} {cI cZ : ClassId} {ad : Nat → Nat} {cc : ByteArray} {own : String} {nL d pc index : Nat} {ret : Option FieldType} {Q : State → Prop} {X : KX} {L : List (Nat × Value)} {rest : List Value} {a0 : Int32} (F : ZF z (yM D cI cZ ad) cc own nL ret d) (hd : 1 + 1 ≤ d) (hw : ∀ s, zN s → va_Nw (.methodLinkNest own index yX7_kindOf "AilingKing") s) (hst : (rest.map fun v => v.category).sum ≤ 8) (hdg : decode cc pc = .ok (.invokestatic index, 3)) (kk : Z z (yM D cI cZ ad) nL Q X (pc + 3) L (.int (f_X7_kindOf a0) :: rest)) : Z z (yM D cI cZ ad) nL Q X pc L (.int a0 :: rest) := z_cNI (As := [.int a0]) F (c_X7_kindOf X a0) kn_X7_kindOf kv_X7_kindOf hw hd rfl hst hdg rfl kk
theorem kv_X7_readsHint : zKv yX7_readsHint := ⟨wm_917, wm_28⟩
theorem kn_X7_readsHint : zKn yX7_readsHint cX7_readsHint 5 none 0 := ⟨wm_918, wm_62, by decide +kernel, by decide⟩
set_option maxHeartbeats 4000000 in
set_option maxRecDepth 100000 in
theorem z_X7_readsHint_110 {z : ZC} {D : va_G} {cI cZ : ClassId} {ad : Nat → Nat} {R : KX} (F : ZF z (yM D cI cZ ad) cX7_readsHint RX7 5 none 5) (n : Nat) (X : KX) (s0 : Int32) (v1 : Int32) (v2 : Int32) (v3 : Int32) (v4 : Int32) (hf : f_X7_readsHint_110 n X s0 v1 v2 v3 v4 = some R) : Z z (yM D cI cZ ad) 5 (zQV z (yM D cI cZ ad) R) X 110 [(0, .ref (ad 0)), (1, .int v1), (2, .int v2), (3, .int v3), (4, .int v4)] [.int s0, .ref (ad 0)] := by
  unfold f_X7_readsHint_110 at hf
  refine z_iconst (v := 1) F dX7_readsHint_110 (by decide +kernel) ?_
  refine k_X7_takes F (by decide) wm_896 (Nat.le_of_ble_eq_true rfl) hf dX7_readsHint_111 (fun r_1 X_2 hf => ?_)
  refine z_pop F dX7_readsHint_114 rfl ?_
  refine z_aload_n F dX7_readsHint_115 0 rfl rfl ?_
  refine k_X7_isWell F (by decide) wm_900 (Nat.le_of_ble_eq_true rfl) dX7_readsHint_116 ?_
  refine z_if_eq (tgt := 168) F hf dX7_readsHint_119 (by decide) (fun hf => ?_) (fun hf => ?_)
  · exact z_vret F dX7_readsHint_168 (Option.some.inj hf)
  · refine z_aload_n F dX7_readsHint_122 0 rfl rfl ?_
    refine gM_0_14 F wm_776 dX7_readsHint_123 ?_
    refine z_iload_n F dX7_readsHint_126 2 rfl rfl ?_
    refine z_iload_n F dX7_readsHint_127 1 rfl rfl ?_
    refine sM_7 F hf dX7_readsHint_128 (fun X_3 hf => ?_)
    refine z_aload_n F dX7_readsHint_129 0 rfl rfl ?_
    refine gM_0_14 F wm_776 dX7_readsHint_130 ?_
    refine z_iload_n F dX7_readsHint_133 2 rfl rfl ?_
    refine z_iconst (v := 1) F dX7_readsHint_134 (by decide +kernel) ?_
    refine z_iadd F dX7_readsHint_135 ?_
    refine z_iload_n F dX7_readsHint_136 3 rfl rfl ?_
    refine sM_7 F hf dX7_readsHint_137 (fun X_4 hf => ?_)
    refine z_aload_n F dX7_readsHint_138 0 rfl rfl ?_
    refine gM_0_14 F wm_776 dX7_readsHint_139 ?_
    refine z_iload_n F dX7_readsHint_142 2 rfl rfl ?_
    refine z_iconst (v := 2) F dX7_readsHint_143 (by decide +kernel) ?_
    refine z_iadd F dX7_readsHint_144 ?_
    refine z_iload F dX7_readsHint_145 4 rfl ?_
    refine sM_7 F hf dX7_readsHint_147 (fun X_5 hf => ?_)
    refine z_aload_n F dX7_readsHint_148 0 rfl rfl ?_
    refine gM_0_14 F wm_776 dX7_readsHint_149 ?_
    refine z_iload_n F dX7_readsHint_152 2 rfl rfl ?_
    refine z_iconst (v := 3) F dX7_readsHint_153 (by decide +kernel) ?_
    refine z_iadd F dX7_readsHint_154 ?_
    refine z_iconst (v := 0) F dX7_readsHint_155 (by decide +kernel) ?_
    refine sM_7 F hf dX7_readsHint_156 (fun X_6 hf => ?_)
    refine z_aload_n F dX7_readsHint_157 0 rfl rfl ?_
    refine gM_0_14 F wm_776 dX7_readsHint_158 ?_
    refine z_bipush (v := 7) F dX7_readsHint_161 (by decide +kernel) ?_
    refine z_dup2 F dX7_readsHint_163 rfl rfl ?_
    refine lM_7 F hf dX7_readsHint_164 (fun hf => ?_)
    refine z_iconst (v := 1) F dX7_readsHint_165 (by decide +kernel) ?_
    refine z_iadd F dX7_readsHint_166 ?_
    refine sM_7 F hf dX7_readsHint_167 (fun X_7 hf => ?_)
    exact z_vret F dX7_readsHint_168 (Option.some.inj hf)
set_option maxHeartbeats 4000000 in
set_option maxRecDepth 100000 in
theorem z_X7_readsHint_82 {z : ZC} {D : va_G} {cI cZ : ClassId} {ad : Nat → Nat} {R : KX} (F : ZF z (yM D cI cZ ad) cX7_readsHint RX7 5 none 5) (n : Nat) (X : KX) (s0 : Int32) (v1 : Int32) (v2 : Int32) (v3 : Int32) (hf : f_X7_readsHint_82 n X s0 v1 v2 v3 = some R) : Z z (yM D cI cZ ad) 5 (zQV z (yM D cI cZ ad) R) X 82 [(0, .ref (ad 0)), (1, .int v1), (2, .int v2), (3, .int v3)] [.int s0, .ref (ad 0)] := by
  unfold f_X7_readsHint_82 at hf
  refine z_iconst (v := 1) F dX7_readsHint_82 (by decide +kernel) ?_
  refine k_X7_takes F (by decide) wm_896 (Nat.le_of_ble_eq_true rfl) hf dX7_readsHint_83 (fun r_1 X_2 hf => ?_)
  refine z_pop F dX7_readsHint_86 rfl ?_
  refine z_aload_n F dX7_readsHint_87 0 rfl rfl ?_
  refine z_bipush (v := 7) F dX7_readsHint_88 (by decide +kernel) ?_
  refine z_iload_n F dX7_readsHint_90 3 rfl rfl ?_
  refine k_X7_figureBut F (by decide) wm_908 (Nat.le_of_ble_eq_true rfl) hf dX7_readsHint_91 (fun r_3 X_4 hf => ?_)
  refine z_istore (L' := [(4, .int r_3), (0, .ref (ad 0)), (1, .int v1), (2, .int v2), (3, .int v3)]) F dX7_readsHint_94 (Nat.le_of_ble_eq_true rfl) rfl ?_
  refine z_aload_n F dX7_readsHint_96 1 rfl rfl ?_
  refine z_aload_n F dX7_readsHint_97 1 rfl rfl ?_
  refine gM_0_11 F wm_773 dX7_readsHint_98 ?_
  refine z_iconst (v := 4) F dX7_readsHint_101 (by decide +kernel) ?_
  refine z_icmp_ne (tgt := 109) F hf dX7_readsHint_102 (by decide) (fun hf => ?_) (fun hf => ?_)
  · refine z_iconst (v := 0) F dX7_readsHint_109 (by decide +kernel) ?_
    exact z_sub [1, 2, 3, 4, 0] rfl (z_X7_readsHint_110 F n X_4 0 v1 v2 v3 r_3 hf)
  · refine z_iconst (v := 1) F dX7_readsHint_105 (by decide +kernel) ?_
    refine z_goto (tgt := 110) F dX7_readsHint_106 (by decide) ?_
    exact z_sub [1, 2, 3, 4, 0] rfl (z_X7_readsHint_110 F n X_4 1 v1 v2 v3 r_3 hf)
set_option maxHeartbeats 4000000 in
set_option maxRecDepth 100000 in
theorem z_X7_readsHint_57 {z : ZC} {D : va_G} {cI cZ : ClassId} {ad : Nat → Nat} {R : KX} (F : ZF z (yM D cI cZ ad) cX7_readsHint RX7 5 none 5) (n : Nat) (X : KX) (s0 : Int32) (s1 : Int32) (s2 : Int32) (v1 : Int32) (hf : f_X7_readsHint_57 n X s0 s1 s2 v1 = some R) : Z z (yM D cI cZ ad) 5 (zQV z (yM D cI cZ ad) R) X 57 [(0, .ref (ad 0)), (1, .int v1)] [.int s0, .int s1, .int s2] := by
  unfold f_X7_readsHint_57 at hf
  refine z_imul F dX7_readsHint_57 ?_
  refine z_iadd F dX7_readsHint_58 ?_
  refine z_top hf (fun v2_1 hf => ?_)
  refine z_istore_n (L' := [(2, .int v2_1), (0, .ref (ad 0)), (1, .int v1)]) F dX7_readsHint_59 rfl (Nat.le_of_ble_eq_true rfl) rfl ?_
  refine z_aload_n F dX7_readsHint_60 1 rfl rfl ?_
  refine z_iconst (v := 0) F dX7_readsHint_61 (by decide +kernel) ?_
  refine z_bipush (v := 7) F dX7_readsHint_62 (by decide +kernel) ?_
  refine k_X7_figure F (by decide) wm_904 (Nat.le_of_ble_eq_true rfl) hf dX7_readsHint_64 (fun r_2 X_3 hf => ?_)
  refine z_istore_n (L' := [(3, .int r_2), (2, .int v2_1), (0, .ref (ad 0)), (1, .int v1)]) F dX7_readsHint_67 rfl (Nat.le_of_ble_eq_true rfl) rfl ?_
  refine z_aload_n F dX7_readsHint_68 2 rfl rfl ?_
  refine z_aload_n F dX7_readsHint_69 2 rfl rfl ?_
  refine gM_0_11 F wm_773 dX7_readsHint_70 ?_
  refine z_iconst (v := 3) F dX7_readsHint_73 (by decide +kernel) ?_
  refine z_icmp_ne (tgt := 81) F hf dX7_readsHint_74 (by decide) (fun hf => ?_) (fun hf => ?_)
  · refine z_iconst (v := 0) F dX7_readsHint_81 (by decide +kernel) ?_
    exact z_sub [2, 3, 1, 0] rfl (z_X7_readsHint_82 F n X_3 0 v1 v2_1 r_2 hf)
  · refine z_iconst (v := 1) F dX7_readsHint_77 (by decide +kernel) ?_
    refine z_goto (tgt := 82) F dX7_readsHint_78 (by decide) ?_
    exact z_sub [2, 3, 1, 0] rfl (z_X7_readsHint_82 F n X_3 1 v1 v2_1 r_2 hf)
set_option maxHeartbeats 4000000 in
set_option maxRecDepth 100000 in
theorem z_X7_readsHint_26 {z : ZC} {D : va_G} {cI cZ : ClassId} {ad : Nat → Nat} {R : KX} (F : ZF z (yM D cI cZ ad) cX7_readsHint RX7 5 none 5) (n : Nat) (X : KX) (s0 : Int32) (v1 : Int32) (hf : f_X7_readsHint_26 n X s0 v1 = some R) : Z z (yM D cI cZ ad) 5 (zQV z (yM D cI cZ ad) R) X 26 [(0, .ref (ad 0)), (1, .int v1)] [.int s0, .ref (ad 0)] := by
  unfold f_X7_readsHint_26 at hf
  refine z_iconst (v := 3) F dX7_readsHint_26 (by decide +kernel) ?_
  refine k_X7_takes F (by decide) wm_896 (Nat.le_of_ble_eq_true rfl) hf dX7_readsHint_27 (fun r_1 X_2 hf => ?_)
  refine z_pop F dX7_readsHint_30 rfl ?_
  refine z_bipush (v := 9) F dX7_readsHint_31 (by decide +kernel) ?_
  refine z_iconst (v := 4) F dX7_readsHint_33 (by decide +kernel) ?_
  refine z_aload_n F dX7_readsHint_34 0 rfl rfl ?_
  refine gM_0_14 F wm_776 dX7_readsHint_35 ?_
  refine z_bipush (v := 7) F dX7_readsHint_38 (by decide +kernel) ?_
  refine lM_7 F hf dX7_readsHint_40 (fun hf => ?_)
  refine z_bipush (v := 8) F dX7_readsHint_41 (by decide +kernel) ?_
  refine z_icmp_ge (tgt := 56) F hf dX7_readsHint_43 (by decide) (fun hf => ?_) (fun hf => ?_)
  · refine z_iconst (v := 0) F dX7_readsHint_56 (by decide +kernel) ?_
    exact z_sub [0, 1] rfl (z_X7_readsHint_57 F n X_2 0 4 9 v1 hf)
  · refine z_aload_n F dX7_readsHint_46 0 rfl rfl ?_
    refine gM_0_14 F wm_776 dX7_readsHint_47 ?_
    refine z_bipush (v := 7) F dX7_readsHint_50 (by decide +kernel) ?_
    refine lM_7 F hf dX7_readsHint_52 (fun hf => ?_)
    refine z_goto (tgt := 57) F dX7_readsHint_53 (by decide) ?_
    exact z_sub [0, 1] rfl (z_X7_readsHint_57 F n X_2 (X_2 7 (7 : Int32).toNatClampNeg) 4 9 v1 hf)
set_option maxHeartbeats 4000000 in
set_option maxRecDepth 100000 in
theorem z_X7_readsHint {z : ZC} {D : va_G} {cI cZ : ClassId} {ad : Nat → Nat} {R : KX} (F : ZF z (yM D cI cZ ad) cX7_readsHint RX7 5 none 5) (n : Nat) (X : KX)  (hf : f_X7_readsHint n X = some R) : Z z (yM D cI cZ ad) 5 (zQV z (yM D cI cZ ad) R) X 0 [(0, .ref (ad 0))] [] := by
  unfold f_X7_readsHint at hf
  refine z_aload_n F dX7_readsHint_0 0 rfl rfl ?_
  refine gM_0_12 F wm_774 dX7_readsHint_1 ?_
  refine k_X7_kindOf F (by decide) wm_912 (Nat.le_of_ble_eq_true rfl) dX7_readsHint_4 ?_
  refine z_top hf (fun v1_1 hf => ?_)
  refine z_istore_n (L' := [(1, .int v1_1), (0, .ref (ad 0))]) F dX7_readsHint_7 rfl (Nat.le_of_ble_eq_true rfl) rfl ?_
  refine z_aload_n F dX7_readsHint_8 1 rfl rfl ?_
  refine z_aload_n F dX7_readsHint_9 1 rfl rfl ?_
  refine gM_0_14 F wm_776 dX7_readsHint_10 ?_
  refine z_bipush (v := 7) F dX7_readsHint_13 (by decide +kernel) ?_
  refine lM_7 F hf dX7_readsHint_15 (fun hf => ?_)
  refine z_bipush (v := 8) F dX7_readsHint_16 (by decide +kernel) ?_
  refine z_icmp_ge (tgt := 25) F hf dX7_readsHint_18 (by decide) (fun hf => ?_) (fun hf => ?_)
  · refine z_iconst (v := 0) F dX7_readsHint_25 (by decide +kernel) ?_
    exact z_sub [1, 0] rfl (z_X7_readsHint_26 F n X 0 v1_1 hf)
  · refine z_iconst (v := 1) F dX7_readsHint_21 (by decide +kernel) ?_
    refine z_goto (tgt := 26) F dX7_readsHint_22 (by decide) ?_
    exact z_sub [1, 0] rfl (z_X7_readsHint_26 F n X 1 v1_1 hf)
theorem c_X7_readsHint {D : va_G} {cI cZ : ClassId} {ad : Nat → Nat} {R : KX} (n : Nat) (X : KX)  (hf : f_X7_readsHint n X = some R) : zMV (yM D cI cZ ad) yX7_readsHint cX7_readsHint 5 none 5 [.ref (ad 0)] X R := zMV_of (by decide +kernel) (Nat.le_of_ble_eq_true rfl) (fun z F => z_sub [0] rfl (z_X7_readsHint F n X hf))
theorem k_X7_readsHint {z : ZC} {D : va_G} {cI cZ : ClassId} {ad : Nat → Nat} {cc : ByteArray} {own : String} {nL d pc index : Nat} {ret : Option FieldType} {Q : State → Prop} {X : KX} {L : List (Nat × Value)} {rest : List Value} {n : Nat} (F : ZF z (yM D cI cZ ad) cc own nL ret d) (hd : 5 + 1 ≤ d) (hw : Cond.methodLink own index yX7_readsHint ∈ wsA) (hst : (rest.map fun v => v.category).sum ≤ 8) {β : Type} {e : KX → Option β} {r : β} (hf : zB1 (f_X7_readsHint n X) e = some r) (hdg : decode cc pc = .ok (.invokevirtual index, 3)) (kk : ∀ X2 : KX, e X2 = some r → Z z (yM D cI cZ ad) nL Q X2 (pc + 3) L rest) : Z z (yM D cI cZ ad) nL Q X pc L (.ref (ad 0) :: rest) := by
  obtain ⟨v, h1, h2⟩ := zB1_some hf
  exact z_cVV (As := []) F (c_X7_readsHint n X h1) kn_X7_readsHint kv_X7_readsHint hw (q0 := 0) rfl rfl hd rfl hst hdg rfl (kk v h2)
theorem kv_X7_readsGuest : zKv yX7_readsGuest := ⟨wm_921, wm_29⟩
theorem kn_X7_readsGuest : zKn yX7_readsGuest cX7_readsGuest 5 none 0 := ⟨wm_922, wm_62, by decide +kernel, by decide⟩
set_option maxHeartbeats 4000000 in
set_option maxRecDepth 100000 in
theorem z_X7_readsGuest_129 {z : ZC} {D : va_G} {cI cZ : ClassId} {ad : Nat → Nat} {R : KX} (F : ZF z (yM D cI cZ ad) cX7_readsGuest RX7 5 none 5) (n : Nat) (X : KX) (s0 : Int32) (v1 : Int32) (v2 : Int32) (v3 : Int32) (v4 : Int32) (hf : f_X7_readsGuest_129 n X s0 v1 v2 v3 v4 = some R) : Z z (yM D cI cZ ad) 5 (zQV z (yM D cI cZ ad) R) X 129 [(0, .ref (ad 0)), (1, .int v1), (2, .int v2), (3, .int v3), (4, .int v4)] [.int s0, .ref (ad 0)] := by
  unfold f_X7_readsGuest_129 at hf
  refine z_iconst (v := 1) F dX7_readsGuest_129 (by decide +kernel) ?_
  refine k_X7_takes F (by decide) wm_896 (Nat.le_of_ble_eq_true rfl) hf dX7_readsGuest_130 (fun r_1 X_2 hf => ?_)
  refine z_pop F dX7_readsGuest_133 rfl ?_
  refine z_aload_n F dX7_readsGuest_134 0 rfl rfl ?_
  refine k_X7_isWell F (by decide) wm_900 (Nat.le_of_ble_eq_true rfl) dX7_readsGuest_135 ?_
  refine z_if_eq (tgt := 199) F hf dX7_readsGuest_138 (by decide) (fun hf => ?_) (fun hf => ?_)
  · exact z_vret F dX7_readsGuest_199 (Option.some.inj hf)
  · refine z_aload_n F dX7_readsGuest_141 0 rfl rfl ?_
    refine gM_0_14 F wm_776 dX7_readsGuest_142 ?_
    refine z_iload_n F dX7_readsGuest_145 1 rfl rfl ?_
    refine z_iconst (v := 0) F dX7_readsGuest_146 (by decide +kernel) ?_
    refine z_iadd F dX7_readsGuest_147 ?_
    refine z_iload_n F dX7_readsGuest_148 2 rfl rfl ?_
    refine sM_7 F hf dX7_readsGuest_149 (fun X_3 hf => ?_)
    refine z_aload_n F dX7_readsGuest_150 0 rfl rfl ?_
    refine gM_0_14 F wm_776 dX7_readsGuest_151 ?_
    refine z_iload_n F dX7_readsGuest_154 1 rfl rfl ?_
    refine z_iconst (v := 1) F dX7_readsGuest_155 (by decide +kernel) ?_
    refine z_iadd F dX7_readsGuest_156 ?_
    refine z_iload_n F dX7_readsGuest_157 3 rfl rfl ?_
    refine sM_7 F hf dX7_readsGuest_158 (fun X_4 hf => ?_)
    refine z_aload_n F dX7_readsGuest_159 0 rfl rfl ?_
    refine gM_0_14 F wm_776 dX7_readsGuest_160 ?_
    refine z_iload_n F dX7_readsGuest_163 1 rfl rfl ?_
    refine z_iconst (v := 2) F dX7_readsGuest_164 (by decide +kernel) ?_
    refine z_iadd F dX7_readsGuest_165 ?_
    refine z_iload F dX7_readsGuest_166 4 rfl ?_
    refine sM_7 F hf dX7_readsGuest_168 (fun X_5 hf => ?_)
    refine z_aload_n F dX7_readsGuest_169 0 rfl rfl ?_
    refine gM_0_14 F wm_776 dX7_readsGuest_170 ?_
    refine z_iload_n F dX7_readsGuest_173 1 rfl rfl ?_
    refine z_iconst (v := 3) F dX7_readsGuest_174 (by decide +kernel) ?_
    refine z_iadd F dX7_readsGuest_175 ?_
    refine z_iconst (v := 0) F dX7_readsGuest_176 (by decide +kernel) ?_
    refine sM_7 F hf dX7_readsGuest_177 (fun X_6 hf => ?_)
    refine z_aload_n F dX7_readsGuest_178 0 rfl rfl ?_
    refine gM_0_14 F wm_776 dX7_readsGuest_179 ?_
    refine z_iload_n F dX7_readsGuest_182 1 rfl rfl ?_
    refine z_iconst (v := 4) F dX7_readsGuest_183 (by decide +kernel) ?_
    refine z_iadd F dX7_readsGuest_184 ?_
    refine z_ldc F wm_761 dX7_readsGuest_185 ?_
    refine sM_7 F hf dX7_readsGuest_187 (fun X_7 hf => ?_)
    refine z_aload_n F dX7_readsGuest_188 0 rfl rfl ?_
    refine gM_0_14 F wm_776 dX7_readsGuest_189 ?_
    refine z_bipush (v := 8) F dX7_readsGuest_192 (by decide +kernel) ?_
    refine z_dup2 F dX7_readsGuest_194 rfl rfl ?_
    refine lM_7 F hf dX7_readsGuest_195 (fun hf => ?_)
    refine z_iconst (v := 1) F dX7_readsGuest_196 (by decide +kernel) ?_
    refine z_iadd F dX7_readsGuest_197 ?_
    refine sM_7 F hf dX7_readsGuest_198 (fun X_8 hf => ?_)
    exact z_vret F dX7_readsGuest_199 (Option.some.inj hf)
set_option maxHeartbeats 4000000 in
set_option maxRecDepth 100000 in
theorem z_X7_readsGuest_101 {z : ZC} {D : va_G} {cI cZ : ClassId} {ad : Nat → Nat} {R : KX} (F : ZF z (yM D cI cZ ad) cX7_readsGuest RX7 5 none 5) (n : Nat) (X : KX) (s0 : Int32) (v1 : Int32) (v2 : Int32) (v3 : Int32) (hf : f_X7_readsGuest_101 n X s0 v1 v2 v3 = some R) : Z z (yM D cI cZ ad) 5 (zQV z (yM D cI cZ ad) R) X 101 [(0, .ref (ad 0)), (1, .int v1), (2, .int v2), (3, .int v3)] [.int s0, .ref (ad 0)] := by
  unfold f_X7_readsGuest_101 at hf
  refine z_iconst (v := 1) F dX7_readsGuest_101 (by decide +kernel) ?_
  refine k_X7_takes F (by decide) wm_896 (Nat.le_of_ble_eq_true rfl) hf dX7_readsGuest_102 (fun r_1 X_2 hf => ?_)
  refine z_pop F dX7_readsGuest_105 rfl ?_
  refine z_aload_n F dX7_readsGuest_106 0 rfl rfl ?_
  refine z_iconst (v := 0) F dX7_readsGuest_107 (by decide +kernel) ?_
  refine z_bipush (v := 20) F dX7_readsGuest_108 (by decide +kernel) ?_
  refine k_X7_figure F (by decide) wm_904 (Nat.le_of_ble_eq_true rfl) hf dX7_readsGuest_110 (fun r_3 X_4 hf => ?_)
  refine z_istore (L' := [(4, .int r_3), (0, .ref (ad 0)), (1, .int v1), (2, .int v2), (3, .int v3)]) F dX7_readsGuest_113 (Nat.le_of_ble_eq_true rfl) rfl ?_
  refine z_aload_n F dX7_readsGuest_115 1 rfl rfl ?_
  refine z_aload_n F dX7_readsGuest_116 1 rfl rfl ?_
  refine gM_0_11 F wm_773 dX7_readsGuest_117 ?_
  refine z_iconst (v := 4) F dX7_readsGuest_120 (by decide +kernel) ?_
  refine z_icmp_ne (tgt := 128) F hf dX7_readsGuest_121 (by decide) (fun hf => ?_) (fun hf => ?_)
  · refine z_iconst (v := 0) F dX7_readsGuest_128 (by decide +kernel) ?_
    exact z_sub [1, 2, 3, 4, 0] rfl (z_X7_readsGuest_129 F n X_4 0 v1 v2 v3 r_3 hf)
  · refine z_iconst (v := 1) F dX7_readsGuest_124 (by decide +kernel) ?_
    refine z_goto (tgt := 129) F dX7_readsGuest_125 (by decide) ?_
    exact z_sub [1, 2, 3, 4, 0] rfl (z_X7_readsGuest_129 F n X_4 1 v1 v2 v3 r_3 hf)
set_option maxHeartbeats 4000000 in
set_option maxRecDepth 100000 in
theorem z_X7_readsGuest_74 {z : ZC} {D : va_G} {cI cZ : ClassId} {ad : Nat → Nat} {R : KX} (F : ZF z (yM D cI cZ ad) cX7_readsGuest RX7 5 none 5) (n : Nat) (X : KX) (s0 : Int32) (v1 : Int32) (v2 : Int32) (hf : f_X7_readsGuest_74 n X s0 v1 v2 = some R) : Z z (yM D cI cZ ad) 5 (zQV z (yM D cI cZ ad) R) X 74 [(0, .ref (ad 0)), (1, .int v1), (2, .int v2)] [.int s0, .ref (ad 0)] := by
  unfold f_X7_readsGuest_74 at hf
  refine z_iconst (v := 1) F dX7_readsGuest_74 (by decide +kernel) ?_
  refine k_X7_takes F (by decide) wm_896 (Nat.le_of_ble_eq_true rfl) hf dX7_readsGuest_75 (fun r_1 X_2 hf => ?_)
  refine z_pop F dX7_readsGuest_78 rfl ?_
  refine z_aload_n F dX7_readsGuest_79 0 rfl rfl ?_
  refine z_iconst (v := 0) F dX7_readsGuest_80 (by decide +kernel) ?_
  refine z_bipush (v := 20) F dX7_readsGuest_81 (by decide +kernel) ?_
  refine k_X7_figure F (by decide) wm_904 (Nat.le_of_ble_eq_true rfl) hf dX7_readsGuest_83 (fun r_3 X_4 hf => ?_)
  refine z_istore_n (L' := [(3, .int r_3), (0, .ref (ad 0)), (1, .int v1), (2, .int v2)]) F dX7_readsGuest_86 rfl (Nat.le_of_ble_eq_true rfl) rfl ?_
  refine z_aload_n F dX7_readsGuest_87 1 rfl rfl ?_
  refine z_aload_n F dX7_readsGuest_88 1 rfl rfl ?_
  refine gM_0_11 F wm_773 dX7_readsGuest_89 ?_
  refine z_iconst (v := 3) F dX7_readsGuest_92 (by decide +kernel) ?_
  refine z_icmp_ne (tgt := 100) F hf dX7_readsGuest_93 (by decide) (fun hf => ?_) (fun hf => ?_)
  · refine z_iconst (v := 0) F dX7_readsGuest_100 (by decide +kernel) ?_
    exact z_sub [1, 2, 3, 0] rfl (z_X7_readsGuest_101 F n X_4 0 v1 v2 r_3 hf)
  · refine z_iconst (v := 1) F dX7_readsGuest_96 (by decide +kernel) ?_
    refine z_goto (tgt := 101) F dX7_readsGuest_97 (by decide) ?_
    exact z_sub [1, 2, 3, 0] rfl (z_X7_readsGuest_101 F n X_4 1 v1 v2 r_3 hf)
set_option maxHeartbeats 4000000 in
set_option maxRecDepth 100000 in
theorem z_X7_readsGuest_49 {z : ZC} {D : va_G} {cI cZ : ClassId} {ad : Nat → Nat} {R : KX} (F : ZF z (yM D cI cZ ad) cX7_readsGuest RX7 5 none 5) (n : Nat) (X : KX) (s0 : Int32) (s1 : Int32) (s2 : Int32) (hf : f_X7_readsGuest_49 n X s0 s1 s2 = some R) : Z z (yM D cI cZ ad) 5 (zQV z (yM D cI cZ ad) R) X 49 [(0, .ref (ad 0))] [.int s0, .int s1, .int s2] := by
  unfold f_X7_readsGuest_49 at hf
  refine z_imul F dX7_readsGuest_49 ?_
  refine z_iadd F dX7_readsGuest_50 ?_
  refine z_top hf (fun v1_1 hf => ?_)
  refine z_istore_n (L' := [(1, .int v1_1), (0, .ref (ad 0))]) F dX7_readsGuest_51 rfl (Nat.le_of_ble_eq_true rfl) rfl ?_
  refine z_aload_n F dX7_readsGuest_52 1 rfl rfl ?_
  refine z_iconst (v := 0) F dX7_readsGuest_53 (by decide +kernel) ?_
  refine z_bipush (v := 7) F dX7_readsGuest_54 (by decide +kernel) ?_
  refine k_X7_figure F (by decide) wm_904 (Nat.le_of_ble_eq_true rfl) hf dX7_readsGuest_56 (fun r_2 X_3 hf => ?_)
  refine z_istore_n (L' := [(2, .int r_2), (1, .int v1_1), (0, .ref (ad 0))]) F dX7_readsGuest_59 rfl (Nat.le_of_ble_eq_true rfl) rfl ?_
  refine z_aload_n F dX7_readsGuest_60 2 rfl rfl ?_
  refine z_aload_n F dX7_readsGuest_61 2 rfl rfl ?_
  refine gM_0_11 F wm_773 dX7_readsGuest_62 ?_
  refine z_iconst (v := 3) F dX7_readsGuest_65 (by decide +kernel) ?_
  refine z_icmp_ne (tgt := 73) F hf dX7_readsGuest_66 (by decide) (fun hf => ?_) (fun hf => ?_)
  · refine z_iconst (v := 0) F dX7_readsGuest_73 (by decide +kernel) ?_
    exact z_sub [2, 1, 0] rfl (z_X7_readsGuest_74 F n X_3 0 v1_1 r_2 hf)
  · refine z_iconst (v := 1) F dX7_readsGuest_69 (by decide +kernel) ?_
    refine z_goto (tgt := 74) F dX7_readsGuest_70 (by decide) ?_
    exact z_sub [2, 1, 0] rfl (z_X7_readsGuest_74 F n X_3 1 v1_1 r_2 hf)
set_option maxHeartbeats 4000000 in
set_option maxRecDepth 100000 in
theorem z_X7_readsGuest_18 {z : ZC} {D : va_G} {cI cZ : ClassId} {ad : Nat → Nat} {R : KX} (F : ZF z (yM D cI cZ ad) cX7_readsGuest RX7 5 none 5) (n : Nat) (X : KX) (s0 : Int32) (hf : f_X7_readsGuest_18 n X s0 = some R) : Z z (yM D cI cZ ad) 5 (zQV z (yM D cI cZ ad) R) X 18 [(0, .ref (ad 0))] [.int s0, .ref (ad 0)] := by
  unfold f_X7_readsGuest_18 at hf
  refine z_iconst (v := 3) F dX7_readsGuest_18 (by decide +kernel) ?_
  refine k_X7_takes F (by decide) wm_896 (Nat.le_of_ble_eq_true rfl) hf dX7_readsGuest_19 (fun r_1 X_2 hf => ?_)
  refine z_pop F dX7_readsGuest_22 rfl ?_
  refine z_bipush (v := 41) F dX7_readsGuest_23 (by decide +kernel) ?_
  refine z_iconst (v := 5) F dX7_readsGuest_25 (by decide +kernel) ?_
  refine z_aload_n F dX7_readsGuest_26 0 rfl rfl ?_
  refine gM_0_14 F wm_776 dX7_readsGuest_27 ?_
  refine z_bipush (v := 8) F dX7_readsGuest_30 (by decide +kernel) ?_
  refine lM_7 F hf dX7_readsGuest_32 (fun hf => ?_)
  refine z_bipush (v := 6) F dX7_readsGuest_33 (by decide +kernel) ?_
  refine z_icmp_ge (tgt := 48) F hf dX7_readsGuest_35 (by decide) (fun hf => ?_) (fun hf => ?_)
  · refine z_iconst (v := 0) F dX7_readsGuest_48 (by decide +kernel) ?_
    exact z_sub [0] rfl (z_X7_readsGuest_49 F n X_2 0 5 41 hf)
  · refine z_aload_n F dX7_readsGuest_38 0 rfl rfl ?_
    refine gM_0_14 F wm_776 dX7_readsGuest_39 ?_
    refine z_bipush (v := 8) F dX7_readsGuest_42 (by decide +kernel) ?_
    refine lM_7 F hf dX7_readsGuest_44 (fun hf => ?_)
    refine z_goto (tgt := 49) F dX7_readsGuest_45 (by decide) ?_
    exact z_sub [0] rfl (z_X7_readsGuest_49 F n X_2 (X_2 7 (8 : Int32).toNatClampNeg) 5 41 hf)
set_option maxHeartbeats 4000000 in
set_option maxRecDepth 100000 in
theorem z_X7_readsGuest {z : ZC} {D : va_G} {cI cZ : ClassId} {ad : Nat → Nat} {R : KX} (F : ZF z (yM D cI cZ ad) cX7_readsGuest RX7 5 none 5) (n : Nat) (X : KX)  (hf : f_X7_readsGuest n X = some R) : Z z (yM D cI cZ ad) 5 (zQV z (yM D cI cZ ad) R) X 0 [(0, .ref (ad 0))] [] := by
  unfold f_X7_readsGuest at hf
  refine z_aload_n F dX7_readsGuest_0 0 rfl rfl ?_
  refine z_aload_n F dX7_readsGuest_1 0 rfl rfl ?_
  refine gM_0_14 F wm_776 dX7_readsGuest_2 ?_
  refine z_bipush (v := 8) F dX7_readsGuest_5 (by decide +kernel) ?_
  refine lM_7 F hf dX7_readsGuest_7 (fun hf => ?_)
  refine z_bipush (v := 6) F dX7_readsGuest_8 (by decide +kernel) ?_
  refine z_icmp_ge (tgt := 17) F hf dX7_readsGuest_10 (by decide) (fun hf => ?_) (fun hf => ?_)
  · refine z_iconst (v := 0) F dX7_readsGuest_17 (by decide +kernel) ?_
    exact z_sub [0] rfl (z_X7_readsGuest_18 F n X 0 hf)
  · refine z_iconst (v := 1) F dX7_readsGuest_13 (by decide +kernel) ?_
    refine z_goto (tgt := 18) F dX7_readsGuest_14 (by decide) ?_
    exact z_sub [0] rfl (z_X7_readsGuest_18 F n X 1 hf)
theorem c_X7_readsGuest {D : va_G} {cI cZ : ClassId} {ad : Nat → Nat} {R : KX} (n : Nat) (X : KX)  (hf : f_X7_readsGuest n X = some R) : zMV (yM D cI cZ ad) yX7_readsGuest cX7_readsGuest 5 none 5 [.ref (ad 0)] X R := zMV_of (by decide +kernel) (Nat.le_of_ble_eq_true rfl) (fun z F => z_sub [0] rfl (z_X7_readsGuest F n X hf))
theorem k_X7_readsGuest {z : ZC} {D : va_G} {cI cZ : ClassId} {ad : Nat → Nat} {cc : ByteArray} {own : String} {nL d pc index : Nat} {ret : Option FieldType} {Q : State → Prop} {X : KX} {L : List (Nat × Value)} {rest : List Value} {n : Nat} (F : ZF z (yM D cI cZ ad) cc own nL ret d) (hd : 5 + 1 ≤ d) (hw : Cond.methodLink own index yX7_readsGuest ∈ wsA) (hst : (rest.map fun v => v.category).sum ≤ 8) {β : Type} {e : KX → Option β} {r : β} (hf : zB1 (f_X7_readsGuest n X) e = some r) (hdg : decode cc pc = .ok (.invokevirtual index, 3)) (kk : ∀ X2 : KX, e X2 = some r → Z z (yM D cI cZ ad) nL Q X2 (pc + 3) L rest) : Z z (yM D cI cZ ad) nL Q X pc L (.ref (ad 0) :: rest) := by
  obtain ⟨v, h1, h2⟩ := zB1_some hf
  exact z_cVV (As := []) F (c_X7_readsGuest n X h1) kn_X7_readsGuest kv_X7_readsGuest hw (q0 := 0) rfl rfl hd rfl hst hdg rfl (kk v h2)
theorem kv_X7_copies_7_6 : Cond.static yX7_copies ∈ wsA := wm_925
theorem kn_X7_copies_7_6 : zKn yX7_copies cX7_copies 5 none 4 := ⟨wm_926, wm_62, by decide +kernel, by decide⟩
set_option maxHeartbeats 4000000 in
set_option maxRecDepth 100000 in
theorem z_X7_copies_7_6_3 {z : ZC} {D : va_G} {cI cZ : ClassId} {ad : Nat → Nat} {R : KX} (F : ZF z (yM D cI cZ ad) cX7_copies RX7 5 none 1) (n : Nat) : ∀ (t : Nat) (X : KX) (v1 : Int32) (v3 : Int32) (v4 : Int32), f_X7_copies_7_6_3 n t X v1 v3 v4 = some R → Z z (yM D cI cZ ad) 5 (zQV z (yM D cI cZ ad) R) X 3 [(0, .ref (ad 7)), (1, .int v1), (2, .ref (ad 6)), (3, .int v3), (4, .int v4)] [] := by
  intro t
  induction t with
  | zero => intro X v1 v3 v4 hf; rw [f_X7_copies_7_6_3] at hf; exact zNone hf
  | succ t ih =>
    intro X v1 v3 v4 hf
    rw [f_X7_copies_7_6_3] at hf
    refine z_iload F dX7_copies_3 4 rfl ?_
    refine z_bipush (v := 71) F dX7_copies_5 (by decide +kernel) ?_
    refine z_icmp_ge (tgt := 28) F hf dX7_copies_7 (by decide) (fun hf => ?_) (fun hf => ?_)
    · exact z_vret F dX7_copies_28 (Option.some.inj hf)
    · refine z_aload_n F dX7_copies_10 2 rfl rfl ?_
      refine z_iload_n F dX7_copies_11 3 rfl rfl ?_
      refine z_iload F dX7_copies_12 4 rfl ?_
      refine z_iadd F dX7_copies_14 ?_
      refine z_aload_n F dX7_copies_15 0 rfl rfl ?_
      refine z_iload_n F dX7_copies_16 1 rfl rfl ?_
      refine z_iload F dX7_copies_17 4 rfl ?_
      refine z_iadd F dX7_copies_19 ?_
      refine lM_7 F hf dX7_copies_20 (fun hf => ?_)
      refine sM_6 F hf dX7_copies_21 (fun X_1 hf => ?_)
      refine z_iinc (w := 1) (L' := fun v4_2 => [(4, .int v4_2), (0, .ref (ad 7)), (1, .int v1), (2, .ref (ad 6)), (3, .int v3)]) F hf dX7_copies_22 4 rfl (by decide +kernel) (Nat.le_of_ble_eq_true rfl) (fun _ => rfl) (fun v4_2 hf => ?_)
      refine z_goto (tgt := 3) F dX7_copies_25 (by decide) ?_
      exact z_sub [1, 2, 3, 4, 0] rfl (ih X_1 v1 v3 v4_2 hf)
set_option maxHeartbeats 4000000 in
set_option maxRecDepth 100000 in
theorem z_X7_copies_7_6 {z : ZC} {D : va_G} {cI cZ : ClassId} {ad : Nat → Nat} {R : KX} (F : ZF z (yM D cI cZ ad) cX7_copies RX7 5 none 1) (n : Nat) (X : KX) (a1 : Int32) (a3 : Int32) (hf : f_X7_copies_7_6 n X a1 a3 = some R) : Z z (yM D cI cZ ad) 5 (zQV z (yM D cI cZ ad) R) X 0 [(0, .ref (ad 7)), (1, .int a1), (2, .ref (ad 6)), (3, .int a3)] [] := by
  unfold f_X7_copies_7_6 at hf
  refine z_iconst (v := 0) F dX7_copies_0 (by decide +kernel) ?_
  refine z_istore (L' := [(4, .int 0), (0, .ref (ad 7)), (1, .int a1), (2, .ref (ad 6)), (3, .int a3)]) F dX7_copies_1 (Nat.le_of_ble_eq_true rfl) rfl ?_
  exact z_sub [1, 2, 3, 4, 0] rfl (z_X7_copies_7_6_3 F n n X a1 a3 0 hf)
theorem c_X7_copies_7_6 {D : va_G} {cI cZ : ClassId} {ad : Nat → Nat} {R : KX} (n : Nat) (X : KX) (a1 : Int32) (a3 : Int32) (hf : f_X7_copies_7_6 n X a1 a3 = some R) : zMV (yM D cI cZ ad) yX7_copies cX7_copies 5 none 1 [.ref (ad 7), .int a1, .ref (ad 6), .int a3] X R := zMV_of (by decide +kernel) (Nat.le_of_ble_eq_true rfl) (fun z F => z_sub [0, 1, 2, 3] rfl (z_X7_copies_7_6 F n X a1 a3 hf))
theorem k_X7_copies_7_6 {z : ZC} {D : va_G} {cI cZ : ClassId} {ad : Nat → Nat} {cc : ByteArray} {own : String} {nL d pc index : Nat} {ret : Option FieldType} {Q : State → Prop} {X : KX} {L : List (Nat × Value)} {rest : List Value} {n : Nat} {a1 a3 : Int32} (F : ZF z (yM D cI cZ ad) cc own nL ret d) (hd : 1 + 1 ≤ d) (hw : Cond.methodLink own index yX7_copies ∈ wsA) (hst : (rest.map fun v => v.category).sum ≤ 8) {β : Type} {e : KX → Option β} {r : β} (hf : zB1 (f_X7_copies_7_6 n X a1 a3) e = some r) (hdg : decode cc pc = .ok (.invokestatic index, 3)) (kk : ∀ X2 : KX, e X2 = some r → Z z (yM D cI cZ ad) nL Q X2 (pc + 3) L rest) : Z z (yM D cI cZ ad) nL Q X pc L (.int a3 :: .ref (ad 6) :: .int a1 :: .ref (ad 7) :: rest) := by
  obtain ⟨v, h1, h2⟩ := zB1_some hf
  exact z_cSV (As := [.ref (ad 7), .int a1, .ref (ad 6), .int a3]) F (c_X7_copies_7_6 n X a1 a3 h1) kn_X7_copies_7_6 kv_X7_copies_7_6 hw hd rfl hst hdg rfl (kk v h2)
theorem kv_X7_castle : zKv yX7_castle := ⟨wm_885, wm_886⟩
theorem kn_X7_castle : zKn yX7_castle cX7_castle 2 (some .int) 0 := ⟨wm_887, wm_62, by decide +kernel, by decide⟩
set_option maxHeartbeats 4000000 in
set_option maxRecDepth 100000 in
theorem z_X7_castle_254 {z : ZC} {D : va_G} {cI cZ : ClassId} {ad : Nat → Nat} {R : Int32 × KX} (F : ZF z (yM D cI cZ ad) cX7_castle RX7 2 (some .int) 6) (n : Nat) (X : KX) (hf : f_X7_castle_254 n X = some R) : Z z (yM D cI cZ ad) 2 (zQI z (yM D cI cZ ad) R) X 254 [(0, .ref (ad 0))] [] := by
  unfold f_X7_castle_254 at hf
  refine z_aload_n F dX7_castle_254 0 rfl rfl ?_
  refine z_iconst (v := 0) F dX7_castle_255 (by decide +kernel) ?_
  refine pM_0_6 F hf wm_768 dX7_castle_256 (fun X_1 hf => ?_)
  refine z_aload_n F dX7_castle_259 0 rfl rfl ?_
  refine k_X7_isWell F (by decide) wm_900 (Nat.le_of_ble_eq_true rfl) dX7_castle_260 ?_
  refine z_if_ne (tgt := 274) F hf dX7_castle_263 (by decide) (fun hf => ?_) (fun hf => ?_)
  · refine z_aload_n F dX7_castle_274 0 rfl rfl ?_
    refine gM_0_14 F wm_776 dX7_castle_275 ?_
    refine z_iconst (v := 0) F dX7_castle_278 (by decide +kernel) ?_
    refine z_aload_n F dX7_castle_279 0 rfl rfl ?_
    refine gM_0_13 F wm_775 dX7_castle_280 ?_
    refine z_iconst (v := 0) F dX7_castle_283 (by decide +kernel) ?_
    refine k_X7_copies_7_6 F (by decide) wm_924 (Nat.le_of_ble_eq_true rfl) hf dX7_castle_284 (fun X_2 hf => ?_)
    refine z_aload_n F dX7_castle_287 0 rfl rfl ?_
    refine z_iconst (v := 0) F dX7_castle_288 (by decide +kernel) ?_
    refine pM_0_16 F hf wm_778 dX7_castle_289 (fun X_3 hf => ?_)
    refine z_aload_n F dX7_castle_292 0 rfl rfl ?_
    refine gM_0_13 F wm_775 dX7_castle_293 ?_
    refine z_bipush (v := 8) F dX7_castle_296 (by decide +kernel) ?_
    refine lM_6 F hf dX7_castle_298 (fun hf => ?_)
    exact z_iret F dX7_castle_299 (Option.some.inj hf)
  · refine z_ldc F wm_923 dX7_castle_266 ?_
    refine z_aload_n F dX7_castle_268 0 rfl rfl ?_
    refine gM_0_8 F wm_770 dX7_castle_269 ?_
    refine z_isub F dX7_castle_272 ?_
    exact z_iret F dX7_castle_273 (Option.some.inj hf)
set_option maxHeartbeats 4000000 in
set_option maxRecDepth 100000 in
theorem z_X7_castle_233 {z : ZC} {D : va_G} {cI cZ : ClassId} {ad : Nat → Nat} {R : Int32 × KX} (F : ZF z (yM D cI cZ ad) cX7_castle RX7 2 (some .int) 6) (n : Nat) (X : KX) (hf : f_X7_castle_233 n X = some R) : Z z (yM D cI cZ ad) 2 (zQI z (yM D cI cZ ad) R) X 233 [(0, .ref (ad 0))] [] := by
  unfold f_X7_castle_233 at hf
  refine z_aload_n F dX7_castle_233 0 rfl rfl ?_
  refine k_X7_isWell F (by decide) wm_900 (Nat.le_of_ble_eq_true rfl) dX7_castle_234 ?_
  refine z_if_eq (tgt := 254) F hf dX7_castle_237 (by decide) (fun hf => ?_) (fun hf => ?_)
  · exact z_sub [0] rfl (z_X7_castle_254 F n X hf)
  · refine z_aload_n F dX7_castle_240 0 rfl rfl ?_
    refine gM_0_11 F wm_773 dX7_castle_241 ?_
    refine z_if_eq (tgt := 254) F hf dX7_castle_244 (by decide) (fun hf => ?_) (fun hf => ?_)
    · exact z_sub [0] rfl (z_X7_castle_254 F n X hf)
    · refine z_aload_n F dX7_castle_247 0 rfl rfl ?_
      refine z_iconst (v := 0) F dX7_castle_248 (by decide +kernel) ?_
      refine z_iconst (v := 1) F dX7_castle_249 (by decide +kernel) ?_
      refine k_X7_takes F (by decide) wm_896 (Nat.le_of_ble_eq_true rfl) hf dX7_castle_250 (fun r_1 X_2 hf => ?_)
      refine z_pop F dX7_castle_253 rfl ?_
      exact z_sub [0] rfl (z_X7_castle_254 F n X_2 hf)
set_option maxHeartbeats 4000000 in
set_option maxRecDepth 100000 in
theorem z_X7_castle_202 {z : ZC} {D : va_G} {cI cZ : ClassId} {ad : Nat → Nat} {R : Int32 × KX} (F : ZF z (yM D cI cZ ad) cX7_castle RX7 2 (some .int) 6) (n : Nat) : ∀ (t : Nat) (X : KX), f_X7_castle_202 n t X = some R → Z z (yM D cI cZ ad) 2 (zQI z (yM D cI cZ ad) R) X 202 [(0, .ref (ad 0))] [] := by
  intro t
  induction t with
  | zero => intro X hf; rw [f_X7_castle_202] at hf; exact zNone hf
  | succ t ih =>
    intro X hf
    rw [f_X7_castle_202] at hf
    refine z_aload_n F dX7_castle_202 0 rfl rfl ?_
    refine k_X7_isWell F (by decide) wm_900 (Nat.le_of_ble_eq_true rfl) dX7_castle_203 ?_
    refine z_if_eq (tgt := 233) F hf dX7_castle_206 (by decide) (fun hf => ?_) (fun hf => ?_)
    · exact z_sub [0] rfl (z_X7_castle_233 F n X hf)
    · refine z_aload_n F dX7_castle_209 0 rfl rfl ?_
      refine gM_0_11 F wm_773 dX7_castle_210 ?_
      refine z_iconst (v := 1) F dX7_castle_213 (by decide +kernel) ?_
      refine z_icmp_ne (tgt := 233) F hf dX7_castle_214 (by decide) (fun hf => ?_) (fun hf => ?_)
      · exact z_sub [0] rfl (z_X7_castle_233 F n X hf)
      · refine z_aload_n F dX7_castle_217 0 rfl rfl ?_
        refine gM_0_12 F wm_774 dX7_castle_218 ?_
        refine z_bipush (v := 110) F dX7_castle_221 (by decide +kernel) ?_
        refine z_icmp_ne (tgt := 233) F hf dX7_castle_223 (by decide) (fun hf => ?_) (fun hf => ?_)
        · exact z_sub [0] rfl (z_X7_castle_233 F n X hf)
        · refine z_aload_n F dX7_castle_226 0 rfl rfl ?_
          refine k_X7_readsGuest F (by decide) wm_919 (Nat.le_of_ble_eq_true rfl) hf dX7_castle_227 (fun X_1 hf => ?_)
          refine z_goto (tgt := 202) F dX7_castle_230 (by decide) ?_
          exact z_sub [0] rfl (ih X_1 hf)
set_option maxHeartbeats 4000000 in
set_option maxRecDepth 100000 in
theorem z_X7_castle_170 {z : ZC} {D : va_G} {cI cZ : ClassId} {ad : Nat → Nat} {R : Int32 × KX} (F : ZF z (yM D cI cZ ad) cX7_castle RX7 2 (some .int) 6) (n : Nat) : ∀ (t : Nat) (X : KX), f_X7_castle_170 n t X = some R → Z z (yM D cI cZ ad) 2 (zQI z (yM D cI cZ ad) R) X 170 [(0, .ref (ad 0))] [] := by
  intro t
  induction t with
  | zero => intro X hf; rw [f_X7_castle_170] at hf; exact zNone hf
  | succ t ih =>
    intro X hf
    rw [f_X7_castle_170] at hf
    refine z_aload_n F dX7_castle_170 0 rfl rfl ?_
    refine k_X7_isWell F (by decide) wm_900 (Nat.le_of_ble_eq_true rfl) dX7_castle_171 ?_
    refine z_if_eq (tgt := 202) F hf dX7_castle_174 (by decide) (fun hf => ?_) (fun hf => ?_)
    · exact z_sub [0] rfl (z_X7_castle_202 F n n X hf)
    · refine z_aload_n F dX7_castle_177 0 rfl rfl ?_
      refine gM_0_11 F wm_773 dX7_castle_178 ?_
      refine z_iconst (v := 1) F dX7_castle_181 (by decide +kernel) ?_
      refine z_icmp_ne (tgt := 202) F hf dX7_castle_182 (by decide) (fun hf => ?_) (fun hf => ?_)
      · exact z_sub [0] rfl (z_X7_castle_202 F n n X hf)
      · refine z_aload_n F dX7_castle_185 0 rfl rfl ?_
        refine gM_0_12 F wm_774 dX7_castle_186 ?_
        refine k_X7_kindOf F (by decide) wm_912 (Nat.le_of_ble_eq_true rfl) dX7_castle_189 ?_
        refine z_if_le (tgt := 202) F hf dX7_castle_192 (by decide) (fun hf => ?_) (fun hf => ?_)
        · exact z_sub [0] rfl (z_X7_castle_202 F n n X hf)
        · refine z_aload_n F dX7_castle_195 0 rfl rfl ?_
          refine k_X7_readsHint F (by decide) wm_915 (Nat.le_of_ble_eq_true rfl) hf dX7_castle_196 (fun X_1 hf => ?_)
          refine z_goto (tgt := 170) F dX7_castle_199 (by decide) ?_
          exact z_sub [0] rfl (ih X_1 hf)
set_option maxHeartbeats 4000000 in
set_option maxRecDepth 100000 in
theorem z_X7_castle_165 {z : ZC} {D : va_G} {cI cZ : ClassId} {ad : Nat → Nat} {R : Int32 × KX} (F : ZF z (yM D cI cZ ad) cX7_castle RX7 2 (some .int) 6) (n : Nat) (X : KX) (s0 : Int32) (hf : f_X7_castle_165 n X s0 = some R) : Z z (yM D cI cZ ad) 2 (zQI z (yM D cI cZ ad) R) X 165 [(0, .ref (ad 0))] [.int s0, .ref (ad 0)] := by
  unfold f_X7_castle_165 at hf
  refine z_iconst (v := 1) F dX7_castle_165 (by decide +kernel) ?_
  refine k_X7_takes F (by decide) wm_896 (Nat.le_of_ble_eq_true rfl) hf dX7_castle_166 (fun r_1 X_2 hf => ?_)
  refine z_pop F dX7_castle_169 rfl ?_
  exact z_sub [0] rfl (z_X7_castle_170 F n n X_2 hf)
set_option maxHeartbeats 4000000 in
set_option maxRecDepth 100000 in
theorem z_X7_castle_134 {z : ZC} {D : va_G} {cI cZ : ClassId} {ad : Nat → Nat} {R : Int32 × KX} (F : ZF z (yM D cI cZ ad) cX7_castle RX7 2 (some .int) 6) (n : Nat) (X : KX) (s0 : Int32) (hf : f_X7_castle_134 n X s0 = some R) : Z z (yM D cI cZ ad) 2 (zQI z (yM D cI cZ ad) R) X 134 [(0, .ref (ad 0))] [.int s0, .ref (ad 0)] := by
  unfold f_X7_castle_134 at hf
  refine z_iconst (v := 1) F dX7_castle_134 (by decide +kernel) ?_
  refine k_X7_takes F (by decide) wm_896 (Nat.le_of_ble_eq_true rfl) hf dX7_castle_135 (fun r_1 X_2 hf => ?_)
  refine z_pop F dX7_castle_138 rfl ?_
  refine z_aload_n F dX7_castle_139 0 rfl rfl ?_
  refine gM_0_14 F wm_776 dX7_castle_140 ?_
  refine z_iconst (v := 0) F dX7_castle_143 (by decide +kernel) ?_
  refine z_aload_n F dX7_castle_144 0 rfl rfl ?_
  refine z_iconst (v := 1) F dX7_castle_145 (by decide +kernel) ?_
  refine z_iconst (v := 5) F dX7_castle_146 (by decide +kernel) ?_
  refine k_X7_figure F (by decide) wm_904 (Nat.le_of_ble_eq_true rfl) hf dX7_castle_147 (fun r_3 X_4 hf => ?_)
  refine sM_7 F hf dX7_castle_150 (fun X_5 hf => ?_)
  refine z_aload_n F dX7_castle_151 0 rfl rfl ?_
  refine z_aload_n F dX7_castle_152 0 rfl rfl ?_
  refine gM_0_11 F wm_773 dX7_castle_153 ?_
  refine z_iconst (v := 4) F dX7_castle_156 (by decide +kernel) ?_
  refine z_icmp_ne (tgt := 164) F hf dX7_castle_157 (by decide) (fun hf => ?_) (fun hf => ?_)
  · refine z_iconst (v := 0) F dX7_castle_164 (by decide +kernel) ?_
    exact z_sub [0] rfl (z_X7_castle_165 F n X_5 0 hf)
  · refine z_iconst (v := 1) F dX7_castle_160 (by decide +kernel) ?_
    refine z_goto (tgt := 165) F dX7_castle_161 (by decide) ?_
    exact z_sub [0] rfl (z_X7_castle_165 F n X_5 1 hf)
