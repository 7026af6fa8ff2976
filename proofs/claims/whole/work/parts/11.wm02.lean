set_option maxHeartbeats 4000000 in
set_option maxRecDepth 100000 in
theorem z_X7_castle_97 {z : ZC} {D : va_G} {cI cZ : ClassId} {ad : Nat → Nat} {R : Int32 × KX} (F : ZF z (yM D cI cZ ad) cX7_castle RX7 2 (some .int) 6) (n : Nat) (X : KX) (s0 : Int32) (hf : f_X7_castle_97 n X s0 = some R) : Z z (yM D cI cZ ad) 2 (zQI z (yM D cI cZ ad) R) X 97 [(0, .ref (ad 0))] [.int s0, .ref (ad 0)] := by
  unfold f_X7_castle_97 at hf
  refine z_iconst (v := 1) F dX7_castle_97 (by decide +kernel) ?_
  refine k_X7_takes F (by decide) wm_896 (Nat.le_of_ble_eq_true rfl) hf dX7_castle_98 (fun r_1 X_2 hf => ?_)
  refine z_pop F dX7_castle_101 rfl ?_
  refine z_aload_n F dX7_castle_102 0 rfl rfl ?_
  refine gM_0_14 F wm_776 dX7_castle_103 ?_
  refine z_iconst (v := 2) F dX7_castle_106 (by decide +kernel) ?_
  refine z_aload_n F dX7_castle_107 0 rfl rfl ?_
  refine z_bipush (v := 7) F dX7_castle_108 (by decide +kernel) ?_
  refine z_aload_n F dX7_castle_110 0 rfl rfl ?_
  refine gM_0_14 F wm_776 dX7_castle_111 ?_
  refine z_iconst (v := 1) F dX7_castle_114 (by decide +kernel) ?_
  refine lM_7 F hf dX7_castle_115 (fun hf => ?_)
  refine k_X7_figureBut F (by decide) wm_908 (Nat.le_of_ble_eq_true rfl) hf dX7_castle_116 (fun r_3 X_4 hf => ?_)
  refine sM_7 F hf dX7_castle_119 (fun X_5 hf => ?_)
  refine z_aload_n F dX7_castle_120 0 rfl rfl ?_
  refine z_aload_n F dX7_castle_121 0 rfl rfl ?_
  refine gM_0_11 F wm_773 dX7_castle_122 ?_
  refine z_iconst (v := 3) F dX7_castle_125 (by decide +kernel) ?_
  refine z_icmp_ne (tgt := 133) F hf dX7_castle_126 (by decide) (fun hf => ?_) (fun hf => ?_)
  · refine z_iconst (v := 0) F dX7_castle_133 (by decide +kernel) ?_
    exact z_sub [0] rfl (z_X7_castle_134 F n X_5 0 hf)
  · refine z_iconst (v := 1) F dX7_castle_129 (by decide +kernel) ?_
    refine z_goto (tgt := 134) F dX7_castle_130 (by decide) ?_
    exact z_sub [0] rfl (z_X7_castle_134 F n X_5 1 hf)
set_option maxHeartbeats 4000000 in
set_option maxRecDepth 100000 in
theorem z_X7_castle_65 {z : ZC} {D : va_G} {cI cZ : ClassId} {ad : Nat → Nat} {R : Int32 × KX} (F : ZF z (yM D cI cZ ad) cX7_castle RX7 2 (some .int) 6) (n : Nat) (X : KX) (s0 : Int32) (hf : f_X7_castle_65 n X s0 = some R) : Z z (yM D cI cZ ad) 2 (zQI z (yM D cI cZ ad) R) X 65 [(0, .ref (ad 0))] [.int s0, .ref (ad 0)] := by
  unfold f_X7_castle_65 at hf
  refine z_iconst (v := 1) F dX7_castle_65 (by decide +kernel) ?_
  refine k_X7_takes F (by decide) wm_896 (Nat.le_of_ble_eq_true rfl) hf dX7_castle_66 (fun r_1 X_2 hf => ?_)
  refine z_pop F dX7_castle_69 rfl ?_
  refine z_aload_n F dX7_castle_70 0 rfl rfl ?_
  refine gM_0_14 F wm_776 dX7_castle_71 ?_
  refine z_iconst (v := 1) F dX7_castle_74 (by decide +kernel) ?_
  refine z_aload_n F dX7_castle_75 0 rfl rfl ?_
  refine z_iconst (v := 0) F dX7_castle_76 (by decide +kernel) ?_
  refine z_bipush (v := 7) F dX7_castle_77 (by decide +kernel) ?_
  refine k_X7_figure F (by decide) wm_904 (Nat.le_of_ble_eq_true rfl) hf dX7_castle_79 (fun r_3 X_4 hf => ?_)
  refine sM_7 F hf dX7_castle_82 (fun X_5 hf => ?_)
  refine z_aload_n F dX7_castle_83 0 rfl rfl ?_
  refine z_aload_n F dX7_castle_84 0 rfl rfl ?_
  refine gM_0_11 F wm_773 dX7_castle_85 ?_
  refine z_iconst (v := 3) F dX7_castle_88 (by decide +kernel) ?_
  refine z_icmp_ne (tgt := 96) F hf dX7_castle_89 (by decide) (fun hf => ?_) (fun hf => ?_)
  · refine z_iconst (v := 0) F dX7_castle_96 (by decide +kernel) ?_
    exact z_sub [0] rfl (z_X7_castle_97 F n X_5 0 hf)
  · refine z_iconst (v := 1) F dX7_castle_92 (by decide +kernel) ?_
    refine z_goto (tgt := 97) F dX7_castle_93 (by decide) ?_
    exact z_sub [0] rfl (z_X7_castle_97 F n X_5 1 hf)
set_option maxHeartbeats 4000000 in
set_option maxRecDepth 100000 in
theorem z_X7_castle_64 {z : ZC} {D : va_G} {cI cZ : ClassId} {ad : Nat → Nat} {R : Int32 × KX} (F : ZF z (yM D cI cZ ad) cX7_castle RX7 2 (some .int) 6) (n : Nat) (X : KX) (hf : f_X7_castle_64 n X = some R) : Z z (yM D cI cZ ad) 2 (zQI z (yM D cI cZ ad) R) X 64 [(0, .ref (ad 0))] [.ref (ad 0)] := by
  unfold f_X7_castle_64 at hf
  refine z_iconst (v := 0) F dX7_castle_64 (by decide +kernel) ?_
  exact z_sub [0] rfl (z_X7_castle_65 F n X 0 hf)
set_option maxHeartbeats 4000000 in
set_option maxRecDepth 100000 in
theorem z_X7_castle_2 {z : ZC} {D : va_G} {cI cZ : ClassId} {ad : Nat → Nat} {R : Int32 × KX} (F : ZF z (yM D cI cZ ad) cX7_castle RX7 2 (some .int) 6) (n : Nat) : ∀ (t : Nat) (X : KX) (v1 : Int32), f_X7_castle_2 n t X v1 = some R → Z z (yM D cI cZ ad) 2 (zQI z (yM D cI cZ ad) R) X 2 [(0, .ref (ad 0)), (1, .int v1)] [] := by
  intro t
  induction t with
  | zero => intro X v1 hf; rw [f_X7_castle_2] at hf; exact zNone hf
  | succ t ih =>
    intro X v1 hf
    rw [f_X7_castle_2] at hf
    refine z_iload_n F dX7_castle_2 1 rfl rfl ?_
    refine z_bipush (v := 71) F dX7_castle_3 (by decide +kernel) ?_
    refine z_icmp_ge (tgt := 21) F hf dX7_castle_5 (by decide) (fun hf => ?_) (fun hf => ?_)
    · refine z_aload_n F dX7_castle_21 0 rfl rfl ?_
      refine gM_0_14 F wm_776 dX7_castle_22 ?_
      refine z_iconst (v := 3) F dX7_castle_25 (by decide +kernel) ?_
      refine z_iconst (v := (-1)) F dX7_castle_26 (by decide +kernel) ?_
      refine sM_7 F hf dX7_castle_27 (fun X_1 hf => ?_)
      refine z_aload_n F dX7_castle_28 0 rfl rfl ?_
      refine z_iconst (v := 0) F dX7_castle_29 (by decide +kernel) ?_
      refine pM_0_9 F hf wm_771 dX7_castle_30 (fun X_2 hf => ?_)
      refine z_aload_n F dX7_castle_33 0 rfl rfl ?_
      refine z_iconst (v := (-1)) F dX7_castle_34 (by decide +kernel) ?_
      refine pM_0_8 F hf wm_770 dX7_castle_35 (fun X_3 hf => ?_)
      refine z_aload_n F dX7_castle_38 0 rfl rfl ?_
      refine k_X7_advances F (by decide) wm_888 (Nat.le_of_ble_eq_true rfl) hf dX7_castle_39 (fun X_4 hf => ?_)
      refine z_aload_n F dX7_castle_42 0 rfl rfl ?_
      refine z_aload_n F dX7_castle_43 0 rfl rfl ?_
      refine gM_0_11 F wm_773 dX7_castle_44 ?_
      refine z_iconst (v := 1) F dX7_castle_47 (by decide +kernel) ?_
      refine z_icmp_ne (tgt := 64) F hf dX7_castle_48 (by decide) (fun hf => ?_) (fun hf => ?_)
      · exact z_sub [0] rfl (z_X7_castle_64 F n X_4 hf)
      · refine z_aload_n F dX7_castle_51 0 rfl rfl ?_
        refine gM_0_12 F wm_774 dX7_castle_52 ?_
        refine z_bipush (v := 107) F dX7_castle_55 (by decide +kernel) ?_
        refine z_icmp_ne (tgt := 64) F hf dX7_castle_57 (by decide) (fun hf => ?_) (fun hf => ?_)
        · exact z_sub [0] rfl (z_X7_castle_64 F n X_4 hf)
        · refine z_iconst (v := 1) F dX7_castle_60 (by decide +kernel) ?_
          refine z_goto (tgt := 65) F dX7_castle_61 (by decide) ?_
          exact z_sub [0] rfl (z_X7_castle_65 F n X_4 1 hf)
    · refine z_aload_n F dX7_castle_8 0 rfl rfl ?_
      refine gM_0_14 F wm_776 dX7_castle_9 ?_
      refine z_iload_n F dX7_castle_12 1 rfl rfl ?_
      refine z_iconst (v := 0) F dX7_castle_13 (by decide +kernel) ?_
      refine sM_7 F hf dX7_castle_14 (fun X_5 hf => ?_)
      refine z_iinc (w := 1) (L' := fun v1_6 => [(1, .int v1_6), (0, .ref (ad 0))]) F hf dX7_castle_15 1 rfl (by decide +kernel) (Nat.le_of_ble_eq_true rfl) (fun _ => rfl) (fun v1_6 hf => ?_)
      refine z_goto (tgt := 2) F dX7_castle_18 (by decide) ?_
      exact z_sub [1, 0] rfl (ih X_5 v1_6 hf)
set_option maxHeartbeats 4000000 in
set_option maxRecDepth 100000 in
theorem z_X7_castle {z : ZC} {D : va_G} {cI cZ : ClassId} {ad : Nat → Nat} {R : Int32 × KX} (F : ZF z (yM D cI cZ ad) cX7_castle RX7 2 (some .int) 6) (n : Nat) (X : KX)  (hf : f_X7_castle n X = some R) : Z z (yM D cI cZ ad) 2 (zQI z (yM D cI cZ ad) R) X 0 [(0, .ref (ad 0))] [] := by
  unfold f_X7_castle at hf
  refine z_iconst (v := 0) F dX7_castle_0 (by decide +kernel) ?_
  refine z_istore_n (L' := [(1, .int 0), (0, .ref (ad 0))]) F dX7_castle_1 rfl (Nat.le_of_ble_eq_true rfl) rfl ?_
  exact z_sub [1, 0] rfl (z_X7_castle_2 F n n X 0 hf)
theorem c_X7_castle {D : va_G} {cI cZ : ClassId} {ad : Nat → Nat} {R : Int32 × KX} (n : Nat) (X : KX)  (hf : f_X7_castle n X = some R) : zMI (yM D cI cZ ad) yX7_castle cX7_castle 2 (some .int) 6 [.ref (ad 0)] X R := zMI_of (by decide +kernel) (Nat.le_of_ble_eq_true rfl) (fun z F => z_sub [0] rfl (z_X7_castle F n X hf))
theorem k_X7_castle {z : ZC} {D : va_G} {cI cZ : ClassId} {ad : Nat → Nat} {cc : ByteArray} {own : String} {nL d pc index : Nat} {ret : Option FieldType} {Q : State → Prop} {X : KX} {L : List (Nat × Value)} {rest : List Value} {n : Nat} (F : ZF z (yM D cI cZ ad) cc own nL ret d) (hd : 6 + 1 ≤ d) (hw : Cond.methodLink own index yX7_castle ∈ wsA) (hst : (rest.map fun v => v.category).sum ≤ 8) {β : Type} {e : Int32 → KX → Option β} {r : β} (hf : zB2 (f_X7_castle n X) e = some r) (hdg : decode cc pc = .ok (.invokevirtual index, 3)) (kk : ∀ (v : Int32) (X2 : KX), e v X2 = some r → Z z (yM D cI cZ ad) nL Q X2 (pc + 3) L (.int v :: rest)) : Z z (yM D cI cZ ad) nL Q X pc L (.ref (ad 0) :: rest) := by
  obtain ⟨v, X2, h1, h2⟩ := zB2_some hf
  exact z_cVI (As := []) F (c_X7_castle n X h1) kn_X7_castle kv_X7_castle hw (q0 := 0) rfl rfl hd rfl hst hdg rfl (kk v X2 h2)
theorem kv_X7_fault : zKv yX7_fault := ⟨wm_928, wm_929⟩
theorem kn_X7_fault : zKn yX7_fault cX7_fault 1 (some .int) 0 := ⟨wm_930, wm_62, by decide +kernel, by decide⟩
set_option maxHeartbeats 4000000 in
set_option maxRecDepth 100000 in
theorem z_X7_fault {z : ZC} {D : va_G} {cI cZ : ClassId} {ad : Nat → Nat} {r : Int32} (F : ZF z (yM D cI cZ ad) cX7_fault RX7 1 (some .int) 1) (X : KX)  (hf : f_X7_fault X = r) : Z z (yM D cI cZ ad) 1 (zQI z (yM D cI cZ ad) (r, X)) X 0 [(0, .ref (ad 0))] [] := by
  unfold f_X7_fault at hf
  refine z_aload_n F dX7_fault_0 0 rfl rfl ?_
  refine gM_0_7 F wm_769 dX7_fault_1 ?_
  exact z_iret F dX7_fault_4 (Prod.ext hf rfl)
theorem c_X7_fault {D : va_G} {cI cZ : ClassId} {ad : Nat → Nat} (X : KX)  : zMI (yM D cI cZ ad) yX7_fault cX7_fault 1 (some .int) 1 [.ref (ad 0)] X (f_X7_fault X, X) := zMI_of (by decide +kernel) (Nat.le_of_ble_eq_true rfl) (fun z F => z_sub [0] rfl (z_X7_fault F X rfl))
theorem k_X7_fault {z : ZC} {D : va_G} {cI cZ : ClassId} {ad : Nat → Nat} {cc : ByteArray} {own : String} {nL d pc index : Nat} {ret : Option FieldType} {Q : State → Prop} {X : KX} {L : List (Nat × Value)} {rest : List Value} (F : ZF z (yM D cI cZ ad) cc own nL ret d) (hd : 1 + 1 ≤ d) (hw : Cond.methodLink own index yX7_fault ∈ wsA) (hst : (rest.map fun v => v.category).sum ≤ 8) (hdg : decode cc pc = .ok (.invokevirtual index, 3)) (kk : Z z (yM D cI cZ ad) nL Q X (pc + 3) L (.int (f_X7_fault X) :: rest)) : Z z (yM D cI cZ ad) nL Q X pc L (.ref (ad 0) :: rest) := z_cVI (As := []) F (c_X7_fault X) kn_X7_fault kv_X7_fault hw (q0 := 0) rfl rfl hd rfl hst hdg rfl kk
theorem kv_X7_isGuest : zKv yX7_isGuest := ⟨wm_937, wm_30⟩
theorem kn_X7_isGuest : zKn yX7_isGuest cX7_isGuest 2 (some .boolean) 1 := ⟨wm_938, wm_62, by decide +kernel, by decide⟩
set_option maxHeartbeats 4000000 in
set_option maxRecDepth 100000 in
theorem z_X7_isGuest {z : ZC} {D : va_G} {cI cZ : ClassId} {ad : Nat → Nat} {r : Int32} (F : ZF z (yM D cI cZ ad) cX7_isGuest RX7 2 (some .boolean) 2) (X : KX) (a1 : Int32) (hf : f_X7_isGuest X a1 = some r) : Z z (yM D cI cZ ad) 2 (zQI z (yM D cI cZ ad) (r, X)) X 0 [(0, .ref (ad 0)), (1, .int a1)] [] := by
  unfold f_X7_isGuest at hf
  refine z_iload_n F dX7_isGuest_0 1 rfl rfl ?_
  refine z_iconst (v := 0) F dX7_isGuest_1 (by decide +kernel) ?_
  refine z_aload_n F dX7_isGuest_2 0 rfl rfl ?_
  refine gM_0_13 F wm_775 dX7_isGuest_3 ?_
  refine z_bipush (v := 8) F dX7_isGuest_6 (by decide +kernel) ?_
  refine lM_6 F hf dX7_isGuest_8 (fun hf => ?_)
  refine z_iconst (v := 1) F dX7_isGuest_9 (by decide +kernel) ?_
  refine z_isub F dX7_isGuest_10 ?_
  refine k_X7_in F (by decide) wm_843 (Nat.le_of_ble_eq_true rfl) dX7_isGuest_11 ?_
  exact z_zret F (bz_X7_in _ _ _) dX7_isGuest_14 (Prod.ext (Option.some.inj hf) rfl)
theorem c_X7_isGuest {D : va_G} {cI cZ : ClassId} {ad : Nat → Nat} {r : Int32} (X : KX) (a1 : Int32) (hf : f_X7_isGuest X a1 = some r) : zMI (yM D cI cZ ad) yX7_isGuest cX7_isGuest 2 (some .boolean) 2 [.ref (ad 0), .int a1] X (r, X) := zMI_of (by decide +kernel) (Nat.le_of_ble_eq_true rfl) (fun z F => z_sub [0, 1] rfl (z_X7_isGuest F X a1 hf))
theorem k_X7_isGuest {z : ZC} {D : va_G} {cI cZ : ClassId} {ad : Nat → Nat} {cc : ByteArray} {own : String} {nL d pc index : Nat} {ret : Option FieldType} {Q : State → Prop} {X : KX} {L : List (Nat × Value)} {rest : List Value} {a1 : Int32} (F : ZF z (yM D cI cZ ad) cc own nL ret d) (hd : 2 + 1 ≤ d) (hw : Cond.methodLink own index yX7_isGuest ∈ wsA) (hst : (rest.map fun v => v.category).sum ≤ 8) {β : Type} {e : Int32 → Option β} {r : β} (hf : zB1 (f_X7_isGuest X a1) e = some r) (hdg : decode cc pc = .ok (.invokevirtual index, 3)) (kk : ∀ v : Int32, e v = some r → Z z (yM D cI cZ ad) nL Q X (pc + 3) L (.int v :: rest)) : Z z (yM D cI cZ ad) nL Q X pc L (.int a1 :: .ref (ad 0) :: rest) := by
  obtain ⟨v, h1, h2⟩ := zB1_some hf
  exact z_cVI (As := [.int a1]) F (c_X7_isGuest X a1 h1) kn_X7_isGuest kv_X7_isGuest hw (q0 := 0) rfl rfl hd rfl hst hdg rfl (kk v h2)
theorem kv_X7_of : zKv yX7_of := ⟨wm_945, wm_32⟩
theorem kn_X7_of : zKn yX7_of cX7_of 3 (some .int) 2 := ⟨wm_946, wm_62, by decide +kernel, by decide⟩
set_option maxHeartbeats 4000000 in
set_option maxRecDepth 100000 in
theorem z_X7_of {z : ZC} {D : va_G} {cI cZ : ClassId} {ad : Nat → Nat} {r : Int32} (F : ZF z (yM D cI cZ ad) cX7_of RX7 3 (some .int) 1) (X : KX) (a1 : Int32) (a2 : Int32) (hf : f_X7_of X a1 a2 = some r) : Z z (yM D cI cZ ad) 3 (zQI z (yM D cI cZ ad) (r, X)) X 0 [(0, .ref (ad 0)), (1, .int a1), (2, .int a2)] [] := by
  unfold f_X7_of at hf
  refine z_aload_n F dX7_of_0 0 rfl rfl ?_
  refine gM_0_13 F wm_775 dX7_of_1 ?_
  refine z_bipush (v := 41) F dX7_of_4 (by decide +kernel) ?_
  refine z_iconst (v := 5) F dX7_of_6 (by decide +kernel) ?_
  refine z_iload_n F dX7_of_7 1 rfl rfl ?_
  refine z_imul F dX7_of_8 ?_
  refine z_iadd F dX7_of_9 ?_
  refine z_iload_n F dX7_of_10 2 rfl rfl ?_
  refine z_iadd F dX7_of_11 ?_
  refine lM_6 F hf dX7_of_12 (fun hf => ?_)
  exact z_iret F dX7_of_13 (Prod.ext (Option.some.inj hf) rfl)
theorem c_X7_of {D : va_G} {cI cZ : ClassId} {ad : Nat → Nat} {r : Int32} (X : KX) (a1 : Int32) (a2 : Int32) (hf : f_X7_of X a1 a2 = some r) : zMI (yM D cI cZ ad) yX7_of cX7_of 3 (some .int) 1 [.ref (ad 0), .int a1, .int a2] X (r, X) := zMI_of (by decide +kernel) (Nat.le_of_ble_eq_true rfl) (fun z F => z_sub [0, 1, 2] rfl (z_X7_of F X a1 a2 hf))
theorem k_X7_of {z : ZC} {D : va_G} {cI cZ : ClassId} {ad : Nat → Nat} {cc : ByteArray} {own : String} {nL d pc index : Nat} {ret : Option FieldType} {Q : State → Prop} {X : KX} {L : List (Nat × Value)} {rest : List Value} {a1 a2 : Int32} (F : ZF z (yM D cI cZ ad) cc own nL ret d) (hd : 1 + 1 ≤ d) (hw : Cond.methodLink own index yX7_of ∈ wsA) (hst : (rest.map fun v => v.category).sum ≤ 8) {β : Type} {e : Int32 → Option β} {r : β} (hf : zB1 (f_X7_of X a1 a2) e = some r) (hdg : decode cc pc = .ok (.invokevirtual index, 3)) (kk : ∀ v : Int32, e v = some r → Z z (yM D cI cZ ad) nL Q X (pc + 3) L (.int v :: rest)) : Z z (yM D cI cZ ad) nL Q X pc L (.int a2 :: .int a1 :: .ref (ad 0) :: rest) := by
  obtain ⟨v, h1, h2⟩ := zB1_some hf
  exact z_cVI (As := [.int a1, .int a2]) F (c_X7_of X a1 a2 h1) kn_X7_of kv_X7_of hw (q0 := 0) rfl rfl hd rfl hst hdg rfl (kk v h2)
theorem kv_X7_isToCome : zKv yX7_isToCome := ⟨wm_941, wm_31⟩
theorem kn_X7_isToCome : zKn yX7_isToCome cX7_isToCome 2 (some .boolean) 1 := ⟨wm_942, wm_62, by decide +kernel, by decide⟩
set_option maxHeartbeats 4000000 in
set_option maxRecDepth 100000 in
theorem z_X7_isToCome {z : ZC} {D : va_G} {cI cZ : ClassId} {ad : Nat → Nat} {r : Int32} (F : ZF z (yM D cI cZ ad) cX7_isToCome RX7 2 (some .boolean) 2) (X : KX) (a1 : Int32) (hf : f_X7_isToCome X a1 = some r) : Z z (yM D cI cZ ad) 2 (zQI z (yM D cI cZ ad) (r, X)) X 0 [(0, .ref (ad 0)), (1, .int a1)] [] := by
  unfold f_X7_isToCome at hf
  refine z_aload_n F dX7_isToCome_0 0 rfl rfl ?_
  refine z_iload_n F dX7_isToCome_1 1 rfl rfl ?_
  refine z_iconst (v := 3) F dX7_isToCome_2 (by decide +kernel) ?_
  refine k_X7_of F (by decide) wm_943 (Nat.le_of_ble_eq_true rfl) hf dX7_isToCome_3 (fun r_1 hf => ?_)
  refine z_if_ne (tgt := 13) F hf dX7_isToCome_6 (by decide) (fun hf => ?_) (fun hf => ?_)
  · refine z_iconst (v := 0) F dX7_isToCome_13 (by decide +kernel) ?_
    exact z_zret F (by decide) dX7_isToCome_14 (Prod.ext (Option.some.inj hf) rfl)
  · refine z_iconst (v := 1) F dX7_isToCome_9 (by decide +kernel) ?_
    refine z_goto (tgt := 14) F dX7_isToCome_10 (by decide) ?_
    exact z_zret F (by decide) dX7_isToCome_14 (Prod.ext (Option.some.inj hf) rfl)
theorem c_X7_isToCome {D : va_G} {cI cZ : ClassId} {ad : Nat → Nat} {r : Int32} (X : KX) (a1 : Int32) (hf : f_X7_isToCome X a1 = some r) : zMI (yM D cI cZ ad) yX7_isToCome cX7_isToCome 2 (some .boolean) 2 [.ref (ad 0), .int a1] X (r, X) := zMI_of (by decide +kernel) (Nat.le_of_ble_eq_true rfl) (fun z F => z_sub [0, 1] rfl (z_X7_isToCome F X a1 hf))
theorem k_X7_isToCome {z : ZC} {D : va_G} {cI cZ : ClassId} {ad : Nat → Nat} {cc : ByteArray} {own : String} {nL d pc index : Nat} {ret : Option FieldType} {Q : State → Prop} {X : KX} {L : List (Nat × Value)} {rest : List Value} {a1 : Int32} (F : ZF z (yM D cI cZ ad) cc own nL ret d) (hd : 2 + 1 ≤ d) (hw : Cond.methodLink own index yX7_isToCome ∈ wsA) (hst : (rest.map fun v => v.category).sum ≤ 8) {β : Type} {e : Int32 → Option β} {r : β} (hf : zB1 (f_X7_isToCome X a1) e = some r) (hdg : decode cc pc = .ok (.invokevirtual index, 3)) (kk : ∀ v : Int32, e v = some r → Z z (yM D cI cZ ad) nL Q X (pc + 3) L (.int v :: rest)) : Z z (yM D cI cZ ad) nL Q X pc L (.int a1 :: .ref (ad 0) :: rest) := by
  obtain ⟨v, h1, h2⟩ := zB1_some hf
  exact z_cVI (As := [.int a1]) F (c_X7_isToCome X a1 h1) kn_X7_isToCome kv_X7_isToCome hw (q0 := 0) rfl rfl hd rfl hst hdg rfl (kk v h2)
theorem kv_X7_copies_6_8 : Cond.static yX7_copies ∈ wsA := wm_925
theorem kn_X7_copies_6_8 : zKn yX7_copies cX7_copies 5 none 4 := ⟨wm_926, wm_62, by decide +kernel, by decide⟩
set_option maxHeartbeats 4000000 in
set_option maxRecDepth 100000 in
theorem z_X7_copies_6_8_3 {z : ZC} {D : va_G} {cI cZ : ClassId} {ad : Nat → Nat} {R : KX} (F : ZF z (yM D cI cZ ad) cX7_copies RX7 5 none 1) (n : Nat) : ∀ (t : Nat) (X : KX) (v1 : Int32) (v3 : Int32) (v4 : Int32), f_X7_copies_6_8_3 n t X v1 v3 v4 = some R → Z z (yM D cI cZ ad) 5 (zQV z (yM D cI cZ ad) R) X 3 [(0, .ref (ad 6)), (1, .int v1), (2, .ref (ad 8)), (3, .int v3), (4, .int v4)] [] := by
  intro t
  induction t with
  | zero => intro X v1 v3 v4 hf; rw [f_X7_copies_6_8_3] at hf; exact zNone hf
  | succ t ih =>
    intro X v1 v3 v4 hf
    rw [f_X7_copies_6_8_3] at hf
    refine z_iload F dX7_copies_3 4 rfl ?_
    refine z_bipush (v := 71) F dX7_copies_5 (by decide +kernel) ?_
    refine z_icmp_ge (tgt := 28) F hf dX7_copies_7 (by decide) (fun hf => ?_) (fun hf => ?_)
    · exact z_vret F dX7_copies_28 (Option.some.inj hf)
    · refine z_aload_n F dX7_copies_10 2 rfl rfl ?_
      refine z_iload_n F dX7_copies_11 3 rfl rfl ?_
      refine z_iload F dX7_copies_12 4 rfl ?_
      refine z_iadd F dX7_copies_14 ?_
      refine z_aload_n F dX7_copies_15 0 rfl rfl ?_
      refine z_iload_n F dX7_copies_16 1 rfl rfl ?_
      refine z_iload F dX7_copies_17 4 rfl ?_
      refine z_iadd F dX7_copies_19 ?_
      refine lM_6 F hf dX7_copies_20 (fun hf => ?_)
      refine sM_8 F hf dX7_copies_21 (fun X_1 hf => ?_)
      refine z_iinc (w := 1) (L' := fun v4_2 => [(4, .int v4_2), (0, .ref (ad 6)), (1, .int v1), (2, .ref (ad 8)), (3, .int v3)]) F hf dX7_copies_22 4 rfl (by decide +kernel) (Nat.le_of_ble_eq_true rfl) (fun _ => rfl) (fun v4_2 hf => ?_)
      refine z_goto (tgt := 3) F dX7_copies_25 (by decide) ?_
      exact z_sub [1, 2, 3, 4, 0] rfl (ih X_1 v1 v3 v4_2 hf)
set_option maxHeartbeats 4000000 in
set_option maxRecDepth 100000 in
theorem z_X7_copies_6_8 {z : ZC} {D : va_G} {cI cZ : ClassId} {ad : Nat → Nat} {R : KX} (F : ZF z (yM D cI cZ ad) cX7_copies RX7 5 none 1) (n : Nat) (X : KX) (a1 : Int32) (a3 : Int32) (hf : f_X7_copies_6_8 n X a1 a3 = some R) : Z z (yM D cI cZ ad) 5 (zQV z (yM D cI cZ ad) R) X 0 [(0, .ref (ad 6)), (1, .int a1), (2, .ref (ad 8)), (3, .int a3)] [] := by
  unfold f_X7_copies_6_8 at hf
  refine z_iconst (v := 0) F dX7_copies_0 (by decide +kernel) ?_
  refine z_istore (L' := [(4, .int 0), (0, .ref (ad 6)), (1, .int a1), (2, .ref (ad 8)), (3, .int a3)]) F dX7_copies_1 (Nat.le_of_ble_eq_true rfl) rfl ?_
  exact z_sub [1, 2, 3, 4, 0] rfl (z_X7_copies_6_8_3 F n n X a1 a3 0 hf)
theorem c_X7_copies_6_8 {D : va_G} {cI cZ : ClassId} {ad : Nat → Nat} {R : KX} (n : Nat) (X : KX) (a1 : Int32) (a3 : Int32) (hf : f_X7_copies_6_8 n X a1 a3 = some R) : zMV (yM D cI cZ ad) yX7_copies cX7_copies 5 none 1 [.ref (ad 6), .int a1, .ref (ad 8), .int a3] X R := zMV_of (by decide +kernel) (Nat.le_of_ble_eq_true rfl) (fun z F => z_sub [0, 1, 2, 3] rfl (z_X7_copies_6_8 F n X a1 a3 hf))
theorem k_X7_copies_6_8 {z : ZC} {D : va_G} {cI cZ : ClassId} {ad : Nat → Nat} {cc : ByteArray} {own : String} {nL d pc index : Nat} {ret : Option FieldType} {Q : State → Prop} {X : KX} {L : List (Nat × Value)} {rest : List Value} {n : Nat} {a1 a3 : Int32} (F : ZF z (yM D cI cZ ad) cc own nL ret d) (hd : 1 + 1 ≤ d) (hw : Cond.methodLink own index yX7_copies ∈ wsA) (hst : (rest.map fun v => v.category).sum ≤ 8) {β : Type} {e : KX → Option β} {r : β} (hf : zB1 (f_X7_copies_6_8 n X a1 a3) e = some r) (hdg : decode cc pc = .ok (.invokestatic index, 3)) (kk : ∀ X2 : KX, e X2 = some r → Z z (yM D cI cZ ad) nL Q X2 (pc + 3) L rest) : Z z (yM D cI cZ ad) nL Q X pc L (.int a3 :: .ref (ad 8) :: .int a1 :: .ref (ad 6) :: rest) := by
  obtain ⟨v, h1, h2⟩ := zB1_some hf
  exact z_cSV (As := [.ref (ad 6), .int a1, .ref (ad 8), .int a3]) F (c_X7_copies_6_8 n X a1 a3 h1) kn_X7_copies_6_8 kv_X7_copies_6_8 hw hd rfl hst hdg rfl (kk v h2)
theorem kv_X7_notes : zKv yX7_notes := ⟨wm_950, wm_33⟩
theorem kn_X7_notes : zKn yX7_notes cX7_notes 2 none 0 := ⟨wm_951, wm_62, by decide +kernel, by decide⟩
set_option maxHeartbeats 4000000 in
set_option maxRecDepth 100000 in
theorem z_X7_notes_49 {z : ZC} {D : va_G} {cI cZ : ClassId} {ad : Nat → Nat} {R : KX} (F : ZF z (yM D cI cZ ad) cX7_notes RX7 2 none 2) (n : Nat) (X : KX) (hf : f_X7_notes_49 n X = some R) : Z z (yM D cI cZ ad) 2 (zQV z (yM D cI cZ ad) R) X 49 [(0, .ref (ad 0))] [] := by
  unfold f_X7_notes_49 at hf
  refine z_aload_n F dX7_notes_49 0 rfl rfl ?_
  refine gM_0_13 F wm_775 dX7_notes_50 ?_
  refine z_iconst (v := 0) F dX7_notes_53 (by decide +kernel) ?_
  refine z_aload_n F dX7_notes_54 0 rfl rfl ?_
  refine gM_0_15 F wm_777 dX7_notes_55 ?_
  refine z_bipush (v := 71) F dX7_notes_58 (by decide +kernel) ?_
  refine z_aload_n F dX7_notes_60 0 rfl rfl ?_
  refine gM_0_16 F wm_778 dX7_notes_61 ?_
  refine z_imul F dX7_notes_64 ?_
  refine k_X7_copies_6_8 F (by decide) wm_924 (Nat.le_of_ble_eq_true rfl) hf dX7_notes_65 (fun X_1 hf => ?_)
  refine z_aload_n F dX7_notes_68 0 rfl rfl ?_
  refine z_dup F dX7_notes_69 rfl ?_
  refine gM_0_16 F wm_778 dX7_notes_70 ?_
  refine z_iconst (v := 1) F dX7_notes_73 (by decide +kernel) ?_
  refine z_iadd F dX7_notes_74 ?_
  refine pM_0_16 F hf wm_778 dX7_notes_75 (fun X_2 hf => ?_)
  exact z_vret F dX7_notes_78 (Option.some.inj hf)
set_option maxHeartbeats 4000000 in
set_option maxRecDepth 100000 in
theorem z_X7_notes_11 {z : ZC} {D : va_G} {cI cZ : ClassId} {ad : Nat → Nat} {R : KX} (F : ZF z (yM D cI cZ ad) cX7_notes RX7 2 none 2) (n : Nat) : ∀ (t : Nat) (X : KX) (v1 : Int32), f_X7_notes_11 n t X v1 = some R → Z z (yM D cI cZ ad) 2 (zQV z (yM D cI cZ ad) R) X 11 [(0, .ref (ad 0)), (1, .int v1)] [] := by
  intro t
  induction t with
  | zero => intro X v1 hf; rw [f_X7_notes_11] at hf; exact zNone hf
  | succ t ih =>
    intro X v1 hf
    rw [f_X7_notes_11] at hf
    refine z_iload_n F dX7_notes_11 1 rfl rfl ?_
    refine z_sipush (v := 1633) F dX7_notes_12 (by decide +kernel) ?_
    refine z_icmp_ge (tgt := 39) F hf dX7_notes_15 (by decide) (fun hf => ?_) (fun hf => ?_)
    · refine z_aload_n F dX7_notes_39 0 rfl rfl ?_
      refine z_dup F dX7_notes_40 rfl ?_
      refine gM_0_16 F wm_778 dX7_notes_41 ?_
      refine z_iconst (v := 1) F dX7_notes_44 (by decide +kernel) ?_
      refine z_isub F dX7_notes_45 ?_
      refine pM_0_16 F hf wm_778 dX7_notes_46 (fun X_1 hf => ?_)
      exact z_sub [0] rfl (z_X7_notes_49 F n X_1 hf)
    · refine z_aload_n F dX7_notes_18 0 rfl rfl ?_
      refine gM_0_15 F wm_777 dX7_notes_19 ?_
      refine z_iload_n F dX7_notes_22 1 rfl rfl ?_
      refine z_aload_n F dX7_notes_23 0 rfl rfl ?_
      refine gM_0_15 F wm_777 dX7_notes_24 ?_
      refine z_iload_n F dX7_notes_27 1 rfl rfl ?_
      refine z_bipush (v := 71) F dX7_notes_28 (by decide +kernel) ?_
      refine z_iadd F dX7_notes_30 ?_
      refine lM_8 F hf dX7_notes_31 (fun hf => ?_)
      refine sM_8 F hf dX7_notes_32 (fun X_2 hf => ?_)
      refine z_iinc (w := 1) (L' := fun v1_3 => [(1, .int v1_3), (0, .ref (ad 0))]) F hf dX7_notes_33 1 rfl (by decide +kernel) (Nat.le_of_ble_eq_true rfl) (fun _ => rfl) (fun v1_3 hf => ?_)
      refine z_goto (tgt := 11) F dX7_notes_36 (by decide) ?_
      exact z_sub [1, 0] rfl (ih X_2 v1_3 hf)
set_option maxHeartbeats 4000000 in
set_option maxRecDepth 100000 in
theorem z_X7_notes {z : ZC} {D : va_G} {cI cZ : ClassId} {ad : Nat → Nat} {R : KX} (F : ZF z (yM D cI cZ ad) cX7_notes RX7 2 none 2) (n : Nat) (X : KX)  (hf : f_X7_notes n X = some R) : Z z (yM D cI cZ ad) 2 (zQV z (yM D cI cZ ad) R) X 0 [(0, .ref (ad 0))] [] := by
  unfold f_X7_notes at hf
  refine z_aload_n F dX7_notes_0 0 rfl rfl ?_
  refine gM_0_16 F wm_778 dX7_notes_1 ?_
  refine z_bipush (v := 24) F dX7_notes_4 (by decide +kernel) ?_
  refine z_icmp_ne (tgt := 49) F hf dX7_notes_6 (by decide) (fun hf => ?_) (fun hf => ?_)
  · exact z_sub [0] rfl (z_X7_notes_49 F n X hf)
  · refine z_iconst (v := 0) F dX7_notes_9 (by decide +kernel) ?_
    refine z_istore_n (L' := [(1, .int 0), (0, .ref (ad 0))]) F dX7_notes_10 rfl (Nat.le_of_ble_eq_true rfl) rfl ?_
    exact z_sub [1, 0] rfl (z_X7_notes_11 F n n X 0 hf)
theorem c_X7_notes {D : va_G} {cI cZ : ClassId} {ad : Nat → Nat} {R : KX} (n : Nat) (X : KX)  (hf : f_X7_notes n X = some R) : zMV (yM D cI cZ ad) yX7_notes cX7_notes 2 none 2 [.ref (ad 0)] X R := zMV_of (by decide +kernel) (Nat.le_of_ble_eq_true rfl) (fun z F => z_sub [0] rfl (z_X7_notes F n X hf))
theorem k_X7_notes {z : ZC} {D : va_G} {cI cZ : ClassId} {ad : Nat → Nat} {cc : ByteArray} {own : String} {nL d pc index : Nat} {ret : Option FieldType} {Q : State → Prop} {X : KX} {L : List (Nat × Value)} {rest : List Value} {n : Nat} (F : ZF z (yM D cI cZ ad) cc own nL ret d) (hd : 2 + 1 ≤ d) (hw : Cond.methodLink own index yX7_notes ∈ wsA) (hst : (rest.map fun v => v.category).sum ≤ 8) {β : Type} {e : KX → Option β} {r : β} (hf : zB1 (f_X7_notes n X) e = some r) (hdg : decode cc pc = .ok (.invokevirtual index, 3)) (kk : ∀ X2 : KX, e X2 = some r → Z z (yM D cI cZ ad) nL Q X2 (pc + 3) L rest) : Z z (yM D cI cZ ad) nL Q X pc L (.ref (ad 0) :: rest) := by
  obtain ⟨v, h1, h2⟩ := zB1_some hf
  exact z_cVV (As := []) F (c_X7_notes n X h1) kn_X7_notes kv_X7_notes hw (q0 := 0) rfl rfl hd rfl hst hdg rfl (kk v h2)
theorem kv_X7_invite : zKv yX7_invite := ⟨wm_932, wm_933⟩
theorem kn_X7_invite : zKn yX7_invite cX7_invite 2 (some .int) 1 := ⟨wm_934, wm_62, by decide +kernel, by decide⟩
set_option maxHeartbeats 4000000 in
set_option maxRecDepth 100000 in
theorem z_X7_invite {z : ZC} {D : va_G} {cI cZ : ClassId} {ad : Nat → Nat} {R : Int32 × KX} (F : ZF z (yM D cI cZ ad) cX7_invite RX7 2 (some .int) 3) (n : Nat) (X : KX) (a1 : Int32) (hf : f_X7_invite n X a1 = some R) : Z z (yM D cI cZ ad) 2 (zQI z (yM D cI cZ ad) R) X 0 [(0, .ref (ad 0)), (1, .int a1)] [] := by
  unfold f_X7_invite at hf
  refine z_aload_n F dX7_invite_0 0 rfl rfl ?_
  refine z_iload_n F dX7_invite_1 1 rfl rfl ?_
  refine k_X7_isGuest F (by decide) wm_935 (Nat.le_of_ble_eq_true rfl) hf dX7_invite_2 (fun r_1 hf => ?_)
  refine z_if_ne (tgt := 11) F hf dX7_invite_5 (by decide) (fun hf => ?_) (fun hf => ?_)
  · refine z_aload_n F dX7_invite_11 0 rfl rfl ?_
    refine gM_0_13 F wm_775 dX7_invite_12 ?_
    refine z_iconst (v := 3) F dX7_invite_15 (by decide +kernel) ?_
    refine lM_6 F hf dX7_invite_16 (fun hf => ?_)
    refine z_if_ge (tgt := 38) F hf dX7_invite_17 (by decide) (fun hf => ?_) (fun hf => ?_)
    · refine z_ldc F wm_947 dX7_invite_38 ?_
      exact z_iret F dX7_invite_40 (Option.some.inj hf)
    · refine z_aload_n F dX7_invite_20 0 rfl rfl ?_
      refine z_iload_n F dX7_invite_21 1 rfl rfl ?_
      refine k_X7_isToCome F (by decide) wm_939 (Nat.le_of_ble_eq_true rfl) hf dX7_invite_22 (fun r_2 hf => ?_)
      refine z_if_eq (tgt := 38) F hf dX7_invite_25 (by decide) (fun hf => ?_) (fun hf => ?_)
      · refine z_ldc F wm_947 dX7_invite_38 ?_
        exact z_iret F dX7_invite_40 (Option.some.inj hf)
      · refine z_aload_n F dX7_invite_28 0 rfl rfl ?_
        refine gM_0_13 F wm_775 dX7_invite_29 ?_
        refine z_iconst (v := 5) F dX7_invite_32 (by decide +kernel) ?_
        refine lM_6 F hf dX7_invite_33 (fun hf => ?_)
        refine z_iconst (v := 1) F dX7_invite_34 (by decide +kernel) ?_
        refine z_icmp_ne (tgt := 41) F hf dX7_invite_35 (by decide) (fun hf => ?_) (fun hf => ?_)
        · refine z_aload_n F dX7_invite_41 0 rfl rfl ?_
          refine k_X7_notes F (by decide) wm_948 (Nat.le_of_ble_eq_true rfl) hf dX7_invite_42 (fun X_3 hf => ?_)
          refine z_aload_n F dX7_invite_45 0 rfl rfl ?_
          refine gM_0_13 F wm_775 dX7_invite_46 ?_
          refine z_iconst (v := 3) F dX7_invite_49 (by decide +kernel) ?_
          refine z_iload_n F dX7_invite_50 1 rfl rfl ?_
          refine sM_6 F hf dX7_invite_51 (fun X_4 hf => ?_)
          refine z_aload_n F dX7_invite_52 0 rfl rfl ?_
          refine gM_0_13 F wm_775 dX7_invite_53 ?_
          refine z_iconst (v := 4) F dX7_invite_56 (by decide +kernel) ?_
          refine z_iconst (v := 0) F dX7_invite_57 (by decide +kernel) ?_
          refine sM_6 F hf dX7_invite_58 (fun X_5 hf => ?_)
          refine z_aload_n F dX7_invite_59 0 rfl rfl ?_
          refine gM_0_13 F wm_775 dX7_invite_60 ?_
          refine z_bipush (v := 41) F dX7_invite_63 (by decide +kernel) ?_
          refine z_iconst (v := 5) F dX7_invite_65 (by decide +kernel) ?_
          refine z_iload_n F dX7_invite_66 1 rfl rfl ?_
          refine z_imul F dX7_invite_67 ?_
          refine z_iadd F dX7_invite_68 ?_
          refine z_iconst (v := 3) F dX7_invite_69 (by decide +kernel) ?_
          refine z_iadd F dX7_invite_70 ?_
          refine z_iconst (v := 1) F dX7_invite_71 (by decide +kernel) ?_
          refine sM_6 F hf dX7_invite_72 (fun X_6 hf => ?_)
          refine z_aload_n F dX7_invite_73 0 rfl rfl ?_
          refine z_iload_n F dX7_invite_74 1 rfl rfl ?_
          refine z_iconst (v := 0) F dX7_invite_75 (by decide +kernel) ?_
          refine k_X7_of F (by decide) wm_943 (Nat.le_of_ble_eq_true rfl) hf dX7_invite_76 (fun r_7 hf => ?_)
          exact z_iret F dX7_invite_79 (Option.some.inj hf)
        · refine z_ldc F wm_947 dX7_invite_38 ?_
          exact z_iret F dX7_invite_40 (Option.some.inj hf)
  · refine z_ldc F wm_846 dX7_invite_8 ?_
    exact z_iret F dX7_invite_10 (Option.some.inj hf)
theorem c_X7_invite {D : va_G} {cI cZ : ClassId} {ad : Nat → Nat} {R : Int32 × KX} (n : Nat) (X : KX) (a1 : Int32) (hf : f_X7_invite n X a1 = some R) : zMI (yM D cI cZ ad) yX7_invite cX7_invite 2 (some .int) 3 [.ref (ad 0), .int a1] X R := zMI_of (by decide +kernel) (Nat.le_of_ble_eq_true rfl) (fun z F => z_sub [0, 1] rfl (z_X7_invite F n X a1 hf))
theorem k_X7_invite {z : ZC} {D : va_G} {cI cZ : ClassId} {ad : Nat → Nat} {cc : ByteArray} {own : String} {nL d pc index : Nat} {ret : Option FieldType} {Q : State → Prop} {X : KX} {L : List (Nat × Value)} {rest : List Value} {n : Nat} {a1 : Int32} (F : ZF z (yM D cI cZ ad) cc own nL ret d) (hd : 3 + 1 ≤ d) (hw : Cond.methodLink own index yX7_invite ∈ wsA) (hst : (rest.map fun v => v.category).sum ≤ 8) {β : Type} {e : Int32 → KX → Option β} {r : β} (hf : zB2 (f_X7_invite n X a1) e = some r) (hdg : decode cc pc = .ok (.invokevirtual index, 3)) (kk : ∀ (v : Int32) (X2 : KX), e v X2 = some r → Z z (yM D cI cZ ad) nL Q X2 (pc + 3) L (.int v :: rest)) : Z z (yM D cI cZ ad) nL Q X pc L (.int a1 :: .ref (ad 0) :: rest) := by
  obtain ⟨v, X2, h1, h2⟩ := zB2_some hf
  exact z_cVI (As := [.int a1]) F (c_X7_invite n X a1 h1) kn_X7_invite kv_X7_invite hw (q0 := 0) rfl rfl hd rfl hst hdg rfl (kk v X2 h2)
theorem kv_X7_isHint : zKv yX7_isHint := ⟨wm_958, wm_34⟩
theorem kn_X7_isHint : zKn yX7_isHint cX7_isHint 2 (some .boolean) 1 := ⟨wm_959, wm_62, by decide +kernel, by decide⟩
set_option maxHeartbeats 4000000 in
set_option maxRecDepth 100000 in
theorem z_X7_isHint {z : ZC} {D : va_G} {cI cZ : ClassId} {ad : Nat → Nat} {r : Int32} (F : ZF z (yM D cI cZ ad) cX7_isHint RX7 2 (some .boolean) 2) (X : KX) (a1 : Int32) (hf : f_X7_isHint X a1 = some r) : Z z (yM D cI cZ ad) 2 (zQI z (yM D cI cZ ad) (r, X)) X 0 [(0, .ref (ad 0)), (1, .int a1)] [] := by
  unfold f_X7_isHint at hf
  refine z_iload_n F dX7_isHint_0 1 rfl rfl ?_
  refine z_iconst (v := 0) F dX7_isHint_1 (by decide +kernel) ?_
  refine z_aload_n F dX7_isHint_2 0 rfl rfl ?_
  refine gM_0_13 F wm_775 dX7_isHint_3 ?_
  refine z_bipush (v := 7) F dX7_isHint_6 (by decide +kernel) ?_
  refine lM_6 F hf dX7_isHint_8 (fun hf => ?_)
  refine z_iconst (v := 1) F dX7_isHint_9 (by decide +kernel) ?_
  refine z_isub F dX7_isHint_10 ?_
  refine k_X7_in F (by decide) wm_843 (Nat.le_of_ble_eq_true rfl) dX7_isHint_11 ?_
  exact z_zret F (bz_X7_in _ _ _) dX7_isHint_14 (Prod.ext (Option.some.inj hf) rfl)
theorem c_X7_isHint {D : va_G} {cI cZ : ClassId} {ad : Nat → Nat} {r : Int32} (X : KX) (a1 : Int32) (hf : f_X7_isHint X a1 = some r) : zMI (yM D cI cZ ad) yX7_isHint cX7_isHint 2 (some .boolean) 2 [.ref (ad 0), .int a1] X (r, X) := zMI_of (by decide +kernel) (Nat.le_of_ble_eq_true rfl) (fun z F => z_sub [0, 1] rfl (z_X7_isHint F X a1 hf))
theorem k_X7_isHint {z : ZC} {D : va_G} {cI cZ : ClassId} {ad : Nat → Nat} {cc : ByteArray} {own : String} {nL d pc index : Nat} {ret : Option FieldType} {Q : State → Prop} {X : KX} {L : List (Nat × Value)} {rest : List Value} {a1 : Int32} (F : ZF z (yM D cI cZ ad) cc own nL ret d) (hd : 2 + 1 ≤ d) (hw : Cond.methodLink own index yX7_isHint ∈ wsA) (hst : (rest.map fun v => v.category).sum ≤ 8) {β : Type} {e : Int32 → Option β} {r : β} (hf : zB1 (f_X7_isHint X a1) e = some r) (hdg : decode cc pc = .ok (.invokevirtual index, 3)) (kk : ∀ v : Int32, e v = some r → Z z (yM D cI cZ ad) nL Q X (pc + 3) L (.int v :: rest)) : Z z (yM D cI cZ ad) nL Q X pc L (.int a1 :: .ref (ad 0) :: rest) := by
  obtain ⟨v, h1, h2⟩ := zB1_some hf
  exact z_cVI (As := [.int a1]) F (c_X7_isHint X a1 h1) kn_X7_isHint kv_X7_isHint hw (q0 := 0) rfl rfl hd rfl hst hdg rfl (kk v h2)
theorem kv_X7_has : Cond.static yX7_has ∈ wsA := wm_961
theorem kn_X7_has : zKn yX7_has cX7_has 2 (some .boolean) 2 := ⟨wm_962, wm_62, by decide +kernel, by decide⟩
set_option maxHeartbeats 4000000 in
set_option maxRecDepth 100000 in
theorem z_X7_has {z : ZC} {D : va_G} {cI cZ : ClassId} {ad : Nat → Nat} {r : Int32} (F : ZF z (yM D cI cZ ad) cX7_has RX7 2 (some .boolean) 1) {X : KX} (a0 : Int32) (a1 : Int32) (hf : f_X7_has a0 a1 = r) : Z z (yM D cI cZ ad) 2 (zQI z (yM D cI cZ ad) (r, X)) X 0 [(0, .int a0), (1, .int a1)] [] := by
  unfold f_X7_has at hf
  refine z_iload_n F dX7_has_0 0 rfl rfl ?_
  refine z_iload_n F dX7_has_1 1 rfl rfl ?_
  refine z_ishr F dX7_has_2 ?_
  refine z_iconst (v := 1) F dX7_has_3 (by decide +kernel) ?_
  refine z_iand F dX7_has_4 ?_
  refine z_iconst (v := 1) F dX7_has_5 (by decide +kernel) ?_
  refine z_icmp_ne (tgt := 13) F hf dX7_has_6 (by decide) (fun hf => ?_) (fun hf => ?_)
  · refine z_iconst (v := 0) F dX7_has_13 (by decide +kernel) ?_
    exact z_zret F (by decide) dX7_has_14 (Prod.ext hf rfl)
  · refine z_iconst (v := 1) F dX7_has_9 (by decide +kernel) ?_
    refine z_goto (tgt := 14) F dX7_has_10 (by decide) ?_
    exact z_zret F (by decide) dX7_has_14 (Prod.ext hf rfl)
theorem c_X7_has {D : va_G} {cI cZ : ClassId} {ad : Nat → Nat} (X : KX) (a0 : Int32) (a1 : Int32) : zMI (yM D cI cZ ad) yX7_has cX7_has 2 (some .boolean) 1 [.int a0, .int a1] X (f_X7_has a0 a1, X) := zMI_of (by decide +kernel) (Nat.le_of_ble_eq_true rfl) (fun z F => z_sub [0, 1] rfl (z_X7_has F a0 a1 rfl))
theorem k_X7_has {z : ZC} {D : va_G} {cI cZ : ClassId} {ad : Nat → Nat} {cc : ByteArray} {own : String} {nL d pc index : Nat} {ret : Option FieldType} {Q : State → Prop} {X : KX} {L : List (Nat × Value)} {rest : List Value} {a0 a1 : Int32} (F : ZF z (yM D cI cZ ad) cc own nL ret d) (hd : 1 + 1 ≤ d) (hw : Cond.methodLink own index yX7_has ∈ wsA) (hst : (rest.map fun v => v.category).sum ≤ 8) (hdg : decode cc pc = .ok (.invokestatic index, 3)) (kk : Z z (yM D cI cZ ad) nL Q X (pc + 3) L (.int (f_X7_has a0 a1) :: rest)) : Z z (yM D cI cZ ad) nL Q X pc L (.int a1 :: .int a0 :: rest) := z_cSI (As := [.int a0, .int a1]) F (c_X7_has X a0 a1) kn_X7_has kv_X7_has hw hd rfl hst hdg rfl kk
theorem k_X7_hasN {z : ZC} {D : va_G} {cI cZ : ClassId} {ad : Nat → Nat} {cc : ByteArray} {own : String} {nL d pc index : Nat} {ret : Option FieldType} {Q : State → Prop} {X : KX} {L : List (Nat × Value)} {rest : List Value} {a0 a1 : Int32} (F : ZF z (yM D cI cZ ad) cc own nL ret d) (hd : 1 + 1 ≤ d) (hw : ∀ s, zN s → va_Nw (.methodLinkNest own index yX7_has "AilingKing") s) (hst : (rest.map fun v => v.category).sum ≤ 8) (hdg : decode cc pc = .ok (.invokestatic index, 3)) (kk : Z z (yM D cI cZ ad) nL Q X (pc + 3) L (.int (f_X7_has a0 a1) :: rest)) : Z z (yM D cI cZ ad) nL Q X pc L (.int a1 :: .int a0 :: rest) := z_cNI (As := [.int a0, .int a1]) F (c_X7_has X a0 a1) kn_X7_has kv_X7_has hw hd rfl hst hdg rfl kk
theorem bz_X7_has (a0 : Int32) (a1 : Int32) : f_X7_has a0 a1 = 0 ∨ f_X7_has a0 a1 = 1 := by
  unfold f_X7_has
  repeat' split
  all_goals first | exact Or.inl rfl | exact Or.inr rfl | exact bz_X6_isBelow _ _ | exact bz_X5_isFigure _ | exact bz_X2_isGuest _ _ | exact bz_X6_has _ _ | exact bz_X2_isHint _ _ | exact bz_X6_isOneOf _ _ | exact bz_X7_in _ _ _ | exact bz_X7_isRow _ | exact bz_X7_isWell _
theorem kv_X7_ones : Cond.static yX7_ones ∈ wsA := wm_964
theorem kn_X7_ones : zKn yX7_ones cX7_ones 3 (some .int) 1 := ⟨wm_965, wm_62, by decide +kernel, by decide⟩
set_option maxHeartbeats 4000000 in
set_option maxRecDepth 100000 in
theorem z_X7_ones_4 {z : ZC} {D : va_G} {cI cZ : ClassId} {ad : Nat → Nat} {r : Int32} (F : ZF z (yM D cI cZ ad) cX7_ones RX7 3 (some .int) 1) {X : KX} (n : Nat) : ∀ (t : Nat) (v0 : Int32) (v1 : Int32) (v2 : Int32), f_X7_ones_4 n t v0 v1 v2 = some r → Z z (yM D cI cZ ad) 3 (zQI z (yM D cI cZ ad) (r, X)) X 4 [(0, .int v0), (1, .int v1), (2, .int v2)] [] := by
  intro t
  induction t with
  | zero => intro v0 v1 v2 hf; rw [f_X7_ones_4] at hf; exact zNone hf
  | succ t ih =>
    intro v0 v1 v2 hf
    rw [f_X7_ones_4] at hf
    refine z_iload_n F dX7_ones_4 2 rfl rfl ?_
    refine z_bipush (v := 8) F dX7_ones_5 (by decide +kernel) ?_
    refine z_icmp_ge (tgt := 24) F hf dX7_ones_7 (by decide) (fun hf => ?_) (fun hf => ?_)
    · refine z_iload_n F dX7_ones_24 1 rfl rfl ?_
      exact z_iret F dX7_ones_25 (Prod.ext (Option.some.inj hf) rfl)
    · refine z_iload_n F dX7_ones_10 1 rfl rfl ?_
      refine z_iload_n F dX7_ones_11 0 rfl rfl ?_
      refine z_iload_n F dX7_ones_12 2 rfl rfl ?_
      refine z_ishr F dX7_ones_13 ?_
      refine z_iconst (v := 1) F dX7_ones_14 (by decide +kernel) ?_
      refine z_iand F dX7_ones_15 ?_
      refine z_iadd F dX7_ones_16 ?_
      refine z_top hf (fun v1_1 hf => ?_)
      refine z_istore_n (L' := [(1, .int v1_1), (0, .int v0), (2, .int v2)]) F dX7_ones_17 rfl (Nat.le_of_ble_eq_true rfl) rfl ?_
      refine z_iinc (w := 1) (L' := fun v2_2 => [(2, .int v2_2), (1, .int v1_1), (0, .int v0)]) F hf dX7_ones_18 2 rfl (by decide +kernel) (Nat.le_of_ble_eq_true rfl) (fun _ => rfl) (fun v2_2 hf => ?_)
      refine z_goto (tgt := 4) F dX7_ones_21 (by decide) ?_
      exact z_sub [2, 1, 0] rfl (ih v0 v1_1 v2_2 hf)
set_option maxHeartbeats 4000000 in
set_option maxRecDepth 100000 in
theorem z_X7_ones {z : ZC} {D : va_G} {cI cZ : ClassId} {ad : Nat → Nat} {r : Int32} (F : ZF z (yM D cI cZ ad) cX7_ones RX7 3 (some .int) 1) {X : KX} (n : Nat) (a0 : Int32) (hf : f_X7_ones n a0 = some r) : Z z (yM D cI cZ ad) 3 (zQI z (yM D cI cZ ad) (r, X)) X 0 [(0, .int a0)] [] := by
  unfold f_X7_ones at hf
  refine z_iconst (v := 0) F dX7_ones_0 (by decide +kernel) ?_
  refine z_istore_n (L' := [(1, .int 0), (0, .int a0)]) F dX7_ones_1 rfl (Nat.le_of_ble_eq_true rfl) rfl ?_
  refine z_iconst (v := 0) F dX7_ones_2 (by decide +kernel) ?_
  refine z_istore_n (L' := [(2, .int 0), (1, .int 0), (0, .int a0)]) F dX7_ones_3 rfl (Nat.le_of_ble_eq_true rfl) rfl ?_
  exact z_sub [2, 1, 0] rfl (z_X7_ones_4 F n n a0 0 0 hf)
theorem c_X7_ones {D : va_G} {cI cZ : ClassId} {ad : Nat → Nat} {r : Int32} (n : Nat) (X : KX) (a0 : Int32) (hf : f_X7_ones n a0 = some r) : zMI (yM D cI cZ ad) yX7_ones cX7_ones 3 (some .int) 1 [.int a0] X (r, X) := zMI_of (by decide +kernel) (Nat.le_of_ble_eq_true rfl) (fun z F => z_sub [0] rfl (z_X7_ones F n a0 hf))
theorem k_X7_ones {z : ZC} {D : va_G} {cI cZ : ClassId} {ad : Nat → Nat} {cc : ByteArray} {own : String} {nL d pc index : Nat} {ret : Option FieldType} {Q : State → Prop} {X : KX} {L : List (Nat × Value)} {rest : List Value} {n : Nat} {a0 : Int32} (F : ZF z (yM D cI cZ ad) cc own nL ret d) (hd : 1 + 1 ≤ d) (hw : Cond.methodLink own index yX7_ones ∈ wsA) (hst : (rest.map fun v => v.category).sum ≤ 8) {β : Type} {e : Int32 → Option β} {r : β} (hf : zB1 (f_X7_ones n a0) e = some r) (hdg : decode cc pc = .ok (.invokestatic index, 3)) (kk : ∀ v : Int32, e v = some r → Z z (yM D cI cZ ad) nL Q X (pc + 3) L (.int v :: rest)) : Z z (yM D cI cZ ad) nL Q X pc L (.int a0 :: rest) := by
  obtain ⟨v, h1, h2⟩ := zB1_some hf
  exact z_cSI (As := [.int a0]) F (c_X7_ones n X a0 h1) kn_X7_ones kv_X7_ones hw hd rfl hst hdg rfl (kk v h2)
theorem k_X7_onesN {z : ZC} {D : va_G} {cI cZ : ClassId} {ad : Nat → Nat} {cc : ByteArray} {own : String} {nL d pc index : Nat} {ret : Option FieldType} {Q : State → Prop} {X : KX} {L : List (Nat × Value)} {rest : List Value} {n : Nat} {a0 : Int32} (F : ZF z (yM D cI cZ ad) cc own nL ret d) (hd : 1 + 1 ≤ d) (hw : ∀ s, zN s → va_Nw (.methodLinkNest own index yX7_ones "AilingKing") s) (hst : (rest.map fun v => v.category).sum ≤ 8) {β : Type} {e : Int32 → Option β} {r : β} (hf : zB1 (f_X7_ones n a0) e = some r) (hdg : decode cc pc = .ok (.invokestatic index, 3)) (kk : ∀ v : Int32, e v = some r → Z z (yM D cI cZ ad) nL Q X (pc + 3) L (.int v :: rest)) : Z z (yM D cI cZ ad) nL Q X pc L (.int a0 :: rest) := by
  obtain ⟨v, h1, h2⟩ := zB1_some hf
  exact z_cNI (As := [.int a0]) F (c_X7_ones n X a0 h1) kn_X7_ones kv_X7_ones hw hd rfl hst hdg rfl (kk v h2)
theorem kv_X7_leadsTo : zKv yX7_leadsTo := ⟨wm_972, wm_36⟩
theorem kn_X7_leadsTo : zKn yX7_leadsTo cX7_leadsTo 9 (some .int) 3 := ⟨wm_973, wm_62, by decide +kernel, by decide⟩
set_option maxHeartbeats 4000000 in
set_option maxRecDepth 100000 in
theorem z_X7_leadsTo_88 {z : ZC} {D : va_G} {cI cZ : ClassId} {ad : Nat → Nat} {r : Int32} (F : ZF z (yM D cI cZ ad) cX7_leadsTo RX7 9 (some .int) 1) (X : KX) (v7 : Int32) (hf : f_X7_leadsTo_88 X v7 = some r) : Z z (yM D cI cZ ad) 9 (zQI z (yM D cI cZ ad) (r, X)) X 88 [(7, .int v7)] [] := by
  unfold f_X7_leadsTo_88 at hf
  refine z_iload F dX7_leadsTo_88 0 rfl ?_
  refine z_goto (tgt := 94) F dX7_leadsTo_90 (by decide) ?_
  exact z_iret F dX7_leadsTo_94 (Prod.ext (Option.some.inj hf) rfl)
set_option maxHeartbeats 4000000 in
set_option maxRecDepth 100000 in
theorem z_X7_leadsTo_70 {z : ZC} {D : va_G} {cI cZ : ClassId} {ad : Nat → Nat} {r : Int32} (F : ZF z (yM D cI cZ ad) cX7_leadsTo RX7 9 (some .int) 1) (X : KX) (s0 : Int32) (v2 : Int32) (v3 : Int32) (v5 : Int32) (v7 : Int32) (hf : f_X7_leadsTo_70 X s0 v2 v3 v5 v7 = some r) : Z z (yM D cI cZ ad) 9 (zQI z (yM D cI cZ ad) (r, X)) X 70 [(2, .int v2), (3, .int v3), (5, .int v5), (7, .int v7)] [.int s0] := by
  unfold f_X7_leadsTo_70 at hf
  refine z_istore (L' := [(8, .int s0), (2, .int v2), (3, .int v3), (5, .int v5), (7, .int v7)]) F dX7_leadsTo_70 (Nat.le_of_ble_eq_true rfl) rfl ?_
  refine z_iload F dX7_leadsTo_72 0 rfl ?_
  refine z_if_eq (tgt := 93) F hf dX7_leadsTo_74 (by decide) (fun hf => ?_) (fun hf => ?_)
  · refine z_iload_n F dX7_leadsTo_93 1 rfl rfl ?_
    exact z_iret F dX7_leadsTo_94 (Prod.ext (Option.some.inj hf) rfl)
  · refine z_iload F dX7_leadsTo_77 3 rfl ?_
    refine z_iconst (v := 3) F dX7_leadsTo_79 (by decide +kernel) ?_
    refine z_icmp_ne (tgt := 88) F hf dX7_leadsTo_80 (by decide) (fun hf => ?_) (fun hf => ?_)
    · exact z_sub [4] rfl (z_X7_leadsTo_88 F X v7 hf)
    · refine z_iload_n F dX7_leadsTo_83 2 rfl rfl ?_
      refine z_iconst (v := 2) F dX7_leadsTo_84 (by decide +kernel) ?_
      refine z_icmp_ge (tgt := 93) F hf dX7_leadsTo_85 (by decide) (fun hf => ?_) (fun hf => ?_)
      · refine z_iload_n F dX7_leadsTo_93 1 rfl rfl ?_
        exact z_iret F dX7_leadsTo_94 (Prod.ext (Option.some.inj hf) rfl)
      · exact z_sub [4] rfl (z_X7_leadsTo_88 F X v7 hf)
set_option maxHeartbeats 4000000 in
set_option maxRecDepth 100000 in
theorem z_X7_leadsTo_69 {z : ZC} {D : va_G} {cI cZ : ClassId} {ad : Nat → Nat} {r : Int32} (F : ZF z (yM D cI cZ ad) cX7_leadsTo RX7 9 (some .int) 1) (X : KX) (v2 : Int32) (v3 : Int32) (v5 : Int32) (v7 : Int32) (hf : f_X7_leadsTo_69 X v2 v3 v5 v7 = some r) : Z z (yM D cI cZ ad) 9 (zQI z (yM D cI cZ ad) (r, X)) X 69 [(2, .int v2), (3, .int v3), (5, .int v5), (7, .int v7)] [] := by
  unfold f_X7_leadsTo_69 at hf
  refine z_iconst (v := 0) F dX7_leadsTo_69 (by decide +kernel) ?_
  exact z_sub [0, 1, 2, 3] rfl (z_X7_leadsTo_70 F X 0 v2 v3 v5 v7 hf)
set_option maxHeartbeats 4000000 in
set_option maxRecDepth 100000 in
theorem z_X7_leadsTo_65 {z : ZC} {D : va_G} {cI cZ : ClassId} {ad : Nat → Nat} {r : Int32} (F : ZF z (yM D cI cZ ad) cX7_leadsTo RX7 9 (some .int) 1) (X : KX) (v2 : Int32) (v3 : Int32) (v5 : Int32) (v7 : Int32) (hf : f_X7_leadsTo_65 X v2 v3 v5 v7 = some r) : Z z (yM D cI cZ ad) 9 (zQI z (yM D cI cZ ad) (r, X)) X 65 [(2, .int v2), (3, .int v3), (5, .int v5), (7, .int v7)] [] := by
  unfold f_X7_leadsTo_65 at hf
  refine z_iconst (v := 1) F dX7_leadsTo_65 (by decide +kernel) ?_
  refine z_goto (tgt := 70) F dX7_leadsTo_66 (by decide) ?_
  exact z_sub [0, 1, 2, 3] rfl (z_X7_leadsTo_70 F X 1 v2 v3 v5 v7 hf)
set_option maxHeartbeats 4000000 in
set_option maxRecDepth 100000 in
theorem z_X7_leadsTo {z : ZC} {D : va_G} {cI cZ : ClassId} {ad : Nat → Nat} {r : Int32} (F : ZF z (yM D cI cZ ad) cX7_leadsTo RX7 9 (some .int) 1) (X : KX) (a1 : Int32) (a2 : Int32) (a3 : Int32) (hf : f_X7_leadsTo X a1 a2 a3 = some r) : Z z (yM D cI cZ ad) 9 (zQI z (yM D cI cZ ad) (r, X)) X 0 [(0, .ref (ad 0)), (1, .int a1), (2, .int a2), (3, .int a3)] [] := by
  unfold f_X7_leadsTo at hf
  refine z_bipush (v := 9) F dX7_leadsTo_0 (by decide +kernel) ?_
  refine z_iconst (v := 4) F dX7_leadsTo_2 (by decide +kernel) ?_
  refine z_iload_n F dX7_leadsTo_3 1 rfl rfl ?_
  refine z_imul F dX7_leadsTo_4 ?_
  refine z_iadd F dX7_leadsTo_5 ?_
  refine z_top hf (fun v4_1 hf => ?_)
  refine z_istore (L' := [(4, .int v4_1), (0, .ref (ad 0)), (1, .int a1), (2, .int a2), (3, .int a3)]) F dX7_leadsTo_6 (Nat.le_of_ble_eq_true rfl) rfl ?_
  refine z_aload_n F dX7_leadsTo_8 1 rfl rfl ?_
  refine gM_0_13 F wm_775 dX7_leadsTo_9 ?_
  refine z_iload F dX7_leadsTo_12 0 rfl ?_
  refine lM_6 F hf dX7_leadsTo_14 (fun hf => ?_)
  refine z_top hf (fun v5_2 hf => ?_)
  refine z_istore (L' := [(5, .int v5_2), (4, .int v4_1), (0, .ref (ad 0)), (1, .int a1), (2, .int a2), (3, .int a3)]) F dX7_leadsTo_15 (Nat.le_of_ble_eq_true rfl) rfl ?_
  refine z_aload_n F dX7_leadsTo_17 2 rfl rfl ?_
  refine gM_0_13 F wm_775 dX7_leadsTo_18 ?_
  refine z_iload F dX7_leadsTo_21 1 rfl ?_
  refine z_iconst (v := 1) F dX7_leadsTo_23 (by decide +kernel) ?_
  refine z_iadd F dX7_leadsTo_24 ?_
  refine lM_6 F hf dX7_leadsTo_25 (fun hf => ?_)
  refine z_top hf (fun v6_3 hf => ?_)
  refine z_istore (L' := [(6, .int v6_3), (5, .int v5_2), (4, .int v4_1), (0, .ref (ad 0)), (1, .int a1), (2, .int a2), (3, .int a3)]) F dX7_leadsTo_26 (Nat.le_of_ble_eq_true rfl) rfl ?_
  refine z_aload_n F dX7_leadsTo_28 3 rfl rfl ?_
  refine gM_0_13 F wm_775 dX7_leadsTo_29 ?_
  refine z_iload F dX7_leadsTo_32 2 rfl ?_
  refine z_iconst (v := 2) F dX7_leadsTo_34 (by decide +kernel) ?_
  refine z_iadd F dX7_leadsTo_35 ?_
  refine lM_6 F hf dX7_leadsTo_36 (fun hf => ?_)
  refine z_top hf (fun v7_4 hf => ?_)
  refine z_istore (L' := [(7, .int v7_4), (6, .int v6_3), (5, .int v5_2), (4, .int v4_1), (0, .ref (ad 0)), (1, .int a1), (2, .int a2), (3, .int a3)]) F dX7_leadsTo_37 (Nat.le_of_ble_eq_true rfl) rfl ?_
  refine z_iload F dX7_leadsTo_39 2 rfl ?_
  refine z_iconst (v := 4) F dX7_leadsTo_41 (by decide +kernel) ?_
  refine z_icmp_ge (tgt := 95) F hf dX7_leadsTo_42 (by decide) (fun hf => ?_) (fun hf => ?_)
  · refine z_iload_n F dX7_leadsTo_95 6 rfl rfl ?_
    refine z_iload F dX7_leadsTo_96 0 rfl ?_
    refine z_icmp_ne (tgt := 106) F hf dX7_leadsTo_98 (by decide) (fun hf => ?_) (fun hf => ?_)
    · refine z_iload F dX7_leadsTo_106 2 rfl ?_
      refine z_iconst (v := 5) F dX7_leadsTo_108 (by decide +kernel) ?_
      refine z_icmp_ne (tgt := 123) F hf dX7_leadsTo_109 (by decide) (fun hf => ?_) (fun hf => ?_)
      · refine z_iload_n F dX7_leadsTo_123 6 rfl rfl ?_
        exact z_iret F dX7_leadsTo_124 (Prod.ext (Option.some.inj hf) rfl)
      · refine z_iload_n F dX7_leadsTo_112 6 rfl rfl ?_
        refine z_iload F dX7_leadsTo_113 1 rfl ?_
        refine z_icmp_ne (tgt := 123) F hf dX7_leadsTo_115 (by decide) (fun hf => ?_) (fun hf => ?_)
        · refine z_iload_n F dX7_leadsTo_123 6 rfl rfl ?_
          exact z_iret F dX7_leadsTo_124 (Prod.ext (Option.some.inj hf) rfl)
        · refine z_iload F dX7_leadsTo_118 0 rfl ?_
          refine z_goto (tgt := 124) F dX7_leadsTo_120 (by decide) ?_
          exact z_iret F dX7_leadsTo_124 (Prod.ext (Option.some.inj hf) rfl)
    · refine z_iload F dX7_leadsTo_101 1 rfl ?_
      refine z_goto (tgt := 124) F dX7_leadsTo_103 (by decide) ?_
      exact z_iret F dX7_leadsTo_124 (Prod.ext (Option.some.inj hf) rfl)
  · refine z_iload_n F dX7_leadsTo_45 6 rfl rfl ?_
    refine z_iload F dX7_leadsTo_46 1 rfl ?_
    refine z_icmp_eq (tgt := 65) F hf dX7_leadsTo_48 (by decide) (fun hf => ?_) (fun hf => ?_)
    · exact z_sub [6, 7, 2, 0] rfl (z_X7_leadsTo_65 F X a2 a3 v5_2 v7_4 hf)
    · refine z_iload F dX7_leadsTo_51 2 rfl ?_
      refine z_iconst (v := 2) F dX7_leadsTo_53 (by decide +kernel) ?_
      refine z_icmp_ne (tgt := 69) F hf dX7_leadsTo_54 (by decide) (fun hf => ?_) (fun hf => ?_)
      · exact z_sub [6, 7, 2, 0] rfl (z_X7_leadsTo_69 F X a2 a3 v5_2 v7_4 hf)
      · refine z_iload_n F dX7_leadsTo_57 6 rfl rfl ?_
        refine z_iload F dX7_leadsTo_58 1 rfl ?_
        refine z_iconst (v := 1) F dX7_leadsTo_60 (by decide +kernel) ?_
        refine z_isub F dX7_leadsTo_61 ?_
        refine z_icmp_ne (tgt := 69) F hf dX7_leadsTo_62 (by decide) (fun hf => ?_) (fun hf => ?_)
        · exact z_sub [6, 7, 2, 0] rfl (z_X7_leadsTo_69 F X a2 a3 v5_2 v7_4 hf)
        · exact z_sub [6, 7, 2, 0] rfl (z_X7_leadsTo_65 F X a2 a3 v5_2 v7_4 hf)
theorem c_X7_leadsTo {D : va_G} {cI cZ : ClassId} {ad : Nat → Nat} {r : Int32} (X : KX) (a1 : Int32) (a2 : Int32) (a3 : Int32) (hf : f_X7_leadsTo X a1 a2 a3 = some r) : zMI (yM D cI cZ ad) yX7_leadsTo cX7_leadsTo 9 (some .int) 1 [.ref (ad 0), .int a1, .int a2, .int a3] X (r, X) := zMI_of (by decide +kernel) (Nat.le_of_ble_eq_true rfl) (fun z F => z_sub [0, 1, 2, 3] rfl (z_X7_leadsTo F X a1 a2 a3 hf))
theorem k_X7_leadsTo {z : ZC} {D : va_G} {cI cZ : ClassId} {ad : Nat → Nat} {cc : ByteArray} {own : String} {nL d pc index : Nat} {ret : Option FieldType} {Q : State → Prop} {X : KX} {L : List (Nat × Value)} {rest : List Value} {a1 a2 a3 : Int32} (F : ZF z (yM D cI cZ ad) cc own nL ret d) (hd : 1 + 1 ≤ d) (hw : Cond.methodLink own index yX7_leadsTo ∈ wsA) (hst : (rest.map fun v => v.category).sum ≤ 8) {β : Type} {e : Int32 → Option β} {r : β} (hf : zB1 (f_X7_leadsTo X a1 a2 a3) e = some r) (hdg : decode cc pc = .ok (.invokevirtual index, 3)) (kk : ∀ v : Int32, e v = some r → Z z (yM D cI cZ ad) nL Q X (pc + 3) L (.int v :: rest)) : Z z (yM D cI cZ ad) nL Q X pc L (.int a3 :: .int a2 :: .int a1 :: .ref (ad 0) :: rest) := by
  obtain ⟨v, h1, h2⟩ := zB1_some hf
  exact z_cVI (As := [.int a1, .int a2, .int a3]) F (c_X7_leadsTo X a1 a2 a3 h1) kn_X7_leadsTo kv_X7_leadsTo hw (q0 := 0) rfl rfl hd rfl hst hdg rfl (kk v h2)
theorem kv_X7_leadsNow : zKv yX7_leadsNow := ⟨wm_968, wm_35⟩
theorem kn_X7_leadsNow : zKn yX7_leadsNow cX7_leadsNow 3 (some .int) 2 := ⟨wm_969, wm_62, by decide +kernel, by decide⟩
set_option maxHeartbeats 4000000 in
set_option maxRecDepth 100000 in
theorem z_X7_leadsNow {z : ZC} {D : va_G} {cI cZ : ClassId} {ad : Nat → Nat} {r : Int32} (F : ZF z (yM D cI cZ ad) cX7_leadsNow RX7 3 (some .int) 2) (X : KX) (a1 : Int32) (a2 : Int32) (hf : f_X7_leadsNow X a1 a2 = some r) : Z z (yM D cI cZ ad) 3 (zQI z (yM D cI cZ ad) (r, X)) X 0 [(0, .ref (ad 0)), (1, .int a1), (2, .int a2)] [] := by
  unfold f_X7_leadsNow at hf
  refine z_aload_n F dX7_leadsNow_0 0 rfl rfl ?_
  refine z_iload_n F dX7_leadsNow_1 1 rfl rfl ?_
  refine z_iload_n F dX7_leadsNow_2 2 rfl rfl ?_
  refine z_aload_n F dX7_leadsNow_3 0 rfl rfl ?_
  refine gM_0_13 F wm_775 dX7_leadsNow_4 ?_
  refine z_bipush (v := 9) F dX7_leadsNow_7 (by decide +kernel) ?_
  refine z_iconst (v := 4) F dX7_leadsNow_9 (by decide +kernel) ?_
  refine z_iload_n F dX7_leadsNow_10 1 rfl rfl ?_
  refine z_imul F dX7_leadsNow_11 ?_
  refine z_iadd F dX7_leadsNow_12 ?_
  refine z_iconst (v := 3) F dX7_leadsNow_13 (by decide +kernel) ?_
  refine z_iadd F dX7_leadsNow_14 ?_
  refine lM_6 F hf dX7_leadsNow_15 (fun hf => ?_)
  refine k_X7_leadsTo F (by decide) wm_970 (Nat.le_of_ble_eq_true rfl) hf dX7_leadsNow_16 (fun r_1 hf => ?_)
  exact z_iret F dX7_leadsNow_19 (Prod.ext (Option.some.inj hf) rfl)
theorem c_X7_leadsNow {D : va_G} {cI cZ : ClassId} {ad : Nat → Nat} {r : Int32} (X : KX) (a1 : Int32) (a2 : Int32) (hf : f_X7_leadsNow X a1 a2 = some r) : zMI (yM D cI cZ ad) yX7_leadsNow cX7_leadsNow 3 (some .int) 2 [.ref (ad 0), .int a1, .int a2] X (r, X) := zMI_of (by decide +kernel) (Nat.le_of_ble_eq_true rfl) (fun z F => z_sub [0, 1, 2] rfl (z_X7_leadsNow F X a1 a2 hf))
theorem k_X7_leadsNow {z : ZC} {D : va_G} {cI cZ : ClassId} {ad : Nat → Nat} {cc : ByteArray} {own : String} {nL d pc index : Nat} {ret : Option FieldType} {Q : State → Prop} {X : KX} {L : List (Nat × Value)} {rest : List Value} {a1 a2 : Int32} (F : ZF z (yM D cI cZ ad) cc own nL ret d) (hd : 2 + 1 ≤ d) (hw : Cond.methodLink own index yX7_leadsNow ∈ wsA) (hst : (rest.map fun v => v.category).sum ≤ 8) {β : Type} {e : Int32 → Option β} {r : β} (hf : zB1 (f_X7_leadsNow X a1 a2) e = some r) (hdg : decode cc pc = .ok (.invokevirtual index, 3)) (kk : ∀ v : Int32, e v = some r → Z z (yM D cI cZ ad) nL Q X (pc + 3) L (.int v :: rest)) : Z z (yM D cI cZ ad) nL Q X pc L (.int a2 :: .int a1 :: .ref (ad 0) :: rest) := by
  obtain ⟨v, h1, h2⟩ := zB1_some hf
  exact z_cVI (As := [.int a1, .int a2]) F (c_X7_leadsNow X a1 a2 h1) kn_X7_leadsNow kv_X7_leadsNow hw (q0 := 0) rfl rfl hd rfl hst hdg rfl (kk v h2)
theorem kv_X7_show : zKv yX7_show := ⟨wm_953, wm_954⟩
theorem kn_X7_show : zKn yX7_show cX7_show 3 (some .int) 1 := ⟨wm_955, wm_62, by decide +kernel, by decide⟩
set_option maxHeartbeats 4000000 in
set_option maxRecDepth 100000 in
theorem z_X7_show {z : ZC} {D : va_G} {cI cZ : ClassId} {ad : Nat → Nat} {R : Int32 × KX} (F : ZF z (yM D cI cZ ad) cX7_show RX7 3 (some .int) 3) (n : Nat) (X : KX) (a1 : Int32) (hf : f_X7_show n X a1 = some R) : Z z (yM D cI cZ ad) 3 (zQI z (yM D cI cZ ad) R) X 0 [(0, .ref (ad 0)), (1, .int a1)] [] := by
  unfold f_X7_show at hf
  refine z_aload_n F dX7_show_0 0 rfl rfl ?_
  refine z_iload_n F dX7_show_1 1 rfl rfl ?_
  refine k_X7_isHint F (by decide) wm_956 (Nat.le_of_ble_eq_true rfl) hf dX7_show_2 (fun r_1 hf => ?_)
  refine z_if_ne (tgt := 11) F hf dX7_show_5 (by decide) (fun hf => ?_) (fun hf => ?_)
  · refine z_aload_n F dX7_show_11 0 rfl rfl ?_
    refine gM_0_13 F wm_775 dX7_show_12 ?_
    refine z_iconst (v := 3) F dX7_show_15 (by decide +kernel) ?_
    refine lM_6 F hf dX7_show_16 (fun hf => ?_)
    refine z_if_lt (tgt := 33) F hf dX7_show_17 (by decide) (fun hf => ?_) (fun hf => ?_)
    · refine z_ldc F wm_947 dX7_show_33 ?_
      exact z_iret F dX7_show_35 (Option.some.inj hf)
    · refine z_aload_n F dX7_show_20 0 rfl rfl ?_
      refine gM_0_13 F wm_775 dX7_show_21 ?_
      refine z_iconst (v := 4) F dX7_show_24 (by decide +kernel) ?_
      refine lM_6 F hf dX7_show_25 (fun hf => ?_)
      refine z_iload_n F dX7_show_26 1 rfl rfl ?_
      refine k_X7_has F (by decide) wm_960 (Nat.le_of_ble_eq_true rfl) dX7_show_27 ?_
      refine z_if_eq (tgt := 36) F hf dX7_show_30 (by decide) (fun hf => ?_) (fun hf => ?_)
      · refine z_aload_n F dX7_show_36 0 rfl rfl ?_
        refine gM_0_13 F wm_775 dX7_show_37 ?_
        refine z_iconst (v := 4) F dX7_show_40 (by decide +kernel) ?_
        refine lM_6 F hf dX7_show_41 (fun hf => ?_)
        refine k_X7_ones F (by decide) wm_963 (Nat.le_of_ble_eq_true rfl) hf dX7_show_42 (fun r_2 hf => ?_)
        refine z_aload_n F dX7_show_45 0 rfl rfl ?_
        refine gM_0_13 F wm_775 dX7_show_46 ?_
        refine z_iconst (v := 0) F dX7_show_49 (by decide +kernel) ?_
        refine lM_6 F hf dX7_show_50 (fun hf => ?_)
        refine z_icmp_ne (tgt := 57) F hf dX7_show_51 (by decide) (fun hf => ?_) (fun hf => ?_)
        · refine z_aload_n F dX7_show_57 0 rfl rfl ?_
          refine k_X7_notes F (by decide) wm_948 (Nat.le_of_ble_eq_true rfl) hf dX7_show_58 (fun X_3 hf => ?_)
          refine z_bipush (v := 41) F dX7_show_61 (by decide +kernel) ?_
          refine z_iconst (v := 5) F dX7_show_63 (by decide +kernel) ?_
          refine z_aload_n F dX7_show_64 0 rfl rfl ?_
          refine gM_0_13 F wm_775 dX7_show_65 ?_
          refine z_iconst (v := 3) F dX7_show_68 (by decide +kernel) ?_
          refine lM_6 F hf dX7_show_69 (fun hf => ?_)
          refine z_imul F dX7_show_70 ?_
          refine z_iadd F dX7_show_71 ?_
          refine z_top hf (fun v2_4 hf => ?_)
          refine z_istore_n (L' := [(2, .int v2_4), (0, .ref (ad 0)), (1, .int a1)]) F dX7_show_72 rfl (Nat.le_of_ble_eq_true rfl) rfl ?_
          refine z_aload_n F dX7_show_73 1 rfl rfl ?_
          refine gM_0_13 F wm_775 dX7_show_74 ?_
          refine z_iload_n F dX7_show_77 0 rfl rfl ?_
          refine z_iconst (v := 0) F dX7_show_78 (by decide +kernel) ?_
          refine z_iadd F dX7_show_79 ?_
          refine z_aload_n F dX7_show_80 1 rfl rfl ?_
          refine z_iload_n F dX7_show_81 2 rfl rfl ?_
          refine z_aload_n F dX7_show_82 1 rfl rfl ?_
          refine gM_0_13 F wm_775 dX7_show_83 ?_
          refine z_iload_n F dX7_show_86 0 rfl rfl ?_
          refine z_iconst (v := 0) F dX7_show_87 (by decide +kernel) ?_
          refine z_iadd F dX7_show_88 ?_
          refine lM_6 F hf dX7_show_89 (fun hf => ?_)
          refine k_X7_leadsNow F (by decide) wm_966 (Nat.le_of_ble_eq_true rfl) hf dX7_show_90 (fun r_5 hf => ?_)
          refine sM_6 F hf dX7_show_93 (fun X_6 hf => ?_)
          refine z_aload_n F dX7_show_94 1 rfl rfl ?_
          refine gM_0_13 F wm_775 dX7_show_95 ?_
          refine z_bipush (v := 9) F dX7_show_98 (by decide +kernel) ?_
          refine z_iconst (v := 4) F dX7_show_100 (by decide +kernel) ?_
          refine z_iload_n F dX7_show_101 2 rfl rfl ?_
          refine z_imul F dX7_show_102 ?_
          refine z_iadd F dX7_show_103 ?_
          refine z_iconst (v := 3) F dX7_show_104 (by decide +kernel) ?_
          refine z_iadd F dX7_show_105 ?_
          refine z_top hf (fun u_7 hf => ?_)
          refine z_dup2 F dX7_show_106 rfl rfl ?_
          refine lM_6 F hf dX7_show_107 (fun hf => ?_)
          refine z_iconst (v := 1) F dX7_show_108 (by decide +kernel) ?_
          refine z_iadd F dX7_show_109 ?_
          refine sM_6 F hf dX7_show_110 (fun X_8 hf => ?_)
          refine z_aload_n F dX7_show_111 1 rfl rfl ?_
          refine gM_0_13 F wm_775 dX7_show_112 ?_
          refine z_iconst (v := 4) F dX7_show_115 (by decide +kernel) ?_
          refine z_dup2 F dX7_show_116 rfl rfl ?_
          refine lM_6 F hf dX7_show_117 (fun hf => ?_)
          refine z_iconst (v := 1) F dX7_show_118 (by decide +kernel) ?_
          refine z_iload_n F dX7_show_119 2 rfl rfl ?_
          refine z_ishl F dX7_show_120 ?_
          refine z_ior F dX7_show_121 ?_
          refine sM_6 F hf dX7_show_122 (fun X_9 hf => ?_)
          refine z_aload_n F dX7_show_123 1 rfl rfl ?_
          refine gM_0_13 F wm_775 dX7_show_124 ?_
          refine z_iload_n F dX7_show_127 0 rfl rfl ?_
          refine z_iconst (v := 0) F dX7_show_128 (by decide +kernel) ?_
          refine z_iadd F dX7_show_129 ?_
          refine lM_6 F hf dX7_show_130 (fun hf => ?_)
          exact z_iret F dX7_show_131 (Option.some.inj hf)
        · refine z_ldc F wm_883 dX7_show_54 ?_
          exact z_iret F dX7_show_56 (Option.some.inj hf)
      · refine z_ldc F wm_947 dX7_show_33 ?_
        exact z_iret F dX7_show_35 (Option.some.inj hf)
  · refine z_ldc F wm_846 dX7_show_8 ?_
    exact z_iret F dX7_show_10 (Option.some.inj hf)
theorem c_X7_show {D : va_G} {cI cZ : ClassId} {ad : Nat → Nat} {R : Int32 × KX} (n : Nat) (X : KX) (a1 : Int32) (hf : f_X7_show n X a1 = some R) : zMI (yM D cI cZ ad) yX7_show cX7_show 3 (some .int) 3 [.ref (ad 0), .int a1] X R := zMI_of (by decide +kernel) (Nat.le_of_ble_eq_true rfl) (fun z F => z_sub [0, 1] rfl (z_X7_show F n X a1 hf))
theorem k_X7_show {z : ZC} {D : va_G} {cI cZ : ClassId} {ad : Nat → Nat} {cc : ByteArray} {own : String} {nL d pc index : Nat} {ret : Option FieldType} {Q : State → Prop} {X : KX} {L : List (Nat × Value)} {rest : List Value} {n : Nat} {a1 : Int32} (F : ZF z (yM D cI cZ ad) cc own nL ret d) (hd : 3 + 1 ≤ d) (hw : Cond.methodLink own index yX7_show ∈ wsA) (hst : (rest.map fun v => v.category).sum ≤ 8) {β : Type} {e : Int32 → KX → Option β} {r : β} (hf : zB2 (f_X7_show n X a1) e = some r) (hdg : decode cc pc = .ok (.invokevirtual index, 3)) (kk : ∀ (v : Int32) (X2 : KX), e v X2 = some r → Z z (yM D cI cZ ad) nL Q X2 (pc + 3) L (.int v :: rest)) : Z z (yM D cI cZ ad) nL Q X pc L (.int a1 :: .ref (ad 0) :: rest) := by
  obtain ⟨v, X2, h1, h2⟩ := zB2_some hf
  exact z_cVI (As := [.int a1]) F (c_X7_show n X a1 h1) kn_X7_show kv_X7_show hw (q0 := 0) rfl rfl hd rfl hst hdg rfl (kk v X2 h2)
theorem kv_X7_dares : zKv yX7_dares := ⟨wm_980, wm_37⟩
theorem kn_X7_dares : zKn yX7_dares cX7_dares 2 (some .boolean) 1 := ⟨wm_981, wm_62, by decide +kernel, by decide⟩
set_option maxHeartbeats 4000000 in
set_option maxRecDepth 100000 in
theorem z_X7_dares {z : ZC} {D : va_G} {cI cZ : ClassId} {ad : Nat → Nat} {r : Int32} (F : ZF z (yM D cI cZ ad) cX7_dares RX7 2 (some .boolean) 2) (X : KX) (a1 : Int32) (hf : f_X7_dares X a1 = some r) : Z z (yM D cI cZ ad) 2 (zQI z (yM D cI cZ ad) (r, X)) X 0 [(0, .ref (ad 0)), (1, .int a1)] [] := by
  unfold f_X7_dares at hf
  refine z_aload_n F dX7_dares_0 0 rfl rfl ?_
  refine z_iload_n F dX7_dares_1 1 rfl rfl ?_
  refine z_iconst (v := 2) F dX7_dares_2 (by decide +kernel) ?_
  refine k_X7_of F (by decide) wm_943 (Nat.le_of_ble_eq_true rfl) hf dX7_dares_3 (fun r_1 hf => ?_)
  refine z_aload_n F dX7_dares_6 0 rfl rfl ?_
  refine z_iload_n F dX7_dares_7 1 rfl rfl ?_
  refine z_iconst (v := 1) F dX7_dares_8 (by decide +kernel) ?_
  refine k_X7_of F (by decide) wm_943 (Nat.le_of_ble_eq_true rfl) hf dX7_dares_9 (fun r_2 hf => ?_)
  refine z_icmp_lt (tgt := 19) F hf dX7_dares_12 (by decide) (fun hf => ?_) (fun hf => ?_)
  · refine z_iconst (v := 0) F dX7_dares_19 (by decide +kernel) ?_
    exact z_zret F (by decide) dX7_dares_20 (Prod.ext (Option.some.inj hf) rfl)
  · refine z_iconst (v := 1) F dX7_dares_15 (by decide +kernel) ?_
    refine z_goto (tgt := 20) F dX7_dares_16 (by decide) ?_
    exact z_zret F (by decide) dX7_dares_20 (Prod.ext (Option.some.inj hf) rfl)
theorem c_X7_dares {D : va_G} {cI cZ : ClassId} {ad : Nat → Nat} {r : Int32} (X : KX) (a1 : Int32) (hf : f_X7_dares X a1 = some r) : zMI (yM D cI cZ ad) yX7_dares cX7_dares 2 (some .boolean) 2 [.ref (ad 0), .int a1] X (r, X) := zMI_of (by decide +kernel) (Nat.le_of_ble_eq_true rfl) (fun z F => z_sub [0, 1] rfl (z_X7_dares F X a1 hf))
theorem k_X7_dares {z : ZC} {D : va_G} {cI cZ : ClassId} {ad : Nat → Nat} {cc : ByteArray} {own : String} {nL d pc index : Nat} {ret : Option FieldType} {Q : State → Prop} {X : KX} {L : List (Nat × Value)} {rest : List Value} {a1 : Int32} (F : ZF z (yM D cI cZ ad) cc own nL ret d) (hd : 2 + 1 ≤ d) (hw : Cond.methodLink own index yX7_dares ∈ wsA) (hst : (rest.map fun v => v.category).sum ≤ 8) {β : Type} {e : Int32 → Option β} {r : β} (hf : zB1 (f_X7_dares X a1) e = some r) (hdg : decode cc pc = .ok (.invokevirtual index, 3)) (kk : ∀ v : Int32, e v = some r → Z z (yM D cI cZ ad) nL Q X (pc + 3) L (.int v :: rest)) : Z z (yM D cI cZ ad) nL Q X pc L (.int a1 :: .ref (ad 0) :: rest) := by
  obtain ⟨v, h1, h2⟩ := zB1_some hf
  exact z_cVI (As := [.int a1]) F (c_X7_dares X a1 h1) kn_X7_dares kv_X7_dares hw (q0 := 0) rfl rfl hd rfl hst hdg rfl (kk v h2)
theorem kv_X7_speak : zKv yX7_speak := ⟨wm_975, wm_976⟩
theorem kn_X7_speak : zKn yX7_speak cX7_speak 4 (some .int) 0 := ⟨wm_977, wm_62, by decide +kernel, by decide⟩
set_option maxHeartbeats 4000000 in
set_option maxRecDepth 100000 in
theorem z_X7_speak_114 {z : ZC} {D : va_G} {cI cZ : ClassId} {ad : Nat → Nat} {R : Int32 × KX} (F : ZF z (yM D cI cZ ad) cX7_speak RX7 4 (some .int) 3) (n : Nat) (X : KX) (s0 : Int32) (s1 : Int32) (s2 : Int32) (v1 : Int32) (v3 : Int32) (hf : f_X7_speak_114 n X s0 s1 s2 v1 v3 = some R) : Z z (yM D cI cZ ad) 4 (zQI z (yM D cI cZ ad) R) X 114 [(0, .ref (ad 0)), (1, .int v1), (3, .int v3)] [.int s0, .int s1, .int s2, .ref (ad 6)] := by
  unfold f_X7_speak_114 at hf
  refine z_iadd F dX7_speak_114 ?_
  refine sM_6 F hf dX7_speak_115 (fun X_1 hf => ?_)
  refine z_aload_n F dX7_speak_116 0 rfl rfl ?_
  refine gM_0_13 F wm_775 dX7_speak_117 ?_
  refine z_bipush (v := 41) F dX7_speak_120 (by decide +kernel) ?_
  refine z_iconst (v := 5) F dX7_speak_122 (by decide +kernel) ?_
  refine z_iload_n F dX7_speak_123 1 rfl rfl ?_
  refine z_imul F dX7_speak_124 ?_
  refine z_iadd F dX7_speak_125 ?_
  refine z_iconst (v := 3) F dX7_speak_126 (by decide +kernel) ?_
  refine z_iadd F dX7_speak_127 ?_
  refine z_iconst (v := 2) F dX7_speak_128 (by decide +kernel) ?_
  refine sM_6 F hf dX7_speak_129 (fun X_2 hf => ?_)
  refine z_aload_n F dX7_speak_130 0 rfl rfl ?_
  refine gM_0_13 F wm_775 dX7_speak_131 ?_
  refine z_bipush (v := 41) F dX7_speak_134 (by decide +kernel) ?_
  refine z_iconst (v := 5) F dX7_speak_136 (by decide +kernel) ?_
  refine z_iload_n F dX7_speak_137 1 rfl rfl ?_
  refine z_imul F dX7_speak_138 ?_
  refine z_iadd F dX7_speak_139 ?_
  refine z_iconst (v := 4) F dX7_speak_140 (by decide +kernel) ?_
  refine z_iadd F dX7_speak_141 ?_
  refine z_iload_n F dX7_speak_142 2 rfl rfl ?_
  refine sM_6 F hf dX7_speak_143 (fun X_3 hf => ?_)
  refine z_aload_n F dX7_speak_144 0 rfl rfl ?_
  refine gM_0_13 F wm_775 dX7_speak_145 ?_
  refine z_iconst (v := 3) F dX7_speak_148 (by decide +kernel) ?_
  refine z_iconst (v := (-1)) F dX7_speak_149 (by decide +kernel) ?_
  refine sM_6 F hf dX7_speak_150 (fun X_4 hf => ?_)
  refine z_aload_n F dX7_speak_151 0 rfl rfl ?_
  refine gM_0_13 F wm_775 dX7_speak_152 ?_
  refine z_iconst (v := 4) F dX7_speak_155 (by decide +kernel) ?_
  refine z_iconst (v := 0) F dX7_speak_156 (by decide +kernel) ?_
  refine sM_6 F hf dX7_speak_157 (fun X_5 hf => ?_)
  refine z_iload_n F dX7_speak_158 2 rfl rfl ?_
  exact z_iret F dX7_speak_159 (Option.some.inj hf)
set_option maxHeartbeats 4000000 in
set_option maxRecDepth 100000 in
theorem z_X7_speak_90 {z : ZC} {D : va_G} {cI cZ : ClassId} {ad : Nat → Nat} {R : Int32 × KX} (F : ZF z (yM D cI cZ ad) cX7_speak RX7 4 (some .int) 3) (n : Nat) (X : KX) (s0 : Int32) (s1 : Int32) (v1 : Int32) (v3 : Int32) (hf : f_X7_speak_90 n X s0 s1 v1 v3 = some R) : Z z (yM D cI cZ ad) 4 (zQI z (yM D cI cZ ad) R) X 90 [(0, .ref (ad 0)), (1, .int v1), (3, .int v3)] [.int s0, .int s1, .ref (ad 6)] := by
  unfold f_X7_speak_90 at hf
  refine sM_6 F hf dX7_speak_90 (fun X_1 hf => ?_)
  refine z_aload_n F dX7_speak_91 0 rfl rfl ?_
  refine gM_0_13 F wm_775 dX7_speak_92 ?_
  refine z_bipush (v := 6) F dX7_speak_95 (by decide +kernel) ?_
  refine z_dup2 F dX7_speak_97 rfl rfl ?_
  refine lM_6 F hf dX7_speak_98 (fun hf => ?_)
  refine z_iload_n F dX7_speak_99 2 rfl rfl ?_
  refine z_aload_n F dX7_speak_100 0 rfl rfl ?_
  refine gM_0_13 F wm_775 dX7_speak_101 ?_
  refine z_iconst (v := 2) F dX7_speak_104 (by decide +kernel) ?_
  refine lM_6 F hf dX7_speak_105 (fun hf => ?_)
  refine z_icmp_ne (tgt := 113) F hf dX7_speak_106 (by decide) (fun hf => ?_) (fun hf => ?_)
  · refine z_iconst (v := 0) F dX7_speak_113 (by decide +kernel) ?_
    exact z_sub [0, 1, 2] rfl (z_X7_speak_114 F n X_1 0 (X_1 6 (6 : Int32).toNatClampNeg) 6 v1 v3 hf)
  · refine z_iconst (v := 1) F dX7_speak_109 (by decide +kernel) ?_
    refine z_goto (tgt := 114) F dX7_speak_110 (by decide) ?_
    exact z_sub [0, 1, 2] rfl (z_X7_speak_114 F n X_1 1 (X_1 6 (6 : Int32).toNatClampNeg) 6 v1 v3 hf)
set_option maxHeartbeats 4000000 in
set_option maxRecDepth 100000 in
theorem z_X7_speak_64 {z : ZC} {D : va_G} {cI cZ : ClassId} {ad : Nat → Nat} {R : Int32 × KX} (F : ZF z (yM D cI cZ ad) cX7_speak RX7 4 (some .int) 3) (n : Nat) (X : KX) (s0 : Int32) (v1 : Int32) (hf : f_X7_speak_64 n X s0 v1 = some R) : Z z (yM D cI cZ ad) 4 (zQI z (yM D cI cZ ad) R) X 64 [(0, .ref (ad 0)), (1, .int v1)] [.int s0] := by
  unfold f_X7_speak_64 at hf
  refine z_istore_n (L' := [(3, .int s0), (0, .ref (ad 0)), (1, .int v1)]) F dX7_speak_64 rfl (Nat.le_of_ble_eq_true rfl) rfl ?_
  refine z_aload_n F dX7_speak_65 1 rfl rfl ?_
  refine gM_0_13 F wm_775 dX7_speak_66 ?_
  refine z_iconst (v := 5) F dX7_speak_69 (by decide +kernel) ?_
  refine z_iload_n F dX7_speak_70 0 rfl rfl ?_
  refine z_aload_n F dX7_speak_71 1 rfl rfl ?_
  refine gM_0_13 F wm_775 dX7_speak_72 ?_
  refine z_iconst (v := 1) F dX7_speak_75 (by decide +kernel) ?_
  refine lM_6 F hf dX7_speak_76 (fun hf => ?_)
  refine z_icmp_ne (tgt := 84) F hf dX7_speak_77 (by decide) (fun hf => ?_) (fun hf => ?_)
  · refine z_aload_n F dX7_speak_84 1 rfl rfl ?_
    refine gM_0_13 F wm_775 dX7_speak_85 ?_
    refine z_iconst (v := 5) F dX7_speak_88 (by decide +kernel) ?_
    refine lM_6 F hf dX7_speak_89 (fun hf => ?_)
    exact z_sub [1, 2, 0] rfl (z_X7_speak_90 F n X (X 6 (5 : Int32).toNatClampNeg) 5 v1 s0 hf)
  · refine z_iconst (v := 1) F dX7_speak_80 (by decide +kernel) ?_
    refine z_goto (tgt := 90) F dX7_speak_81 (by decide) ?_
    exact z_sub [1, 2, 0] rfl (z_X7_speak_90 F n X 1 5 v1 s0 hf)
set_option maxHeartbeats 4000000 in
set_option maxRecDepth 100000 in
theorem z_X7_speak_62 {z : ZC} {D : va_G} {cI cZ : ClassId} {ad : Nat → Nat} {R : Int32 × KX} (F : ZF z (yM D cI cZ ad) cX7_speak RX7 4 (some .int) 3) (n : Nat) (X : KX) (v1 : Int32) (hf : f_X7_speak_62 n X v1 = some R) : Z z (yM D cI cZ ad) 4 (zQI z (yM D cI cZ ad) R) X 62 [(0, .ref (ad 0)), (1, .int v1)] [] := by
  unfold f_X7_speak_62 at hf
  refine z_ldc F wm_761 dX7_speak_62 ?_
  exact z_sub [0, 1] rfl (z_X7_speak_64 F n X (-1000000) v1 hf)
set_option maxHeartbeats 4000000 in
set_option maxRecDepth 100000 in
theorem z_X7_speak_58 {z : ZC} {D : va_G} {cI cZ : ClassId} {ad : Nat → Nat} {R : Int32 × KX} (F : ZF z (yM D cI cZ ad) cX7_speak RX7 4 (some .int) 3) (n : Nat) (X : KX) (v1 : Int32) (v2 : Int32) (hf : f_X7_speak_58 n X v1 v2 = some R) : Z z (yM D cI cZ ad) 4 (zQI z (yM D cI cZ ad) R) X 58 [(0, .ref (ad 0)), (1, .int v1), (2, .int v2)] [] := by
  unfold f_X7_speak_58 at hf
  refine z_iload_n F dX7_speak_58 2 rfl rfl ?_
  refine z_goto (tgt := 64) F dX7_speak_59 (by decide) ?_
  exact z_sub [0, 1] rfl (z_X7_speak_64 F n X v2 v1 hf)
set_option maxHeartbeats 4000000 in
set_option maxRecDepth 100000 in
theorem z_X7_speak {z : ZC} {D : va_G} {cI cZ : ClassId} {ad : Nat → Nat} {R : Int32 × KX} (F : ZF z (yM D cI cZ ad) cX7_speak RX7 4 (some .int) 3) (n : Nat) (X : KX)  (hf : f_X7_speak n X = some R) : Z z (yM D cI cZ ad) 4 (zQI z (yM D cI cZ ad) R) X 0 [(0, .ref (ad 0))] [] := by
  unfold f_X7_speak at hf
  refine z_aload_n F dX7_speak_0 0 rfl rfl ?_
  refine gM_0_13 F wm_775 dX7_speak_1 ?_
  refine z_iconst (v := 3) F dX7_speak_4 (by decide +kernel) ?_
  refine lM_6 F hf dX7_speak_5 (fun hf => ?_)
  refine z_if_ge (tgt := 12) F hf dX7_speak_6 (by decide) (fun hf => ?_) (fun hf => ?_)
  · refine z_aload_n F dX7_speak_12 0 rfl rfl ?_
    refine k_X7_notes F (by decide) wm_948 (Nat.le_of_ble_eq_true rfl) hf dX7_speak_13 (fun X_1 hf => ?_)
    refine z_aload_n F dX7_speak_16 0 rfl rfl ?_
    refine gM_0_13 F wm_775 dX7_speak_17 ?_
    refine z_iconst (v := 3) F dX7_speak_20 (by decide +kernel) ?_
    refine lM_6 F hf dX7_speak_21 (fun hf => ?_)
    refine z_top hf (fun v1_2 hf => ?_)
    refine z_istore_n (L' := [(1, .int v1_2), (0, .ref (ad 0))]) F dX7_speak_22 rfl (Nat.le_of_ble_eq_true rfl) rfl ?_
    refine z_aload_n F dX7_speak_23 1 rfl rfl ?_
    refine z_iload_n F dX7_speak_24 0 rfl rfl ?_
    refine z_iconst (v := 0) F dX7_speak_25 (by decide +kernel) ?_
    refine k_X7_of F (by decide) wm_943 (Nat.le_of_ble_eq_true rfl) hf dX7_speak_26 (fun r_3 hf => ?_)
    refine z_istore_n (L' := [(2, .int r_3), (1, .int v1_2), (0, .ref (ad 0))]) F dX7_speak_29 rfl (Nat.le_of_ble_eq_true rfl) rfl ?_
    refine z_aload_n F dX7_speak_30 2 rfl rfl ?_
    refine z_iload_n F dX7_speak_31 1 rfl rfl ?_
    refine k_X7_dares F (by decide) wm_978 (Nat.le_of_ble_eq_true rfl) hf dX7_speak_32 (fun r_4 hf => ?_)
    refine z_if_eq (tgt := 62) F hf dX7_speak_35 (by decide) (fun hf => ?_) (fun hf => ?_)
    · exact z_sub [2, 1] rfl (z_X7_speak_62 F n X_1 v1_2 hf)
    · refine z_iload_n F dX7_speak_38 0 rfl rfl ?_
      refine z_aload_n F dX7_speak_39 2 rfl rfl ?_
      refine gM_0_13 F wm_775 dX7_speak_40 ?_
      refine z_iconst (v := 1) F dX7_speak_43 (by decide +kernel) ?_
      refine lM_6 F hf dX7_speak_44 (fun hf => ?_)
      refine z_icmp_eq (tgt := 58) F hf dX7_speak_45 (by decide) (fun hf => ?_) (fun hf => ?_)
      · exact z_sub [2, 1, 0] rfl (z_X7_speak_58 F n X_1 v1_2 r_3 hf)
      · refine z_iload_n F dX7_speak_48 0 rfl rfl ?_
        refine z_aload_n F dX7_speak_49 2 rfl rfl ?_
        refine gM_0_13 F wm_775 dX7_speak_50 ?_
        refine z_iconst (v := 2) F dX7_speak_53 (by decide +kernel) ?_
        refine lM_6 F hf dX7_speak_54 (fun hf => ?_)
        refine z_icmp_ne (tgt := 62) F hf dX7_speak_55 (by decide) (fun hf => ?_) (fun hf => ?_)
        · exact z_sub [2, 1] rfl (z_X7_speak_62 F n X_1 v1_2 hf)
        · exact z_sub [2, 1, 0] rfl (z_X7_speak_58 F n X_1 v1_2 r_3 hf)
  · refine z_ldc F wm_947 dX7_speak_9 ?_
    exact z_iret F dX7_speak_11 (Option.some.inj hf)
theorem c_X7_speak {D : va_G} {cI cZ : ClassId} {ad : Nat → Nat} {R : Int32 × KX} (n : Nat) (X : KX)  (hf : f_X7_speak n X = some R) : zMI (yM D cI cZ ad) yX7_speak cX7_speak 4 (some .int) 3 [.ref (ad 0)] X R := zMI_of (by decide +kernel) (Nat.le_of_ble_eq_true rfl) (fun z F => z_sub [0] rfl (z_X7_speak F n X hf))
theorem k_X7_speak {z : ZC} {D : va_G} {cI cZ : ClassId} {ad : Nat → Nat} {cc : ByteArray} {own : String} {nL d pc index : Nat} {ret : Option FieldType} {Q : State → Prop} {X : KX} {L : List (Nat × Value)} {rest : List Value} {n : Nat} (F : ZF z (yM D cI cZ ad) cc own nL ret d) (hd : 3 + 1 ≤ d) (hw : Cond.methodLink own index yX7_speak ∈ wsA) (hst : (rest.map fun v => v.category).sum ≤ 8) {β : Type} {e : Int32 → KX → Option β} {r : β} (hf : zB2 (f_X7_speak n X) e = some r) (hdg : decode cc pc = .ok (.invokevirtual index, 3)) (kk : ∀ (v : Int32) (X2 : KX), e v X2 = some r → Z z (yM D cI cZ ad) nL Q X2 (pc + 3) L (.int v :: rest)) : Z z (yM D cI cZ ad) nL Q X pc L (.ref (ad 0) :: rest) := by
  obtain ⟨v, X2, h1, h2⟩ := zB2_some hf
  exact z_cVI (As := []) F (c_X7_speak n X h1) kn_X7_speak kv_X7_speak hw (q0 := 0) rfl rfl hd rfl hst hdg rfl (kk v X2 h2)
theorem kv_X7_tale : zKv yX7_tale := ⟨wm_983, wm_984⟩
theorem kn_X7_tale : zKn yX7_tale cX7_tale 4 (some .int) 2 := ⟨wm_985, wm_62, by decide +kernel, by decide⟩
set_option maxHeartbeats 4000000 in
set_option maxRecDepth 100000 in
theorem z_X7_tale_82 {z : ZC} {D : va_G} {cI cZ : ClassId} {ad : Nat → Nat} {R : Int32 × KX} (F : ZF z (yM D cI cZ ad) cX7_tale RX7 4 (some .int) 3) (n : Nat) (X : KX) (s0 : Int32) (s1 : Int32) (v1 : Int32) (hf : f_X7_tale_82 n X s0 s1 v1 = some R) : Z z (yM D cI cZ ad) 4 (zQI z (yM D cI cZ ad) R) X 82 [(0, .ref (ad 0)), (1, .int v1)] [.int s0, .int s1, .ref (ad 6)] := by
  unfold f_X7_tale_82 at hf
  refine sM_6 F hf dX7_tale_82 (fun X_1 hf => ?_)
  refine z_aload_n F dX7_tale_83 0 rfl rfl ?_
  refine z_iload_n F dX7_tale_84 1 rfl rfl ?_
  refine z_iconst (v := 2) F dX7_tale_85 (by decide +kernel) ?_
  refine k_X7_of F (by decide) wm_943 (Nat.le_of_ble_eq_true rfl) hf dX7_tale_86 (fun r_2 hf => ?_)
  exact z_iret F dX7_tale_89 (Option.some.inj hf)
set_option maxHeartbeats 4000000 in
set_option maxRecDepth 100000 in
theorem z_X7_tale {z : ZC} {D : va_G} {cI cZ : ClassId} {ad : Nat → Nat} {R : Int32 × KX} (F : ZF z (yM D cI cZ ad) cX7_tale RX7 4 (some .int) 3) (n : Nat) (X : KX) (a1 : Int32) (a2 : Int32) (hf : f_X7_tale n X a1 a2 = some R) : Z z (yM D cI cZ ad) 4 (zQI z (yM D cI cZ ad) R) X 0 [(0, .ref (ad 0)), (1, .int a1), (2, .int a2)] [] := by
  unfold f_X7_tale at hf
  refine z_aload_n F dX7_tale_0 0 rfl rfl ?_
  refine z_iload_n F dX7_tale_1 1 rfl rfl ?_
  refine k_X7_isGuest F (by decide) wm_935 (Nat.le_of_ble_eq_true rfl) hf dX7_tale_2 (fun r_1 hf => ?_)
  refine z_if_eq (tgt := 23) F hf dX7_tale_5 (by decide) (fun hf => ?_) (fun hf => ?_)
  · refine z_ldc F wm_846 dX7_tale_23 ?_
    exact z_iret F dX7_tale_25 (Option.some.inj hf)
  · refine z_iload_n F dX7_tale_8 2 rfl rfl ?_
    refine z_bipush (v := (-20)) F dX7_tale_9 (by decide +kernel) ?_
    refine z_bipush (v := 20) F dX7_tale_11 (by decide +kernel) ?_
    refine k_X7_in F (by decide) wm_843 (Nat.le_of_ble_eq_true rfl) dX7_tale_13 ?_
    refine z_if_eq (tgt := 23) F hf dX7_tale_16 (by decide) (fun hf => ?_) (fun hf => ?_)
    · refine z_ldc F wm_846 dX7_tale_23 ?_
      exact z_iret F dX7_tale_25 (Option.some.inj hf)
    · refine z_iload_n F dX7_tale_19 2 rfl rfl ?_
      refine z_if_ne (tgt := 26) F hf dX7_tale_20 (by decide) (fun hf => ?_) (fun hf => ?_)
      · refine z_aload_n F dX7_tale_26 0 rfl rfl ?_
        refine z_iload_n F dX7_tale_27 1 rfl rfl ?_
        refine k_X7_isToCome F (by decide) wm_939 (Nat.le_of_ble_eq_true rfl) hf dX7_tale_28 (fun r_2 hf => ?_)
        refine z_if_ne (tgt := 37) F hf dX7_tale_31 (by decide) (fun hf => ?_) (fun hf => ?_)
        · refine z_aload_n F dX7_tale_37 0 rfl rfl ?_
          refine k_X7_notes F (by decide) wm_948 (Nat.le_of_ble_eq_true rfl) hf dX7_tale_38 (fun X_3 hf => ?_)
          refine z_aload_n F dX7_tale_41 0 rfl rfl ?_
          refine z_iload_n F dX7_tale_42 1 rfl rfl ?_
          refine z_iconst (v := 2) F dX7_tale_43 (by decide +kernel) ?_
          refine k_X7_of F (by decide) wm_943 (Nat.le_of_ble_eq_true rfl) hf dX7_tale_44 (fun r_4 hf => ?_)
          refine z_iload_n F dX7_tale_47 2 rfl rfl ?_
          refine z_iadd F dX7_tale_48 ?_
          refine z_top hf (fun v3_5 hf => ?_)
          refine z_istore_n (L' := [(3, .int v3_5), (0, .ref (ad 0)), (1, .int a1), (2, .int a2)]) F dX7_tale_49 rfl (Nat.le_of_ble_eq_true rfl) rfl ?_
          refine z_aload_n F dX7_tale_50 1 rfl rfl ?_
          refine gM_0_13 F wm_775 dX7_tale_51 ?_
          refine z_bipush (v := 41) F dX7_tale_54 (by decide +kernel) ?_
          refine z_iconst (v := 5) F dX7_tale_56 (by decide +kernel) ?_
          refine z_iload_n F dX7_tale_57 2 rfl rfl ?_
          refine z_imul F dX7_tale_58 ?_
          refine z_iadd F dX7_tale_59 ?_
          refine z_iconst (v := 2) F dX7_tale_60 (by decide +kernel) ?_
          refine z_iadd F dX7_tale_61 ?_
          refine z_iload_n F dX7_tale_62 0 rfl rfl ?_
          refine z_if_ge (tgt := 70) F hf dX7_tale_63 (by decide) (fun hf => ?_) (fun hf => ?_)
          · refine z_iload_n F dX7_tale_70 0 rfl rfl ?_
            refine z_bipush (v := 20) F dX7_tale_71 (by decide +kernel) ?_
            refine z_icmp_le (tgt := 81) F hf dX7_tale_73 (by decide) (fun hf => ?_) (fun hf => ?_)
            · refine z_iload_n F dX7_tale_81 0 rfl rfl ?_
              exact z_sub [1, 2] rfl (z_X7_tale_82 F n X_3 v3_5 ((41 + (5 * a1)) + 2) a1 hf)
            · refine z_bipush (v := 20) F dX7_tale_76 (by decide +kernel) ?_
              refine z_goto (tgt := 82) F dX7_tale_78 (by decide) ?_
              exact z_sub [1, 2] rfl (z_X7_tale_82 F n X_3 20 ((41 + (5 * a1)) + 2) a1 hf)
          · refine z_iconst (v := 0) F dX7_tale_66 (by decide +kernel) ?_
            refine z_goto (tgt := 82) F dX7_tale_67 (by decide) ?_
            exact z_sub [1, 2] rfl (z_X7_tale_82 F n X_3 0 ((41 + (5 * a1)) + 2) a1 hf)
        · refine z_ldc F wm_947 dX7_tale_34 ?_
          exact z_iret F dX7_tale_36 (Option.some.inj hf)
      · refine z_ldc F wm_846 dX7_tale_23 ?_
        exact z_iret F dX7_tale_25 (Option.some.inj hf)
theorem c_X7_tale {D : va_G} {cI cZ : ClassId} {ad : Nat → Nat} {R : Int32 × KX} (n : Nat) (X : KX) (a1 : Int32) (a2 : Int32) (hf : f_X7_tale n X a1 a2 = some R) : zMI (yM D cI cZ ad) yX7_tale cX7_tale 4 (some .int) 3 [.ref (ad 0), .int a1, .int a2] X R := zMI_of (by decide +kernel) (Nat.le_of_ble_eq_true rfl) (fun z F => z_sub [0, 1, 2] rfl (z_X7_tale F n X a1 a2 hf))
theorem k_X7_tale {z : ZC} {D : va_G} {cI cZ : ClassId} {ad : Nat → Nat} {cc : ByteArray} {own : String} {nL d pc index : Nat} {ret : Option FieldType} {Q : State → Prop} {X : KX} {L : List (Nat × Value)} {rest : List Value} {n : Nat} {a1 a2 : Int32} (F : ZF z (yM D cI cZ ad) cc own nL ret d) (hd : 3 + 1 ≤ d) (hw : Cond.methodLink own index yX7_tale ∈ wsA) (hst : (rest.map fun v => v.category).sum ≤ 8) {β : Type} {e : Int32 → KX → Option β} {r : β} (hf : zB2 (f_X7_tale n X a1 a2) e = some r) (hdg : decode cc pc = .ok (.invokevirtual index, 3)) (kk : ∀ (v : Int32) (X2 : KX), e v X2 = some r → Z z (yM D cI cZ ad) nL Q X2 (pc + 3) L (.int v :: rest)) : Z z (yM D cI cZ ad) nL Q X pc L (.int a2 :: .int a1 :: .ref (ad 0) :: rest) := by
  obtain ⟨v, X2, h1, h2⟩ := zB2_some hf
  exact z_cVI (As := [.int a1, .int a2]) F (c_X7_tale n X a1 a2 h1) kn_X7_tale kv_X7_tale hw (q0 := 0) rfl rfl hd rfl hst hdg rfl (kk v X2 h2)
theorem kv_X7_copies_8_6 : Cond.static yX7_copies ∈ wsA := wm_925
theorem kn_X7_copies_8_6 : zKn yX7_copies cX7_copies 5 none 4 := ⟨wm_926, wm_62, by decide +kernel, by decide⟩
set_option maxHeartbeats 4000000 in
set_option maxRecDepth 100000 in
theorem z_X7_copies_8_6_3 {z : ZC} {D : va_G} {cI cZ : ClassId} {ad : Nat → Nat} {R : KX} (F : ZF z (yM D cI cZ ad) cX7_copies RX7 5 none 1) (n : Nat) : ∀ (t : Nat) (X : KX) (v1 : Int32) (v3 : Int32) (v4 : Int32), f_X7_copies_8_6_3 n t X v1 v3 v4 = some R → Z z (yM D cI cZ ad) 5 (zQV z (yM D cI cZ ad) R) X 3 [(0, .ref (ad 8)), (1, .int v1), (2, .ref (ad 6)), (3, .int v3), (4, .int v4)] [] := by
  intro t
  induction t with
  | zero => intro X v1 v3 v4 hf; rw [f_X7_copies_8_6_3] at hf; exact zNone hf
  | succ t ih =>
    intro X v1 v3 v4 hf
    rw [f_X7_copies_8_6_3] at hf
    refine z_iload F dX7_copies_3 4 rfl ?_
    refine z_bipush (v := 71) F dX7_copies_5 (by decide +kernel) ?_
    refine z_icmp_ge (tgt := 28) F hf dX7_copies_7 (by decide) (fun hf => ?_) (fun hf => ?_)
    · exact z_vret F dX7_copies_28 (Option.some.inj hf)
    · refine z_aload_n F dX7_copies_10 2 rfl rfl ?_
      refine z_iload_n F dX7_copies_11 3 rfl rfl ?_
      refine z_iload F dX7_copies_12 4 rfl ?_
      refine z_iadd F dX7_copies_14 ?_
      refine z_aload_n F dX7_copies_15 0 rfl rfl ?_
      refine z_iload_n F dX7_copies_16 1 rfl rfl ?_
      refine z_iload F dX7_copies_17 4 rfl ?_
      refine z_iadd F dX7_copies_19 ?_
      refine lM_8 F hf dX7_copies_20 (fun hf => ?_)
      refine sM_6 F hf dX7_copies_21 (fun X_1 hf => ?_)
      refine z_iinc (w := 1) (L' := fun v4_2 => [(4, .int v4_2), (0, .ref (ad 8)), (1, .int v1), (2, .ref (ad 6)), (3, .int v3)]) F hf dX7_copies_22 4 rfl (by decide +kernel) (Nat.le_of_ble_eq_true rfl) (fun _ => rfl) (fun v4_2 hf => ?_)
      refine z_goto (tgt := 3) F dX7_copies_25 (by decide) ?_
      exact z_sub [1, 2, 3, 4, 0] rfl (ih X_1 v1 v3 v4_2 hf)
set_option maxHeartbeats 4000000 in
set_option maxRecDepth 100000 in
theorem z_X7_copies_8_6 {z : ZC} {D : va_G} {cI cZ : ClassId} {ad : Nat → Nat} {R : KX} (F : ZF z (yM D cI cZ ad) cX7_copies RX7 5 none 1) (n : Nat) (X : KX) (a1 : Int32) (a3 : Int32) (hf : f_X7_copies_8_6 n X a1 a3 = some R) : Z z (yM D cI cZ ad) 5 (zQV z (yM D cI cZ ad) R) X 0 [(0, .ref (ad 8)), (1, .int a1), (2, .ref (ad 6)), (3, .int a3)] [] := by
  unfold f_X7_copies_8_6 at hf
  refine z_iconst (v := 0) F dX7_copies_0 (by decide +kernel) ?_
  refine z_istore (L' := [(4, .int 0), (0, .ref (ad 8)), (1, .int a1), (2, .ref (ad 6)), (3, .int a3)]) F dX7_copies_1 (Nat.le_of_ble_eq_true rfl) rfl ?_
  exact z_sub [1, 2, 3, 4, 0] rfl (z_X7_copies_8_6_3 F n n X a1 a3 0 hf)
theorem c_X7_copies_8_6 {D : va_G} {cI cZ : ClassId} {ad : Nat → Nat} {R : KX} (n : Nat) (X : KX) (a1 : Int32) (a3 : Int32) (hf : f_X7_copies_8_6 n X a1 a3 = some R) : zMV (yM D cI cZ ad) yX7_copies cX7_copies 5 none 1 [.ref (ad 8), .int a1, .ref (ad 6), .int a3] X R := zMV_of (by decide +kernel) (Nat.le_of_ble_eq_true rfl) (fun z F => z_sub [0, 1, 2, 3] rfl (z_X7_copies_8_6 F n X a1 a3 hf))
theorem k_X7_copies_8_6 {z : ZC} {D : va_G} {cI cZ : ClassId} {ad : Nat → Nat} {cc : ByteArray} {own : String} {nL d pc index : Nat} {ret : Option FieldType} {Q : State → Prop} {X : KX} {L : List (Nat × Value)} {rest : List Value} {n : Nat} {a1 a3 : Int32} (F : ZF z (yM D cI cZ ad) cc own nL ret d) (hd : 1 + 1 ≤ d) (hw : Cond.methodLink own index yX7_copies ∈ wsA) (hst : (rest.map fun v => v.category).sum ≤ 8) {β : Type} {e : KX → Option β} {r : β} (hf : zB1 (f_X7_copies_8_6 n X a1 a3) e = some r) (hdg : decode cc pc = .ok (.invokestatic index, 3)) (kk : ∀ X2 : KX, e X2 = some r → Z z (yM D cI cZ ad) nL Q X2 (pc + 3) L rest) : Z z (yM D cI cZ ad) nL Q X pc L (.int a3 :: .ref (ad 6) :: .int a1 :: .ref (ad 8) :: rest) := by
  obtain ⟨v, h1, h2⟩ := zB1_some hf
  exact z_cSV (As := [.ref (ad 8), .int a1, .ref (ad 6), .int a3]) F (c_X7_copies_8_6 n X a1 a3 h1) kn_X7_copies_8_6 kv_X7_copies_8_6 hw hd rfl hst hdg rfl (kk v h2)
theorem kv_X7_undo : zKv yX7_undo := ⟨wm_987, wm_988⟩
theorem kn_X7_undo : zKn yX7_undo cX7_undo 1 (some .int) 0 := ⟨wm_989, wm_62, by decide +kernel, by decide⟩
set_option maxHeartbeats 4000000 in
set_option maxRecDepth 100000 in
theorem z_X7_undo {z : ZC} {D : va_G} {cI cZ : ClassId} {ad : Nat → Nat} {R : Int32 × KX} (F : ZF z (yM D cI cZ ad) cX7_undo RX7 1 (some .int) 2) (n : Nat) (X : KX)  (hf : f_X7_undo n X = some R) : Z z (yM D cI cZ ad) 1 (zQI z (yM D cI cZ ad) R) X 0 [(0, .ref (ad 0))] [] := by
  unfold f_X7_undo at hf
  refine z_aload_n F dX7_undo_0 0 rfl rfl ?_
  refine gM_0_16 F wm_778 dX7_undo_1 ?_
  refine z_if_ne (tgt := 10) F hf dX7_undo_4 (by decide) (fun hf => ?_) (fun hf => ?_)
  · refine z_aload_n F dX7_undo_10 0 rfl rfl ?_
    refine z_dup F dX7_undo_11 rfl ?_
    refine gM_0_16 F wm_778 dX7_undo_12 ?_
    refine z_iconst (v := 1) F dX7_undo_15 (by decide +kernel) ?_
    refine z_isub F dX7_undo_16 ?_
    refine pM_0_16 F hf wm_778 dX7_undo_17 (fun X_1 hf => ?_)
    refine z_aload_n F dX7_undo_20 0 rfl rfl ?_
    refine gM_0_15 F wm_777 dX7_undo_21 ?_
    refine z_bipush (v := 71) F dX7_undo_24 (by decide +kernel) ?_
    refine z_aload_n F dX7_undo_26 0 rfl rfl ?_
    refine gM_0_16 F wm_778 dX7_undo_27 ?_
    refine z_imul F dX7_undo_30 ?_
    refine z_aload_n F dX7_undo_31 0 rfl rfl ?_
    refine gM_0_13 F wm_775 dX7_undo_32 ?_
    refine z_iconst (v := 0) F dX7_undo_35 (by decide +kernel) ?_
    refine k_X7_copies_8_6 F (by decide) wm_924 (Nat.le_of_ble_eq_true rfl) hf dX7_undo_36 (fun X_2 hf => ?_)
    refine z_aload_n F dX7_undo_39 0 rfl rfl ?_
    refine gM_0_16 F wm_778 dX7_undo_40 ?_
    exact z_iret F dX7_undo_43 (Option.some.inj hf)
  · refine z_ldc F wm_947 dX7_undo_7 ?_
    exact z_iret F dX7_undo_9 (Option.some.inj hf)
theorem c_X7_undo {D : va_G} {cI cZ : ClassId} {ad : Nat → Nat} {R : Int32 × KX} (n : Nat) (X : KX)  (hf : f_X7_undo n X = some R) : zMI (yM D cI cZ ad) yX7_undo cX7_undo 1 (some .int) 2 [.ref (ad 0)] X R := zMI_of (by decide +kernel) (Nat.le_of_ble_eq_true rfl) (fun z F => z_sub [0] rfl (z_X7_undo F n X hf))
theorem k_X7_undo {z : ZC} {D : va_G} {cI cZ : ClassId} {ad : Nat → Nat} {cc : ByteArray} {own : String} {nL d pc index : Nat} {ret : Option FieldType} {Q : State → Prop} {X : KX} {L : List (Nat × Value)} {rest : List Value} {n : Nat} (F : ZF z (yM D cI cZ ad) cc own nL ret d) (hd : 2 + 1 ≤ d) (hw : Cond.methodLink own index yX7_undo ∈ wsA) (hst : (rest.map fun v => v.category).sum ≤ 8) {β : Type} {e : Int32 → KX → Option β} {r : β} (hf : zB2 (f_X7_undo n X) e = some r) (hdg : decode cc pc = .ok (.invokevirtual index, 3)) (kk : ∀ (v : Int32) (X2 : KX), e v X2 = some r → Z z (yM D cI cZ ad) nL Q X2 (pc + 3) L (.int v :: rest)) : Z z (yM D cI cZ ad) nL Q X pc L (.ref (ad 0) :: rest) := by
  obtain ⟨v, X2, h1, h2⟩ := zB2_some hf
  exact z_cVI (As := []) F (c_X7_undo n X h1) kn_X7_undo kv_X7_undo hw (q0 := 0) rfl rfl hd rfl hst hdg rfl (kk v X2 h2)
theorem kv_X7_guest : zKv yX7_guest := ⟨wm_991, wm_992⟩
theorem kn_X7_guest : zKn yX7_guest cX7_guest 3 (some .int) 2 := ⟨wm_993, wm_62, by decide +kernel, by decide⟩
set_option maxHeartbeats 4000000 in
set_option maxRecDepth 100000 in
theorem z_X7_guest {z : ZC} {D : va_G} {cI cZ : ClassId} {ad : Nat → Nat} {r : Int32} (F : ZF z (yM D cI cZ ad) cX7_guest RX7 3 (some .int) 3) (X : KX) (a1 : Int32) (a2 : Int32) (hf : f_X7_guest X a1 a2 = some r) : Z z (yM D cI cZ ad) 3 (zQI z (yM D cI cZ ad) (r, X)) X 0 [(0, .ref (ad 0)), (1, .int a1), (2, .int a2)] [] := by
  unfold f_X7_guest at hf
  refine z_aload_n F dX7_guest_0 0 rfl rfl ?_
  refine z_iload_n F dX7_guest_1 1 rfl rfl ?_
  refine k_X7_isGuest F (by decide) wm_935 (Nat.le_of_ble_eq_true rfl) hf dX7_guest_2 (fun r_1 hf => ?_)
  refine z_if_eq (tgt := 26) F hf dX7_guest_5 (by decide) (fun hf => ?_) (fun hf => ?_)
  · refine z_ldc F wm_846 dX7_guest_26 ?_
    exact z_iret F dX7_guest_28 (Prod.ext (Option.some.inj hf) rfl)
  · refine z_iload_n F dX7_guest_8 2 rfl rfl ?_
    refine z_iconst (v := 0) F dX7_guest_9 (by decide +kernel) ?_
    refine z_iconst (v := 4) F dX7_guest_10 (by decide +kernel) ?_
    refine k_X7_in F (by decide) wm_843 (Nat.le_of_ble_eq_true rfl) dX7_guest_11 ?_
    refine z_if_eq (tgt := 26) F hf dX7_guest_14 (by decide) (fun hf => ?_) (fun hf => ?_)
    · refine z_ldc F wm_846 dX7_guest_26 ?_
      exact z_iret F dX7_guest_28 (Prod.ext (Option.some.inj hf) rfl)
    · refine z_aload_n F dX7_guest_17 0 rfl rfl ?_
      refine z_iload_n F dX7_guest_18 1 rfl rfl ?_
      refine z_iload_n F dX7_guest_19 2 rfl rfl ?_
      refine k_X7_of F (by decide) wm_943 (Nat.le_of_ble_eq_true rfl) hf dX7_guest_20 (fun r_2 hf => ?_)
      refine z_goto (tgt := 28) F dX7_guest_23 (by decide) ?_
      exact z_iret F dX7_guest_28 (Prod.ext (Option.some.inj hf) rfl)
theorem c_X7_guest {D : va_G} {cI cZ : ClassId} {ad : Nat → Nat} {r : Int32} (X : KX) (a1 : Int32) (a2 : Int32) (hf : f_X7_guest X a1 a2 = some r) : zMI (yM D cI cZ ad) yX7_guest cX7_guest 3 (some .int) 3 [.ref (ad 0), .int a1, .int a2] X (r, X) := zMI_of (by decide +kernel) (Nat.le_of_ble_eq_true rfl) (fun z F => z_sub [0, 1, 2] rfl (z_X7_guest F X a1 a2 hf))
theorem k_X7_guest {z : ZC} {D : va_G} {cI cZ : ClassId} {ad : Nat → Nat} {cc : ByteArray} {own : String} {nL d pc index : Nat} {ret : Option FieldType} {Q : State → Prop} {X : KX} {L : List (Nat × Value)} {rest : List Value} {a1 a2 : Int32} (F : ZF z (yM D cI cZ ad) cc own nL ret d) (hd : 3 + 1 ≤ d) (hw : Cond.methodLink own index yX7_guest ∈ wsA) (hst : (rest.map fun v => v.category).sum ≤ 8) {β : Type} {e : Int32 → Option β} {r : β} (hf : zB1 (f_X7_guest X a1 a2) e = some r) (hdg : decode cc pc = .ok (.invokevirtual index, 3)) (kk : ∀ v : Int32, e v = some r → Z z (yM D cI cZ ad) nL Q X (pc + 3) L (.int v :: rest)) : Z z (yM D cI cZ ad) nL Q X pc L (.int a2 :: .int a1 :: .ref (ad 0) :: rest) := by
  obtain ⟨v, h1, h2⟩ := zB1_some hf
  exact z_cVI (As := [.int a1, .int a2]) F (c_X7_guest X a1 a2 h1) kn_X7_guest kv_X7_guest hw (q0 := 0) rfl rfl hd rfl hst hdg rfl (kk v h2)
theorem kv_X7_hint : zKv yX7_hint := ⟨wm_995, wm_996⟩
theorem kn_X7_hint : zKn yX7_hint cX7_hint 3 (some .int) 2 := ⟨wm_997, wm_62, by decide +kernel, by decide⟩
set_option maxHeartbeats 4000000 in
set_option maxRecDepth 100000 in
theorem z_X7_hint {z : ZC} {D : va_G} {cI cZ : ClassId} {ad : Nat → Nat} {r : Int32} (F : ZF z (yM D cI cZ ad) cX7_hint RX7 3 (some .int) 3) (X : KX) (a1 : Int32) (a2 : Int32) (hf : f_X7_hint X a1 a2 = some r) : Z z (yM D cI cZ ad) 3 (zQI z (yM D cI cZ ad) (r, X)) X 0 [(0, .ref (ad 0)), (1, .int a1), (2, .int a2)] [] := by
  unfold f_X7_hint at hf
  refine z_aload_n F dX7_hint_0 0 rfl rfl ?_
  refine z_iload_n F dX7_hint_1 1 rfl rfl ?_
  refine k_X7_isHint F (by decide) wm_956 (Nat.le_of_ble_eq_true rfl) hf dX7_hint_2 (fun r_1 hf => ?_)
  refine z_if_eq (tgt := 17) F hf dX7_hint_5 (by decide) (fun hf => ?_) (fun hf => ?_)
  · refine z_ldc F wm_846 dX7_hint_17 ?_
    exact z_iret F dX7_hint_19 (Prod.ext (Option.some.inj hf) rfl)
  · refine z_iload_n F dX7_hint_8 2 rfl rfl ?_
    refine z_iconst (v := 0) F dX7_hint_9 (by decide +kernel) ?_
    refine z_iconst (v := 3) F dX7_hint_10 (by decide +kernel) ?_
    refine k_X7_in F (by decide) wm_843 (Nat.le_of_ble_eq_true rfl) dX7_hint_11 ?_
    refine z_if_ne (tgt := 20) F hf dX7_hint_14 (by decide) (fun hf => ?_) (fun hf => ?_)
    · refine z_iload_n F dX7_hint_20 2 rfl rfl ?_
      refine z_iconst (v := 3) F dX7_hint_21 (by decide +kernel) ?_
      refine z_icmp_ge (tgt := 43) F hf dX7_hint_22 (by decide) (fun hf => ?_) (fun hf => ?_)
      · refine z_aload_n F dX7_hint_43 0 rfl rfl ?_
        refine gM_0_13 F wm_775 dX7_hint_44 ?_
        refine z_iconst (v := 4) F dX7_hint_47 (by decide +kernel) ?_
        refine lM_6 F hf dX7_hint_48 (fun hf => ?_)
        refine z_iload_n F dX7_hint_49 1 rfl rfl ?_
        refine z_ishr F dX7_hint_50 ?_
        refine z_iconst (v := 1) F dX7_hint_51 (by decide +kernel) ?_
        refine z_iand F dX7_hint_52 ?_
        exact z_iret F dX7_hint_53 (Prod.ext (Option.some.inj hf) rfl)
      · refine z_aload_n F dX7_hint_25 0 rfl rfl ?_
        refine gM_0_13 F wm_775 dX7_hint_26 ?_
        refine z_bipush (v := 9) F dX7_hint_29 (by decide +kernel) ?_
        refine z_iconst (v := 4) F dX7_hint_31 (by decide +kernel) ?_
        refine z_iload_n F dX7_hint_32 1 rfl rfl ?_
        refine z_imul F dX7_hint_33 ?_
        refine z_iadd F dX7_hint_34 ?_
        refine z_iconst (v := 1) F dX7_hint_35 (by decide +kernel) ?_
        refine z_iadd F dX7_hint_36 ?_
        refine z_iload_n F dX7_hint_37 2 rfl rfl ?_
        refine z_iadd F dX7_hint_38 ?_
        refine lM_6 F hf dX7_hint_39 (fun hf => ?_)
        refine z_goto (tgt := 53) F dX7_hint_40 (by decide) ?_
        exact z_iret F dX7_hint_53 (Prod.ext (Option.some.inj hf) rfl)
    · refine z_ldc F wm_846 dX7_hint_17 ?_
      exact z_iret F dX7_hint_19 (Prod.ext (Option.some.inj hf) rfl)
theorem c_X7_hint {D : va_G} {cI cZ : ClassId} {ad : Nat → Nat} {r : Int32} (X : KX) (a1 : Int32) (a2 : Int32) (hf : f_X7_hint X a1 a2 = some r) : zMI (yM D cI cZ ad) yX7_hint cX7_hint 3 (some .int) 3 [.ref (ad 0), .int a1, .int a2] X (r, X) := zMI_of (by decide +kernel) (Nat.le_of_ble_eq_true rfl) (fun z F => z_sub [0, 1, 2] rfl (z_X7_hint F X a1 a2 hf))
theorem k_X7_hint {z : ZC} {D : va_G} {cI cZ : ClassId} {ad : Nat → Nat} {cc : ByteArray} {own : String} {nL d pc index : Nat} {ret : Option FieldType} {Q : State → Prop} {X : KX} {L : List (Nat × Value)} {rest : List Value} {a1 a2 : Int32} (F : ZF z (yM D cI cZ ad) cc own nL ret d) (hd : 3 + 1 ≤ d) (hw : Cond.methodLink own index yX7_hint ∈ wsA) (hst : (rest.map fun v => v.category).sum ≤ 8) {β : Type} {e : Int32 → Option β} {r : β} (hf : zB1 (f_X7_hint X a1 a2) e = some r) (hdg : decode cc pc = .ok (.invokevirtual index, 3)) (kk : ∀ v : Int32, e v = some r → Z z (yM D cI cZ ad) nL Q X (pc + 3) L (.int v :: rest)) : Z z (yM D cI cZ ad) nL Q X pc L (.int a2 :: .int a1 :: .ref (ad 0) :: rest) := by
  obtain ⟨v, h1, h2⟩ := zB1_some hf
  exact z_cVI (As := [.int a1, .int a2]) F (c_X7_hint X a1 a2 h1) kn_X7_hint kv_X7_hint hw (q0 := 0) rfl rfl hd rfl hst hdg rfl (kk v h2)
theorem kv_X7_leads : zKv yX7_leads := ⟨wm_999, wm_1000⟩
theorem kn_X7_leads : zKn yX7_leads cX7_leads 3 (some .int) 2 := ⟨wm_1001, wm_62, by decide +kernel, by decide⟩
set_option maxHeartbeats 4000000 in
set_option maxRecDepth 100000 in
theorem z_X7_leads {z : ZC} {D : va_G} {cI cZ : ClassId} {ad : Nat → Nat} {r : Int32} (F : ZF z (yM D cI cZ ad) cX7_leads RX7 3 (some .int) 3) (X : KX) (a1 : Int32) (a2 : Int32) (hf : f_X7_leads X a1 a2 = some r) : Z z (yM D cI cZ ad) 3 (zQI z (yM D cI cZ ad) (r, X)) X 0 [(0, .ref (ad 0)), (1, .int a1), (2, .int a2)] [] := by
  unfold f_X7_leads at hf
  refine z_aload_n F dX7_leads_0 0 rfl rfl ?_
  refine z_iload_n F dX7_leads_1 1 rfl rfl ?_
  refine k_X7_isHint F (by decide) wm_956 (Nat.le_of_ble_eq_true rfl) hf dX7_leads_2 (fun r_1 hf => ?_)
  refine z_if_eq (tgt := 27) F hf dX7_leads_5 (by decide) (fun hf => ?_) (fun hf => ?_)
  · refine z_ldc F wm_846 dX7_leads_27 ?_
    exact z_iret F dX7_leads_29 (Prod.ext (Option.some.inj hf) rfl)
  · refine z_iload_n F dX7_leads_8 2 rfl rfl ?_
    refine z_iconst (v := 0) F dX7_leads_9 (by decide +kernel) ?_
    refine z_bipush (v := 7) F dX7_leads_10 (by decide +kernel) ?_
    refine k_X7_in F (by decide) wm_843 (Nat.le_of_ble_eq_true rfl) dX7_leads_12 ?_
    refine z_if_eq (tgt := 27) F hf dX7_leads_15 (by decide) (fun hf => ?_) (fun hf => ?_)
    · refine z_ldc F wm_846 dX7_leads_27 ?_
      exact z_iret F dX7_leads_29 (Prod.ext (Option.some.inj hf) rfl)
    · refine z_aload_n F dX7_leads_18 0 rfl rfl ?_
      refine z_iload_n F dX7_leads_19 1 rfl rfl ?_
      refine z_iload_n F dX7_leads_20 2 rfl rfl ?_
      refine k_X7_leadsNow F (by decide) wm_966 (Nat.le_of_ble_eq_true rfl) hf dX7_leads_21 (fun r_2 hf => ?_)
      refine z_goto (tgt := 29) F dX7_leads_24 (by decide) ?_
      exact z_iret F dX7_leads_29 (Prod.ext (Option.some.inj hf) rfl)
theorem c_X7_leads {D : va_G} {cI cZ : ClassId} {ad : Nat → Nat} {r : Int32} (X : KX) (a1 : Int32) (a2 : Int32) (hf : f_X7_leads X a1 a2 = some r) : zMI (yM D cI cZ ad) yX7_leads cX7_leads 3 (some .int) 3 [.ref (ad 0), .int a1, .int a2] X (r, X) := zMI_of (by decide +kernel) (Nat.le_of_ble_eq_true rfl) (fun z F => z_sub [0, 1, 2] rfl (z_X7_leads F X a1 a2 hf))
theorem k_X7_leads {z : ZC} {D : va_G} {cI cZ : ClassId} {ad : Nat → Nat} {cc : ByteArray} {own : String} {nL d pc index : Nat} {ret : Option FieldType} {Q : State → Prop} {X : KX} {L : List (Nat × Value)} {rest : List Value} {a1 a2 : Int32} (F : ZF z (yM D cI cZ ad) cc own nL ret d) (hd : 3 + 1 ≤ d) (hw : Cond.methodLink own index yX7_leads ∈ wsA) (hst : (rest.map fun v => v.category).sum ≤ 8) {β : Type} {e : Int32 → Option β} {r : β} (hf : zB1 (f_X7_leads X a1 a2) e = some r) (hdg : decode cc pc = .ok (.invokevirtual index, 3)) (kk : ∀ v : Int32, e v = some r → Z z (yM D cI cZ ad) nL Q X (pc + 3) L (.int v :: rest)) : Z z (yM D cI cZ ad) nL Q X pc L (.int a2 :: .int a1 :: .ref (ad 0) :: rest) := by
  obtain ⟨v, h1, h2⟩ := zB1_some hf
  exact z_cVI (As := [.int a1, .int a2]) F (c_X7_leads X a1 a2 h1) kn_X7_leads kv_X7_leads hw (q0 := 0) rfl rfl hd rfl hst hdg rfl (kk v h2)
theorem kv_X7_allHints : zKv yX7_allHints := ⟨wm_1016, wm_40⟩
theorem kn_X7_allHints : zKn yX7_allHints cX7_allHints 1 (some .int) 0 := ⟨wm_1017, wm_62, by decide +kernel, by decide⟩
set_option maxHeartbeats 4000000 in
set_option maxRecDepth 100000 in
theorem z_X7_allHints {z : ZC} {D : va_G} {cI cZ : ClassId} {ad : Nat → Nat} {r : Int32} (F : ZF z (yM D cI cZ ad) cX7_allHints RX7 1 (some .int) 1) (X : KX)  (hf : f_X7_allHints X = some r) : Z z (yM D cI cZ ad) 1 (zQI z (yM D cI cZ ad) (r, X)) X 0 [(0, .ref (ad 0))] [] := by
  unfold f_X7_allHints at hf
  refine z_iconst (v := 1) F dX7_allHints_0 (by decide +kernel) ?_
  refine z_aload_n F dX7_allHints_1 0 rfl rfl ?_
  refine gM_0_13 F wm_775 dX7_allHints_2 ?_
  refine z_bipush (v := 7) F dX7_allHints_5 (by decide +kernel) ?_
  refine lM_6 F hf dX7_allHints_7 (fun hf => ?_)
  refine z_ishl F dX7_allHints_8 ?_
  refine z_iconst (v := 1) F dX7_allHints_9 (by decide +kernel) ?_
  refine z_isub F dX7_allHints_10 ?_
  exact z_iret F dX7_allHints_11 (Prod.ext (Option.some.inj hf) rfl)
theorem c_X7_allHints {D : va_G} {cI cZ : ClassId} {ad : Nat → Nat} {r : Int32} (X : KX)  (hf : f_X7_allHints X = some r) : zMI (yM D cI cZ ad) yX7_allHints cX7_allHints 1 (some .int) 1 [.ref (ad 0)] X (r, X) := zMI_of (by decide +kernel) (Nat.le_of_ble_eq_true rfl) (fun z F => z_sub [0] rfl (z_X7_allHints F X hf))
theorem k_X7_allHints {z : ZC} {D : va_G} {cI cZ : ClassId} {ad : Nat → Nat} {cc : ByteArray} {own : String} {nL d pc index : Nat} {ret : Option FieldType} {Q : State → Prop} {X : KX} {L : List (Nat × Value)} {rest : List Value} (F : ZF z (yM D cI cZ ad) cc own nL ret d) (hd : 1 + 1 ≤ d) (hw : Cond.methodLink own index yX7_allHints ∈ wsA) (hst : (rest.map fun v => v.category).sum ≤ 8) {β : Type} {e : Int32 → Option β} {r : β} (hf : zB1 (f_X7_allHints X) e = some r) (hdg : decode cc pc = .ok (.invokevirtual index, 3)) (kk : ∀ v : Int32, e v = some r → Z z (yM D cI cZ ad) nL Q X (pc + 3) L (.int v :: rest)) : Z z (yM D cI cZ ad) nL Q X pc L (.ref (ad 0) :: rest) := by
  obtain ⟨v, h1, h2⟩ := zB1_some hf
  exact z_cVI (As := []) F (c_X7_allHints X h1) kn_X7_allHints kv_X7_allHints hw (q0 := 0) rfl rfl hd rfl hst hdg rfl (kk v h2)
theorem kv_X7_ahead : zKv yX7_ahead := ⟨wm_1012, wm_39⟩
theorem kn_X7_ahead : zKn yX7_ahead cX7_ahead 2 (some .int) 1 := ⟨wm_1013, wm_62, by decide +kernel, by decide⟩
set_option maxHeartbeats 4000000 in
set_option maxRecDepth 100000 in
theorem z_X7_ahead {z : ZC} {D : va_G} {cI cZ : ClassId} {ad : Nat → Nat} {r : Int32} (F : ZF z (yM D cI cZ ad) cX7_ahead RX7 2 (some .int) 2) (X : KX) (a1 : Int32) (hf : f_X7_ahead X a1 = some r) : Z z (yM D cI cZ ad) 2 (zQI z (yM D cI cZ ad) (r, X)) X 0 [(0, .ref (ad 0)), (1, .int a1)] [] := by
  unfold f_X7_ahead at hf
  refine z_aload_n F dX7_ahead_0 0 rfl rfl ?_
  refine gM_0_13 F wm_775 dX7_ahead_1 ?_
  refine z_iconst (v := 3) F dX7_ahead_4 (by decide +kernel) ?_
  refine lM_6 F hf dX7_ahead_5 (fun hf => ?_)
  refine z_iload_n F dX7_ahead_6 1 rfl rfl ?_
  refine z_icmp_ne (tgt := 26) F hf dX7_ahead_7 (by decide) (fun hf => ?_) (fun hf => ?_)
  · refine z_aload_n F dX7_ahead_26 0 rfl rfl ?_
    refine k_X7_allHints F (by decide) wm_1014 (Nat.le_of_ble_eq_true rfl) hf dX7_ahead_27 (fun r_1 hf => ?_)
    exact z_iret F dX7_ahead_30 (Prod.ext (Option.some.inj hf) rfl)
  · refine z_aload_n F dX7_ahead_10 0 rfl rfl ?_
    refine k_X7_allHints F (by decide) wm_1014 (Nat.le_of_ble_eq_true rfl) hf dX7_ahead_11 (fun r_2 hf => ?_)
    refine z_aload_n F dX7_ahead_14 0 rfl rfl ?_
    refine gM_0_13 F wm_775 dX7_ahead_15 ?_
    refine z_iconst (v := 4) F dX7_ahead_18 (by decide +kernel) ?_
    refine lM_6 F hf dX7_ahead_19 (fun hf => ?_)
    refine z_iconst (v := (-1)) F dX7_ahead_20 (by decide +kernel) ?_
    refine z_ixor F dX7_ahead_21 ?_
    refine z_iand F dX7_ahead_22 ?_
    refine z_goto (tgt := 30) F dX7_ahead_23 (by decide) ?_
    exact z_iret F dX7_ahead_30 (Prod.ext (Option.some.inj hf) rfl)
theorem c_X7_ahead {D : va_G} {cI cZ : ClassId} {ad : Nat → Nat} {r : Int32} (X : KX) (a1 : Int32) (hf : f_X7_ahead X a1 = some r) : zMI (yM D cI cZ ad) yX7_ahead cX7_ahead 2 (some .int) 2 [.ref (ad 0), .int a1] X (r, X) := zMI_of (by decide +kernel) (Nat.le_of_ble_eq_true rfl) (fun z F => z_sub [0, 1] rfl (z_X7_ahead F X a1 hf))
theorem k_X7_ahead {z : ZC} {D : va_G} {cI cZ : ClassId} {ad : Nat → Nat} {cc : ByteArray} {own : String} {nL d pc index : Nat} {ret : Option FieldType} {Q : State → Prop} {X : KX} {L : List (Nat × Value)} {rest : List Value} {a1 : Int32} (F : ZF z (yM D cI cZ ad) cc own nL ret d) (hd : 2 + 1 ≤ d) (hw : Cond.methodLink own index yX7_ahead ∈ wsA) (hst : (rest.map fun v => v.category).sum ≤ 8) {β : Type} {e : Int32 → Option β} {r : β} (hf : zB1 (f_X7_ahead X a1) e = some r) (hdg : decode cc pc = .ok (.invokevirtual index, 3)) (kk : ∀ v : Int32, e v = some r → Z z (yM D cI cZ ad) nL Q X (pc + 3) L (.int v :: rest)) : Z z (yM D cI cZ ad) nL Q X pc L (.int a1 :: .ref (ad 0) :: rest) := by
  obtain ⟨v, h1, h2⟩ := zB1_some hf
  exact z_cVI (As := [.int a1]) F (c_X7_ahead X a1 h1) kn_X7_ahead kv_X7_ahead hw (q0 := 0) rfl rfl hd rfl hst hdg rfl (kk v h2)
theorem kv_X7_atMost : zKv yX7_atMost := ⟨wm_1008, wm_38⟩
theorem kn_X7_atMost : zKn yX7_atMost cX7_atMost 4 (some .int) 1 := ⟨wm_1009, wm_62, by decide +kernel, by decide⟩
set_option maxHeartbeats 4000000 in
set_option maxRecDepth 100000 in
theorem z_X7_atMost_29 {z : ZC} {D : va_G} {cI cZ : ClassId} {ad : Nat → Nat} {r : Int32} (F : ZF z (yM D cI cZ ad) cX7_atMost RX7 4 (some .int) 3) (n : Nat) (X : KX) (s0 : Int32) (s1 : Int32) (v1 : Int32) (hf : f_X7_atMost_29 n X s0 s1 v1 = some r) : Z z (yM D cI cZ ad) 4 (zQI z (yM D cI cZ ad) (r, X)) X 29 [(0, .ref (ad 0)), (1, .int v1)] [.int s0, .int s1] := by
  unfold f_X7_atMost_29 at hf
  refine z_isub F dX7_atMost_29 ?_
  refine z_top hf (fun v2_1 hf => ?_)
  refine z_istore_n (L' := [(2, .int v2_1), (0, .ref (ad 0)), (1, .int v1)]) F dX7_atMost_30 rfl (Nat.le_of_ble_eq_true rfl) rfl ?_
  refine z_aload_n F dX7_atMost_31 1 rfl rfl ?_
  refine z_iload_n F dX7_atMost_32 2 rfl rfl ?_
  refine k_X7_ahead F (by decide) wm_1010 (Nat.le_of_ble_eq_true rfl) hf dX7_atMost_33 (fun r_2 hf => ?_)
  refine k_X7_ones F (by decide) wm_963 (Nat.le_of_ble_eq_true rfl) hf dX7_atMost_36 (fun r_3 hf => ?_)
  refine z_istore_n (L' := [(3, .int r_3), (2, .int v2_1), (0, .ref (ad 0)), (1, .int v1)]) F dX7_atMost_39 rfl (Nat.le_of_ble_eq_true rfl) rfl ?_
  refine z_iload_n F dX7_atMost_40 0 rfl rfl ?_
  refine z_iload_n F dX7_atMost_41 1 rfl rfl ?_
  refine z_icmp_ge (tgt := 49) F hf dX7_atMost_42 (by decide) (fun hf => ?_) (fun hf => ?_)
  · refine z_iload_n F dX7_atMost_49 1 rfl rfl ?_
    exact z_iret F dX7_atMost_50 (Prod.ext (Option.some.inj hf) rfl)
  · refine z_iload_n F dX7_atMost_45 0 rfl rfl ?_
    refine z_goto (tgt := 50) F dX7_atMost_46 (by decide) ?_
    exact z_iret F dX7_atMost_50 (Prod.ext (Option.some.inj hf) rfl)
set_option maxHeartbeats 4000000 in
set_option maxRecDepth 100000 in
theorem z_X7_atMost {z : ZC} {D : va_G} {cI cZ : ClassId} {ad : Nat → Nat} {r : Int32} (F : ZF z (yM D cI cZ ad) cX7_atMost RX7 4 (some .int) 3) (n : Nat) (X : KX) (a1 : Int32) (hf : f_X7_atMost n X a1 = some r) : Z z (yM D cI cZ ad) 4 (zQI z (yM D cI cZ ad) (r, X)) X 0 [(0, .ref (ad 0)), (1, .int a1)] [] := by
  unfold f_X7_atMost at hf
  refine z_aload_n F dX7_atMost_0 0 rfl rfl ?_
  refine gM_0_13 F wm_775 dX7_atMost_1 ?_
  refine z_iconst (v := 0) F dX7_atMost_4 (by decide +kernel) ?_
  refine lM_6 F hf dX7_atMost_5 (fun hf => ?_)
  refine z_aload_n F dX7_atMost_6 0 rfl rfl ?_
  refine gM_0_13 F wm_775 dX7_atMost_7 ?_
  refine z_iconst (v := 3) F dX7_atMost_10 (by decide +kernel) ?_
  refine lM_6 F hf dX7_atMost_11 (fun hf => ?_)
  refine z_iload_n F dX7_atMost_12 1 rfl rfl ?_
  refine z_icmp_ne (tgt := 28) F hf dX7_atMost_13 (by decide) (fun hf => ?_) (fun hf => ?_)
  · refine z_iconst (v := 0) F dX7_atMost_28 (by decide +kernel) ?_
    exact z_sub [0, 1] rfl (z_X7_atMost_29 F n X 0 (X 6 (0 : Int32).toNatClampNeg) a1 hf)
  · refine z_aload_n F dX7_atMost_16 0 rfl rfl ?_
    refine gM_0_13 F wm_775 dX7_atMost_17 ?_
    refine z_iconst (v := 4) F dX7_atMost_20 (by decide +kernel) ?_
    refine lM_6 F hf dX7_atMost_21 (fun hf => ?_)
    refine k_X7_ones F (by decide) wm_963 (Nat.le_of_ble_eq_true rfl) hf dX7_atMost_22 (fun r_1 hf => ?_)
    refine z_goto (tgt := 29) F dX7_atMost_25 (by decide) ?_
    exact z_sub [0, 1] rfl (z_X7_atMost_29 F n X r_1 (X 6 (0 : Int32).toNatClampNeg) a1 hf)
theorem c_X7_atMost {D : va_G} {cI cZ : ClassId} {ad : Nat → Nat} {r : Int32} (n : Nat) (X : KX) (a1 : Int32) (hf : f_X7_atMost n X a1 = some r) : zMI (yM D cI cZ ad) yX7_atMost cX7_atMost 4 (some .int) 3 [.ref (ad 0), .int a1] X (r, X) := zMI_of (by decide +kernel) (Nat.le_of_ble_eq_true rfl) (fun z F => z_sub [0, 1] rfl (z_X7_atMost F n X a1 hf))
theorem k_X7_atMost {z : ZC} {D : va_G} {cI cZ : ClassId} {ad : Nat → Nat} {cc : ByteArray} {own : String} {nL d pc index : Nat} {ret : Option FieldType} {Q : State → Prop} {X : KX} {L : List (Nat × Value)} {rest : List Value} {n : Nat} {a1 : Int32} (F : ZF z (yM D cI cZ ad) cc own nL ret d) (hd : 3 + 1 ≤ d) (hw : Cond.methodLink own index yX7_atMost ∈ wsA) (hst : (rest.map fun v => v.category).sum ≤ 8) {β : Type} {e : Int32 → Option β} {r : β} (hf : zB1 (f_X7_atMost n X a1) e = some r) (hdg : decode cc pc = .ok (.invokevirtual index, 3)) (kk : ∀ v : Int32, e v = some r → Z z (yM D cI cZ ad) nL Q X (pc + 3) L (.int v :: rest)) : Z z (yM D cI cZ ad) nL Q X pc L (.int a1 :: .ref (ad 0) :: rest) := by
  obtain ⟨v, h1, h2⟩ := zB1_some hf
  exact z_cVI (As := [.int a1]) F (c_X7_atMost n X a1 h1) kn_X7_atMost kv_X7_atMost hw (q0 := 0) rfl rfl hd rfl hst hdg rfl (kk v h2)
theorem kv_X7_power : Cond.static yX7_power ∈ wsA := wm_1019
theorem kn_X7_power : zKn yX7_power cX7_power 4 (some .int) 2 := ⟨wm_1020, wm_62, by decide +kernel, by decide⟩
set_option maxHeartbeats 4000000 in
set_option maxRecDepth 100000 in
theorem z_X7_power_4 {z : ZC} {D : va_G} {cI cZ : ClassId} {ad : Nat → Nat} {r : Int32} (F : ZF z (yM D cI cZ ad) cX7_power RX7 4 (some .int) 1) {X : KX} (n : Nat) : ∀ (t : Nat) (v0 : Int32) (v1 : Int32) (v2 : Int32) (v3 : Int32), f_X7_power_4 n t v0 v1 v2 v3 = some r → Z z (yM D cI cZ ad) 4 (zQI z (yM D cI cZ ad) (r, X)) X 4 [(0, .int v0), (1, .int v1), (2, .int v2), (3, .int v3)] [] := by
  intro t
  induction t with
  | zero => intro v0 v1 v2 v3 hf; rw [f_X7_power_4] at hf; exact zNone hf
  | succ t ih =>
    intro v0 v1 v2 v3 hf
    rw [f_X7_power_4] at hf
    refine z_iload_n F dX7_power_4 3 rfl rfl ?_
    refine z_iload_n F dX7_power_5 1 rfl rfl ?_
    refine z_icmp_ge (tgt := 19) F hf dX7_power_6 (by decide) (fun hf => ?_) (fun hf => ?_)
    · refine z_iload_n F dX7_power_19 2 rfl rfl ?_
      exact z_iret F dX7_power_20 (Prod.ext (Option.some.inj hf) rfl)
    · refine z_iload_n F dX7_power_9 2 rfl rfl ?_
      refine z_iload_n F dX7_power_10 0 rfl rfl ?_
      refine z_imul F dX7_power_11 ?_
      refine z_top hf (fun v2_1 hf => ?_)
      refine z_istore_n (L' := [(2, .int v2_1), (0, .int v0), (1, .int v1), (3, .int v3)]) F dX7_power_12 rfl (Nat.le_of_ble_eq_true rfl) rfl ?_
      refine z_iinc (w := 1) (L' := fun v3_2 => [(3, .int v3_2), (2, .int v2_1), (0, .int v0), (1, .int v1)]) F hf dX7_power_13 3 rfl (by decide +kernel) (Nat.le_of_ble_eq_true rfl) (fun _ => rfl) (fun v3_2 hf => ?_)
      refine z_goto (tgt := 4) F dX7_power_16 (by decide) ?_
      exact z_sub [2, 3, 1, 0] rfl (ih v0 v1 v2_1 v3_2 hf)
set_option maxHeartbeats 4000000 in
set_option maxRecDepth 100000 in
theorem z_X7_power {z : ZC} {D : va_G} {cI cZ : ClassId} {ad : Nat → Nat} {r : Int32} (F : ZF z (yM D cI cZ ad) cX7_power RX7 4 (some .int) 1) {X : KX} (n : Nat) (a0 : Int32) (a1 : Int32) (hf : f_X7_power n a0 a1 = some r) : Z z (yM D cI cZ ad) 4 (zQI z (yM D cI cZ ad) (r, X)) X 0 [(0, .int a0), (1, .int a1)] [] := by
  unfold f_X7_power at hf
  refine z_iconst (v := 1) F dX7_power_0 (by decide +kernel) ?_
  refine z_istore_n (L' := [(2, .int 1), (0, .int a0), (1, .int a1)]) F dX7_power_1 rfl (Nat.le_of_ble_eq_true rfl) rfl ?_
  refine z_iconst (v := 0) F dX7_power_2 (by decide +kernel) ?_
  refine z_istore_n (L' := [(3, .int 0), (2, .int 1), (0, .int a0), (1, .int a1)]) F dX7_power_3 rfl (Nat.le_of_ble_eq_true rfl) rfl ?_
  exact z_sub [2, 3, 1, 0] rfl (z_X7_power_4 F n n a0 a1 1 0 hf)
theorem c_X7_power {D : va_G} {cI cZ : ClassId} {ad : Nat → Nat} {r : Int32} (n : Nat) (X : KX) (a0 : Int32) (a1 : Int32) (hf : f_X7_power n a0 a1 = some r) : zMI (yM D cI cZ ad) yX7_power cX7_power 4 (some .int) 1 [.int a0, .int a1] X (r, X) := zMI_of (by decide +kernel) (Nat.le_of_ble_eq_true rfl) (fun z F => z_sub [0, 1] rfl (z_X7_power F n a0 a1 hf))
theorem k_X7_power {z : ZC} {D : va_G} {cI cZ : ClassId} {ad : Nat → Nat} {cc : ByteArray} {own : String} {nL d pc index : Nat} {ret : Option FieldType} {Q : State → Prop} {X : KX} {L : List (Nat × Value)} {rest : List Value} {n : Nat} {a0 a1 : Int32} (F : ZF z (yM D cI cZ ad) cc own nL ret d) (hd : 1 + 1 ≤ d) (hw : Cond.methodLink own index yX7_power ∈ wsA) (hst : (rest.map fun v => v.category).sum ≤ 8) {β : Type} {e : Int32 → Option β} {r : β} (hf : zB1 (f_X7_power n a0 a1) e = some r) (hdg : decode cc pc = .ok (.invokestatic index, 3)) (kk : ∀ v : Int32, e v = some r → Z z (yM D cI cZ ad) nL Q X (pc + 3) L (.int v :: rest)) : Z z (yM D cI cZ ad) nL Q X pc L (.int a1 :: .int a0 :: rest) := by
  obtain ⟨v, h1, h2⟩ := zB1_some hf
  exact z_cSI (As := [.int a0, .int a1]) F (c_X7_power n X a0 a1 h1) kn_X7_power kv_X7_power hw hd rfl hst hdg rfl (kk v h2)
theorem k_X7_powerN {z : ZC} {D : va_G} {cI cZ : ClassId} {ad : Nat → Nat} {cc : ByteArray} {own : String} {nL d pc index : Nat} {ret : Option FieldType} {Q : State → Prop} {X : KX} {L : List (Nat × Value)} {rest : List Value} {n : Nat} {a0 a1 : Int32} (F : ZF z (yM D cI cZ ad) cc own nL ret d) (hd : 1 + 1 ≤ d) (hw : ∀ s, zN s → va_Nw (.methodLinkNest own index yX7_power "AilingKing") s) (hst : (rest.map fun v => v.category).sum ≤ 8) {β : Type} {e : Int32 → Option β} {r : β} (hf : zB1 (f_X7_power n a0 a1) e = some r) (hdg : decode cc pc = .ok (.invokestatic index, 3)) (kk : ∀ v : Int32, e v = some r → Z z (yM D cI cZ ad) nL Q X (pc + 3) L (.int v :: rest)) : Z z (yM D cI cZ ad) nL Q X pc L (.int a1 :: .int a0 :: rest) := by
  obtain ⟨v, h1, h2⟩ := zB1_some hf
  exact z_cNI (As := [.int a0, .int a1]) F (c_X7_power n X a0 a1 h1) kn_X7_power kv_X7_power hw hd rfl hst hdg rfl (kk v h2)
theorem kv_X7_endOf : zKv yX7_endOf := ⟨wm_1023, wm_41⟩
theorem kn_X7_endOf : zKn yX7_endOf cX7_endOf 9 (some .int) 4 := ⟨wm_1024, wm_62, by decide +kernel, by decide⟩
set_option maxHeartbeats 4000000 in
set_option maxRecDepth 100000 in
theorem z_X7_endOf_114 {z : ZC} {D : va_G} {cI cZ : ClassId} {ad : Nat → Nat} {r : Int32} {k39 : Int32 → Int32 → Int32 → Int32 → Int32 → Int32 → Option Int32} (F : ZF z (yM D cI cZ ad) cX7_endOf RX7 9 (some .int) 3) (n : Nat) (X : KX) (hk39 : ∀ (v2 : Int32) (v3 : Int32) (v4 : Int32) (v5 : Int32) (v6 : Int32) (v7 : Int32), k39 v2 v3 v4 v5 v6 v7 = some r → Z z (yM D cI cZ ad) 9 (zQI z (yM D cI cZ ad) (r, X)) X 39 [(0, .ref (ad 0)), (2, .int v2), (3, .int v3), (4, .int v4), (5, .int v5), (6, .int v6), (7, .int v7)] []) (v2 : Int32) (v3 : Int32) (v4 : Int32) (v5 : Int32) (v6 : Int32) (v7 : Int32) (hf : f_X7_endOf_114 n X k39 v2 v3 v4 v5 v6 v7 = some r) : Z z (yM D cI cZ ad) 9 (zQI z (yM D cI cZ ad) (r, X)) X 114 [(0, .ref (ad 0)), (2, .int v2), (3, .int v3), (4, .int v4), (5, .int v5), (6, .int v6), (7, .int v7)] [] := by
  unfold f_X7_endOf_114 at hf
  refine z_iinc (w := 1) (L' := fun v7_1 => [(7, .int v7_1), (0, .ref (ad 0)), (2, .int v2), (3, .int v3), (4, .int v4), (5, .int v5), (6, .int v6)]) F hf dX7_endOf_114 6 rfl (by decide +kernel) (Nat.le_of_ble_eq_true rfl) (fun _ => rfl) (fun v7_1 hf => ?_)
  refine z_goto (tgt := 39) F dX7_endOf_117 (by decide) ?_
  exact z_sub [1, 2, 3, 4, 5, 6, 0] rfl (hk39 v2 v3 v4 v5 v6 v7_1 hf)
set_option maxHeartbeats 4000000 in
set_option maxRecDepth 100000 in
theorem z_X7_endOf_39 {z : ZC} {D : va_G} {cI cZ : ClassId} {ad : Nat → Nat} {r : Int32} (F : ZF z (yM D cI cZ ad) cX7_endOf RX7 9 (some .int) 3) (n : Nat) (X : KX) : ∀ (t : Nat) (v2 : Int32) (v3 : Int32) (v4 : Int32) (v5 : Int32) (v6 : Int32) (v7 : Int32), f_X7_endOf_39 n X t v2 v3 v4 v5 v6 v7 = some r → Z z (yM D cI cZ ad) 9 (zQI z (yM D cI cZ ad) (r, X)) X 39 [(0, .ref (ad 0)), (2, .int v2), (3, .int v3), (4, .int v4), (5, .int v5), (6, .int v6), (7, .int v7)] [] := by
  intro t
  induction t with
  | zero => intro v2 v3 v4 v5 v6 v7 hf; rw [f_X7_endOf_39] at hf; exact zNone hf
  | succ t ih =>
    intro v2 v3 v4 v5 v6 v7 hf
    rw [f_X7_endOf_39] at hf
    refine z_iload F dX7_endOf_39 6 rfl ?_
    refine z_iload_n F dX7_endOf_41 2 rfl rfl ?_
    refine z_icmp_ge (tgt := 120) F hf dX7_endOf_42 (by decide) (fun hf => ?_) (fun hf => ?_)
    · refine z_iload F dX7_endOf_120 4 rfl ?_
      exact z_iret F dX7_endOf_122 (Prod.ext (Option.some.inj hf) rfl)
    · refine z_iload_n F dX7_endOf_45 1 rfl rfl ?_
      refine z_bipush (v := 8) F dX7_endOf_46 (by decide +kernel) ?_
      refine z_iload_n F dX7_endOf_48 2 rfl rfl ?_
      refine z_iconst (v := 1) F dX7_endOf_49 (by decide +kernel) ?_
      refine z_isub F dX7_endOf_50 ?_
      refine z_iload F dX7_endOf_51 6 rfl ?_
      refine z_isub F dX7_endOf_53 ?_
      refine k_X7_power F (by decide) wm_1018 (Nat.le_of_ble_eq_true rfl) hf dX7_endOf_54 (fun r_1 hf => ?_)
      refine z_idiv F hf dX7_endOf_57 (fun hf => ?_)
      refine z_bipush (v := 8) F dX7_endOf_58 (by decide +kernel) ?_
      refine z_iremL F (by decide) dX7_endOf_60 ?_
      refine z_top hf (fun v8_2 hf => ?_)
      refine z_istore (L' := [(8, .int v8_2), (0, .ref (ad 0)), (2, .int v2), (3, .int v3), (4, .int v4), (5, .int v5), (6, .int v6), (7, .int v7)]) F dX7_endOf_61 (Nat.le_of_ble_eq_true rfl) rfl ?_
      refine z_iload F dX7_endOf_63 6 rfl ?_
      refine z_iload F dX7_endOf_65 0 rfl ?_
      refine k_X7_has F (by decide) wm_960 (Nat.le_of_ble_eq_true rfl) dX7_endOf_67 ?_
      refine z_if_eq (tgt := 76) F hf dX7_endOf_70 (by decide) (fun hf => ?_) (fun hf => ?_)
      · refine z_iload F dX7_endOf_76 6 rfl ?_
        refine z_iconst (v := 1) F dX7_endOf_78 (by decide +kernel) ?_
        refine z_iload F dX7_endOf_79 0 rfl ?_
        refine z_ishl F dX7_endOf_81 ?_
        refine z_ior F dX7_endOf_82 ?_
        refine z_top hf (fun v6_3 hf => ?_)
        refine z_istore (L' := [(6, .int v6_3), (8, .int v8_2), (0, .ref (ad 0)), (2, .int v2), (3, .int v3), (4, .int v4), (5, .int v5), (7, .int v7)]) F dX7_endOf_83 (Nat.le_of_ble_eq_true rfl) rfl ?_
        refine z_aload_n F dX7_endOf_85 2 rfl rfl ?_
        refine z_iload F dX7_endOf_86 1 rfl ?_
        refine z_iload F dX7_endOf_88 6 rfl ?_
        refine k_X7_leadsNow F (by decide) wm_966 (Nat.le_of_ble_eq_true rfl) hf dX7_endOf_90 (fun r_4 hf => ?_)
        refine z_istore (L' := [(5, .int r_4), (6, .int v6_3), (8, .int v8_2), (0, .ref (ad 0)), (2, .int v2), (3, .int v3), (4, .int v4), (7, .int v7)]) F dX7_endOf_93 (Nat.le_of_ble_eq_true rfl) rfl ?_
        refine z_iload F dX7_endOf_95 6 rfl ?_
        refine z_if_eq (tgt := 114) F hf dX7_endOf_97 (by decide) (fun hf => ?_) (fun hf => ?_)
        · exact z_sub [3, 4, 5, 6, 0, 1, 7] rfl (z_X7_endOf_114 F n X ih v2 v3 v4 r_4 v6_3 v7 hf)
        · refine z_iload F dX7_endOf_100 0 rfl ?_
          refine z_aload_n F dX7_endOf_102 3 rfl rfl ?_
          refine gM_0_13 F wm_775 dX7_endOf_103 ?_
          refine z_iconst (v := 2) F dX7_endOf_106 (by decide +kernel) ?_
          refine lM_6 F hf dX7_endOf_107 (fun hf => ?_)
          refine z_icmp_ne (tgt := 114) F hf dX7_endOf_108 (by decide) (fun hf => ?_) (fun hf => ?_)
          · exact z_sub [3, 4, 5, 6, 0, 1, 7] rfl (z_X7_endOf_114 F n X ih v2 v3 v4 r_4 v6_3 v7 hf)
          · refine z_ldc F wm_761 dX7_endOf_111 ?_
            exact z_iret F dX7_endOf_113 (Prod.ext (Option.some.inj hf) rfl)
      · refine z_ldc F wm_761 dX7_endOf_73 ?_
        exact z_iret F dX7_endOf_75 (Prod.ext (Option.some.inj hf) rfl)
