set_option maxHeartbeats 4000000 in
set_option maxRecDepth 100000 in
theorem z_X7_endOf_36 {z : ZC} {D : va_G} {cI cZ : ClassId} {ad : Nat → Nat} {r : Int32} (F : ZF z (yM D cI cZ ad) cX7_endOf RX7 9 (some .int) 3) (n : Nat) (X : KX) (v2 : Int32) (v3 : Int32) (v4 : Int32) (v5 : Int32) (v6 : Int32) (hf : f_X7_endOf_36 n X v2 v3 v4 v5 v6 = some r) : Z z (yM D cI cZ ad) 9 (zQI z (yM D cI cZ ad) (r, X)) X 36 [(0, .ref (ad 0)), (2, .int v2), (3, .int v3), (4, .int v4), (5, .int v5), (6, .int v6)] [] := by
  unfold f_X7_endOf_36 at hf
  refine z_iconst (v := 0) F dX7_endOf_36 (by decide +kernel) ?_
  refine z_istore (L' := [(7, .int 0), (0, .ref (ad 0)), (2, .int v2), (3, .int v3), (4, .int v4), (5, .int v5), (6, .int v6)]) F dX7_endOf_37 (Nat.le_of_ble_eq_true rfl) rfl ?_
  exact z_sub [1, 2, 3, 4, 5, 6, 0] rfl (z_X7_endOf_39 F n X n v2 v3 v4 v5 v6 0 hf)
set_option maxHeartbeats 4000000 in
set_option maxRecDepth 100000 in
theorem z_X7_endOf {z : ZC} {D : va_G} {cI cZ : ClassId} {ad : Nat → Nat} {r : Int32} (F : ZF z (yM D cI cZ ad) cX7_endOf RX7 9 (some .int) 3) (n : Nat) (X : KX) (a1 : Int32) (a2 : Int32) (a3 : Int32) (a4 : Int32) (hf : f_X7_endOf n X a1 a2 a3 a4 = some r) : Z z (yM D cI cZ ad) 9 (zQI z (yM D cI cZ ad) (r, X)) X 0 [(0, .ref (ad 0)), (1, .int a1), (2, .int a2), (3, .int a3), (4, .int a4)] [] := by
  unfold f_X7_endOf at hf
  refine z_aload_n F dX7_endOf_0 0 rfl rfl ?_
  refine z_iload_n F dX7_endOf_1 1 rfl rfl ?_
  refine z_iconst (v := 0) F dX7_endOf_2 (by decide +kernel) ?_
  refine k_X7_of F (by decide) wm_943 (Nat.le_of_ble_eq_true rfl) hf dX7_endOf_3 (fun r_1 hf => ?_)
  refine z_istore (L' := [(5, .int r_1), (0, .ref (ad 0)), (1, .int a1), (2, .int a2), (3, .int a3), (4, .int a4)]) F dX7_endOf_6 (Nat.le_of_ble_eq_true rfl) rfl ?_
  refine z_aload_n F dX7_endOf_8 1 rfl rfl ?_
  refine z_iload_n F dX7_endOf_9 2 rfl rfl ?_
  refine k_X7_ahead F (by decide) wm_1010 (Nat.le_of_ble_eq_true rfl) hf dX7_endOf_10 (fun r_2 hf => ?_)
  refine z_iconst (v := (-1)) F dX7_endOf_13 (by decide +kernel) ?_
  refine z_ixor F dX7_endOf_14 ?_
  refine z_top hf (fun v6_3 hf => ?_)
  refine z_istore (L' := [(6, .int v6_3), (5, .int r_1), (0, .ref (ad 0)), (1, .int a1), (2, .int a2), (3, .int a3), (4, .int a4)]) F dX7_endOf_15 (Nat.le_of_ble_eq_true rfl) rfl ?_
  refine z_iload F dX7_endOf_17 6 rfl ?_
  refine z_if_eq (tgt := 36) F hf dX7_endOf_19 (by decide) (fun hf => ?_) (fun hf => ?_)
  · exact z_sub [2, 4, 5, 6, 1, 0] rfl (z_X7_endOf_36 F n X a2 a3 a4 r_1 v6_3 hf)
  · refine z_iload F dX7_endOf_22 1 rfl ?_
    refine z_aload_n F dX7_endOf_24 2 rfl rfl ?_
    refine gM_0_13 F wm_775 dX7_endOf_25 ?_
    refine z_iconst (v := 2) F dX7_endOf_28 (by decide +kernel) ?_
    refine lM_6 F hf dX7_endOf_29 (fun hf => ?_)
    refine z_icmp_ne (tgt := 36) F hf dX7_endOf_30 (by decide) (fun hf => ?_) (fun hf => ?_)
    · exact z_sub [2, 4, 5, 6, 1, 0] rfl (z_X7_endOf_36 F n X a2 a3 a4 r_1 v6_3 hf)
    · refine z_ldc F wm_761 dX7_endOf_33 ?_
      exact z_iret F dX7_endOf_35 (Prod.ext (Option.some.inj hf) rfl)
theorem c_X7_endOf {D : va_G} {cI cZ : ClassId} {ad : Nat → Nat} {r : Int32} (n : Nat) (X : KX) (a1 : Int32) (a2 : Int32) (a3 : Int32) (a4 : Int32) (hf : f_X7_endOf n X a1 a2 a3 a4 = some r) : zMI (yM D cI cZ ad) yX7_endOf cX7_endOf 9 (some .int) 3 [.ref (ad 0), .int a1, .int a2, .int a3, .int a4] X (r, X) := zMI_of (by decide +kernel) (Nat.le_of_ble_eq_true rfl) (fun z F => z_sub [0, 1, 2, 3, 4] rfl (z_X7_endOf F n X a1 a2 a3 a4 hf))
theorem k_X7_endOf {z : ZC} {D : va_G} {cI cZ : ClassId} {ad : Nat → Nat} {cc : ByteArray} {own : String} {nL d pc index : Nat} {ret : Option FieldType} {Q : State → Prop} {X : KX} {L : List (Nat × Value)} {rest : List Value} {n : Nat} {a1 a2 a3 a4 : Int32} (F : ZF z (yM D cI cZ ad) cc own nL ret d) (hd : 3 + 1 ≤ d) (hw : Cond.methodLink own index yX7_endOf ∈ wsA) (hst : (rest.map fun v => v.category).sum ≤ 8) {β : Type} {e : Int32 → Option β} {r : β} (hf : zB1 (f_X7_endOf n X a1 a2 a3 a4) e = some r) (hdg : decode cc pc = .ok (.invokevirtual index, 3)) (kk : ∀ v : Int32, e v = some r → Z z (yM D cI cZ ad) nL Q X (pc + 3) L (.int v :: rest)) : Z z (yM D cI cZ ad) nL Q X pc L (.int a4 :: .int a3 :: .int a2 :: .int a1 :: .ref (ad 0) :: rest) := by
  obtain ⟨v, h1, h2⟩ := zB1_some hf
  exact z_cVI (As := [.int a1, .int a2, .int a3, .int a4]) F (c_X7_endOf n X a1 a2 a3 a4 h1) kn_X7_endOf kv_X7_endOf hw (q0 := 0) rfl rfl hd rfl hst hdg rfl (kk v h2)
theorem kv_X7_route : zKv yX7_route := ⟨wm_1003, wm_1004⟩
theorem kn_X7_route : zKn yX7_route cX7_route 6 (some .int) 3 := ⟨wm_1005, wm_62, by decide +kernel, by decide⟩
set_option maxHeartbeats 4000000 in
set_option maxRecDepth 100000 in
theorem z_X7_route_82 {z : ZC} {D : va_G} {cI cZ : ClassId} {ad : Nat → Nat} {r : Int32} {k41 : Int32 → Int32 → Int32 → Int32 → Option Int32} {k54 : Int32 → Int32 → Int32 → Int32 → Int32 → Option Int32} (F : ZF z (yM D cI cZ ad) cX7_route RX7 6 (some .int) 4) (n : Nat) (X : KX) (hk41 : ∀ (v1 : Int32) (v2 : Int32) (v3 : Int32) (v4 : Int32), k41 v1 v2 v3 v4 = some r → Z z (yM D cI cZ ad) 6 (zQI z (yM D cI cZ ad) (r, X)) X 41 [(0, .ref (ad 0)), (1, .int v1), (2, .int v2), (3, .int v3), (4, .int v4)] []) (hk54 : ∀ (v1 : Int32) (v2 : Int32) (v3 : Int32) (v4 : Int32) (v5 : Int32), k54 v1 v2 v3 v4 v5 = some r → Z z (yM D cI cZ ad) 6 (zQI z (yM D cI cZ ad) (r, X)) X 54 [(0, .ref (ad 0)), (1, .int v1), (2, .int v2), (3, .int v3), (4, .int v4), (5, .int v5)] []) (s0 : Int32) (s1 : Int32) (s2 : Int32) (s3 : Int32) (v1 : Int32) (v2 : Int32) (v3 : Int32) (v4 : Int32) (v5 : Int32) (hf : f_X7_route_82 n X k41 k54 s0 s1 s2 s3 v1 v2 v3 v4 v5 = some r) : Z z (yM D cI cZ ad) 6 (zQI z (yM D cI cZ ad) (r, X)) X 82 [(0, .ref (ad 0)), (1, .int v1), (2, .int v2), (3, .int v3), (4, .int v4), (5, .int v5)] [.int s0, .int s1, .int s2, .int s3, .ref (ad 0)] := by
  unfold f_X7_route_82 at hf
  refine k_X7_endOf F (by decide) wm_1021 (Nat.le_of_ble_eq_true rfl) hf dX7_route_82 (fun r_1 hf => ?_)
  refine z_aload_n F dX7_route_85 0 rfl rfl ?_
  refine gM_0_13 F wm_775 dX7_route_86 ?_
  refine z_iconst (v := 1) F dX7_route_89 (by decide +kernel) ?_
  refine lM_6 F hf dX7_route_90 (fun hf => ?_)
  refine z_icmp_ne (tgt := 133) F hf dX7_route_91 (by decide) (fun hf => ?_) (fun hf => ?_)
  · refine z_iinc (w := 1) (L' := fun v5_2 => [(5, .int v5_2), (0, .ref (ad 0)), (1, .int v1), (2, .int v2), (3, .int v3), (4, .int v4)]) F hf dX7_route_133 5 rfl (by decide +kernel) (Nat.le_of_ble_eq_true rfl) (fun _ => rfl) (fun v5_2 hf => ?_)
    refine z_goto (tgt := 54) F dX7_route_136 (by decide) ?_
    exact z_sub [1, 2, 3, 4, 5, 0] rfl (hk54 v1 v2 v3 v4 v5_2 hf)
  · refine z_iload_n F dX7_route_94 3 rfl rfl ?_
    refine z_iconst (v := (-1)) F dX7_route_95 (by decide +kernel) ?_
    refine z_icmp_ne (tgt := 104) F hf dX7_route_96 (by decide) (fun hf => ?_) (fun hf => ?_)
    · refine z_iload_n F dX7_route_104 3 rfl rfl ?_
      refine z_iload F dX7_route_105 4 rfl ?_
      refine z_icmp_ge (tgt := 130) F hf dX7_route_107 (by decide) (fun hf => ?_) (fun hf => ?_)
      · refine z_ldc F wm_761 dX7_route_130 ?_
        exact z_iret F dX7_route_132 (Prod.ext (Option.some.inj hf) rfl)
      · refine z_iload F dX7_route_110 5 rfl ?_
        refine z_bipush (v := 8) F dX7_route_112 (by decide +kernel) ?_
        refine z_iload F dX7_route_114 4 rfl ?_
        refine z_iconst (v := 1) F dX7_route_116 (by decide +kernel) ?_
        refine z_isub F dX7_route_117 ?_
        refine z_iload_n F dX7_route_118 3 rfl rfl ?_
        refine z_isub F dX7_route_119 ?_
        refine k_X7_power F (by decide) wm_1018 (Nat.le_of_ble_eq_true rfl) hf dX7_route_120 (fun r_3 hf => ?_)
        refine z_idiv F hf dX7_route_123 (fun hf => ?_)
        refine z_bipush (v := 8) F dX7_route_124 (by decide +kernel) ?_
        refine z_iremL F (by decide) dX7_route_126 ?_
        refine z_goto (tgt := 132) F dX7_route_127 (by decide) ?_
        exact z_iret F dX7_route_132 (Prod.ext (Option.some.inj hf) rfl)
    · refine z_iload F dX7_route_99 4 rfl ?_
      refine z_goto (tgt := 132) F dX7_route_101 (by decide) ?_
      exact z_iret F dX7_route_132 (Prod.ext (Option.some.inj hf) rfl)
set_option maxHeartbeats 4000000 in
set_option maxRecDepth 100000 in
theorem z_X7_route_54 {z : ZC} {D : va_G} {cI cZ : ClassId} {ad : Nat → Nat} {r : Int32} {k41 : Int32 → Int32 → Int32 → Int32 → Option Int32} (F : ZF z (yM D cI cZ ad) cX7_route RX7 6 (some .int) 4) (n : Nat) (X : KX) (hk41 : ∀ (v1 : Int32) (v2 : Int32) (v3 : Int32) (v4 : Int32), k41 v1 v2 v3 v4 = some r → Z z (yM D cI cZ ad) 6 (zQI z (yM D cI cZ ad) (r, X)) X 41 [(0, .ref (ad 0)), (1, .int v1), (2, .int v2), (3, .int v3), (4, .int v4)] []) : ∀ (t : Nat) (v1 : Int32) (v2 : Int32) (v3 : Int32) (v4 : Int32) (v5 : Int32), f_X7_route_54 n X k41 t v1 v2 v3 v4 v5 = some r → Z z (yM D cI cZ ad) 6 (zQI z (yM D cI cZ ad) (r, X)) X 54 [(0, .ref (ad 0)), (1, .int v1), (2, .int v2), (3, .int v3), (4, .int v4), (5, .int v5)] [] := by
  intro t
  induction t with
  | zero => intro v1 v2 v3 v4 v5 hf; rw [f_X7_route_54] at hf; exact zNone hf
  | succ t ih =>
    intro v1 v2 v3 v4 v5 hf
    rw [f_X7_route_54] at hf
    refine z_iload F dX7_route_54 5 rfl ?_
    refine z_bipush (v := 8) F dX7_route_56 (by decide +kernel) ?_
    refine z_iload F dX7_route_58 4 rfl ?_
    refine k_X7_power F (by decide) wm_1018 (Nat.le_of_ble_eq_true rfl) hf dX7_route_60 (fun r_1 hf => ?_)
    refine z_icmp_ge (tgt := 139) F hf dX7_route_63 (by decide) (fun hf => ?_) (fun hf => ?_)
    · refine z_iinc (w := 1) (L' := fun v4_2 => [(4, .int v4_2), (0, .ref (ad 0)), (1, .int v1), (2, .int v2), (3, .int v3), (5, .int v5)]) F hf dX7_route_139 4 rfl (by decide +kernel) (Nat.le_of_ble_eq_true rfl) (fun _ => rfl) (fun v4_2 hf => ?_)
      refine z_goto (tgt := 41) F dX7_route_142 (by decide) ?_
      exact z_sub [1, 2, 3, 4, 0] rfl (hk41 v1 v2 v3 v4_2 hf)
    · refine z_aload_n F dX7_route_66 0 rfl rfl ?_
      refine z_iload_n F dX7_route_67 1 rfl rfl ?_
      refine z_iload F dX7_route_68 5 rfl ?_
      refine z_iload F dX7_route_70 4 rfl ?_
      refine z_iload_n F dX7_route_72 2 rfl rfl ?_
      refine z_iconst (v := 1) F dX7_route_73 (by decide +kernel) ?_
      refine z_icmp_ne (tgt := 81) F hf dX7_route_74 (by decide) (fun hf => ?_) (fun hf => ?_)
      · refine z_iconst (v := 0) F dX7_route_81 (by decide +kernel) ?_
        exact z_sub [0, 1, 2, 3, 4, 5] rfl (z_X7_route_82 F n X hk41 ih 0 v4 v5 v1 v1 v2 v3 v4 v5 hf)
      · refine z_iconst (v := 1) F dX7_route_77 (by decide +kernel) ?_
        refine z_goto (tgt := 82) F dX7_route_78 (by decide) ?_
        exact z_sub [0, 1, 2, 3, 4, 5] rfl (z_X7_route_82 F n X hk41 ih 1 v4 v5 v1 v1 v2 v3 v4 v5 hf)
set_option maxHeartbeats 4000000 in
set_option maxRecDepth 100000 in
theorem z_X7_route_41 {z : ZC} {D : va_G} {cI cZ : ClassId} {ad : Nat → Nat} {r : Int32} (F : ZF z (yM D cI cZ ad) cX7_route RX7 6 (some .int) 4) (n : Nat) (X : KX) : ∀ (t : Nat) (v1 : Int32) (v2 : Int32) (v3 : Int32) (v4 : Int32), f_X7_route_41 n X t v1 v2 v3 v4 = some r → Z z (yM D cI cZ ad) 6 (zQI z (yM D cI cZ ad) (r, X)) X 41 [(0, .ref (ad 0)), (1, .int v1), (2, .int v2), (3, .int v3), (4, .int v4)] [] := by
  intro t
  induction t with
  | zero => intro v1 v2 v3 v4 hf; rw [f_X7_route_41] at hf; exact zNone hf
  | succ t ih =>
    intro v1 v2 v3 v4 hf
    rw [f_X7_route_41] at hf
    refine z_iload F dX7_route_41 4 rfl ?_
    refine z_aload_n F dX7_route_43 0 rfl rfl ?_
    refine z_iload_n F dX7_route_44 1 rfl rfl ?_
    refine k_X7_atMost F (by decide) wm_1006 (Nat.le_of_ble_eq_true rfl) hf dX7_route_45 (fun r_1 hf => ?_)
    refine z_icmp_gt (tgt := 145) F hf dX7_route_48 (by decide) (fun hf => ?_) (fun hf => ?_)
    · refine z_ldc F wm_761 dX7_route_145 ?_
      exact z_iret F dX7_route_147 (Prod.ext (Option.some.inj hf) rfl)
    · refine z_iconst (v := 0) F dX7_route_51 (by decide +kernel) ?_
      refine z_istore (L' := [(5, .int 0), (0, .ref (ad 0)), (1, .int v1), (2, .int v2), (3, .int v3), (4, .int v4)]) F dX7_route_52 (Nat.le_of_ble_eq_true rfl) rfl ?_
      exact z_sub [1, 2, 3, 4, 5, 0] rfl (z_X7_route_54 F n X ih n v1 v2 v3 v4 0 hf)
set_option maxHeartbeats 4000000 in
set_option maxRecDepth 100000 in
theorem z_X7_route {z : ZC} {D : va_G} {cI cZ : ClassId} {ad : Nat → Nat} {r : Int32} (F : ZF z (yM D cI cZ ad) cX7_route RX7 6 (some .int) 4) (n : Nat) (X : KX) (a1 : Int32) (a2 : Int32) (a3 : Int32) (hf : f_X7_route n X a1 a2 a3 = some r) : Z z (yM D cI cZ ad) 6 (zQI z (yM D cI cZ ad) (r, X)) X 0 [(0, .ref (ad 0)), (1, .int a1), (2, .int a2), (3, .int a3)] [] := by
  unfold f_X7_route at hf
  refine z_aload_n F dX7_route_0 0 rfl rfl ?_
  refine z_iload_n F dX7_route_1 1 rfl rfl ?_
  refine k_X7_isGuest F (by decide) wm_935 (Nat.le_of_ble_eq_true rfl) hf dX7_route_2 (fun r_1 hf => ?_)
  refine z_if_eq (tgt := 22) F hf dX7_route_5 (by decide) (fun hf => ?_) (fun hf => ?_)
  · refine z_ldc F wm_846 dX7_route_22 ?_
    exact z_iret F dX7_route_24 (Prod.ext (Option.some.inj hf) rfl)
  · refine z_iload_n F dX7_route_8 2 rfl rfl ?_
    refine z_iconst (v := 0) F dX7_route_9 (by decide +kernel) ?_
    refine z_iconst (v := 1) F dX7_route_10 (by decide +kernel) ?_
    refine k_X7_in F (by decide) wm_843 (Nat.le_of_ble_eq_true rfl) dX7_route_11 ?_
    refine z_if_eq (tgt := 22) F hf dX7_route_14 (by decide) (fun hf => ?_) (fun hf => ?_)
    · refine z_ldc F wm_846 dX7_route_22 ?_
      exact z_iret F dX7_route_24 (Prod.ext (Option.some.inj hf) rfl)
    · refine z_iload_n F dX7_route_17 3 rfl rfl ?_
      refine z_iconst (v := (-1)) F dX7_route_18 (by decide +kernel) ?_
      refine z_icmp_ge (tgt := 25) F hf dX7_route_19 (by decide) (fun hf => ?_) (fun hf => ?_)
      · refine z_aload_n F dX7_route_25 0 rfl rfl ?_
        refine z_iload_n F dX7_route_26 1 rfl rfl ?_
        refine z_iconst (v := 3) F dX7_route_27 (by decide +kernel) ?_
        refine k_X7_of F (by decide) wm_943 (Nat.le_of_ble_eq_true rfl) hf dX7_route_28 (fun r_2 hf => ?_)
        refine z_iconst (v := 2) F dX7_route_31 (by decide +kernel) ?_
        refine z_icmp_ne (tgt := 38) F hf dX7_route_32 (by decide) (fun hf => ?_) (fun hf => ?_)
        · refine z_iconst (v := 0) F dX7_route_38 (by decide +kernel) ?_
          refine z_istore (L' := [(4, .int 0), (0, .ref (ad 0)), (1, .int a1), (2, .int a2), (3, .int a3)]) F dX7_route_39 (Nat.le_of_ble_eq_true rfl) rfl ?_
          exact z_sub [1, 2, 3, 4, 0] rfl (z_X7_route_41 F n X n a1 a2 a3 0 hf)
        · refine z_ldc F wm_947 dX7_route_35 ?_
          exact z_iret F dX7_route_37 (Prod.ext (Option.some.inj hf) rfl)
      · refine z_ldc F wm_846 dX7_route_22 ?_
        exact z_iret F dX7_route_24 (Prod.ext (Option.some.inj hf) rfl)
theorem c_X7_route {D : va_G} {cI cZ : ClassId} {ad : Nat → Nat} {r : Int32} (n : Nat) (X : KX) (a1 : Int32) (a2 : Int32) (a3 : Int32) (hf : f_X7_route n X a1 a2 a3 = some r) : zMI (yM D cI cZ ad) yX7_route cX7_route 6 (some .int) 4 [.ref (ad 0), .int a1, .int a2, .int a3] X (r, X) := zMI_of (by decide +kernel) (Nat.le_of_ble_eq_true rfl) (fun z F => z_sub [0, 1, 2, 3] rfl (z_X7_route F n X a1 a2 a3 hf))
theorem k_X7_route {z : ZC} {D : va_G} {cI cZ : ClassId} {ad : Nat → Nat} {cc : ByteArray} {own : String} {nL d pc index : Nat} {ret : Option FieldType} {Q : State → Prop} {X : KX} {L : List (Nat × Value)} {rest : List Value} {n : Nat} {a1 a2 a3 : Int32} (F : ZF z (yM D cI cZ ad) cc own nL ret d) (hd : 4 + 1 ≤ d) (hw : Cond.methodLink own index yX7_route ∈ wsA) (hst : (rest.map fun v => v.category).sum ≤ 8) {β : Type} {e : Int32 → Option β} {r : β} (hf : zB1 (f_X7_route n X a1 a2 a3) e = some r) (hdg : decode cc pc = .ok (.invokevirtual index, 3)) (kk : ∀ v : Int32, e v = some r → Z z (yM D cI cZ ad) nL Q X (pc + 3) L (.int v :: rest)) : Z z (yM D cI cZ ad) nL Q X pc L (.int a3 :: .int a2 :: .int a1 :: .ref (ad 0) :: rest) := by
  obtain ⟨v, h1, h2⟩ := zB1_some hf
  exact z_cVI (As := [.int a1, .int a2, .int a3]) F (c_X7_route n X a1 a2 a3 h1) kn_X7_route kv_X7_route hw (q0 := 0) rfl rfl hd rfl hst hdg rfl (kk v h2)
theorem kv_X7_thinks : zKv yX7_thinks := ⟨wm_1031, wm_42⟩
theorem kn_X7_thinks : zKn yX7_thinks cX7_thinks 5 none 1 := ⟨wm_1032, wm_62, by decide +kernel, by decide⟩
set_option maxHeartbeats 4000000 in
set_option maxRecDepth 100000 in
theorem z_X7_thinks_124 {z : ZC} {D : va_G} {cI cZ : ClassId} {ad : Nat → Nat} {R : KX} {k39 : KX → Int32 → Option KX} {k49 : KX → Int32 → Int32 → Option KX} (F : ZF z (yM D cI cZ ad) cX7_thinks RX7 5 none 3) (n : Nat) (hk39 : ∀ (X : KX) (v2 : Int32), k39 X v2 = some R → Z z (yM D cI cZ ad) 5 (zQV z (yM D cI cZ ad) R) X 39 [(0, .ref (ad 0)), (2, .int v2)] []) (hk49 : ∀ (X : KX) (v2 : Int32) (v3 : Int32), k49 X v2 v3 = some R → Z z (yM D cI cZ ad) 5 (zQV z (yM D cI cZ ad) R) X 49 [(0, .ref (ad 0)), (2, .int v2), (3, .int v3)] []) (X : KX) (v2 : Int32) (v3 : Int32) (hf : f_X7_thinks_124 n k39 k49 X v2 v3 = some R) : Z z (yM D cI cZ ad) 5 (zQV z (yM D cI cZ ad) R) X 124 [(0, .ref (ad 0)), (2, .int v2), (3, .int v3)] [] := by
  unfold f_X7_thinks_124 at hf
  refine z_iinc (w := 1) (L' := fun v3_1 => [(3, .int v3_1), (0, .ref (ad 0)), (2, .int v2)]) F hf dX7_thinks_124 2 rfl (by decide +kernel) (Nat.le_of_ble_eq_true rfl) (fun _ => rfl) (fun v3_1 hf => ?_)
  refine z_goto (tgt := 49) F dX7_thinks_127 (by decide) ?_
  exact z_sub [1, 2, 0] rfl (hk49 X v2 v3_1 hf)
set_option maxHeartbeats 4000000 in
set_option maxRecDepth 100000 in
theorem z_X7_thinks_116 {z : ZC} {D : va_G} {cI cZ : ClassId} {ad : Nat → Nat} {R : KX} {k39 : KX → Int32 → Option KX} {k49 : KX → Int32 → Int32 → Option KX} {k63 : KX → Int32 → Int32 → Int32 → Option KX} (F : ZF z (yM D cI cZ ad) cX7_thinks RX7 5 none 3) (n : Nat) (hk39 : ∀ (X : KX) (v2 : Int32), k39 X v2 = some R → Z z (yM D cI cZ ad) 5 (zQV z (yM D cI cZ ad) R) X 39 [(0, .ref (ad 0)), (2, .int v2)] []) (hk49 : ∀ (X : KX) (v2 : Int32) (v3 : Int32), k49 X v2 v3 = some R → Z z (yM D cI cZ ad) 5 (zQV z (yM D cI cZ ad) R) X 49 [(0, .ref (ad 0)), (2, .int v2), (3, .int v3)] []) (hk63 : ∀ (X : KX) (v2 : Int32) (v3 : Int32) (v4 : Int32), k63 X v2 v3 v4 = some R → Z z (yM D cI cZ ad) 5 (zQV z (yM D cI cZ ad) R) X 63 [(0, .ref (ad 0)), (2, .int v2), (3, .int v3), (4, .int v4)] []) (X : KX) (s0 : Int32) (s1 : Int32) (s2 : Int32) (v2 : Int32) (v3 : Int32) (v4 : Int32) (hf : f_X7_thinks_116 n k39 k49 k63 X s0 s1 s2 v2 v3 v4 = some R) : Z z (yM D cI cZ ad) 5 (zQV z (yM D cI cZ ad) R) X 116 [(0, .ref (ad 0)), (2, .int v2), (3, .int v3), (4, .int v4)] [.int s0, .int s1, .int s2, .ref (ad 12)] := by
  unfold f_X7_thinks_116 at hf
  refine z_ior F dX7_thinks_116 ?_
  refine sM_12 F hf dX7_thinks_117 (fun X_1 hf => ?_)
  refine z_iinc (w := 1) (L' := fun v4_2 => [(4, .int v4_2), (0, .ref (ad 0)), (2, .int v2), (3, .int v3)]) F hf dX7_thinks_118 3 rfl (by decide +kernel) (Nat.le_of_ble_eq_true rfl) (fun _ => rfl) (fun v4_2 hf => ?_)
  refine z_goto (tgt := 63) F dX7_thinks_121 (by decide) ?_
  exact z_sub [1, 2, 3, 0] rfl (hk63 X_1 v2 v3 v4_2 hf)
set_option maxHeartbeats 4000000 in
set_option maxRecDepth 100000 in
theorem z_X7_thinks_63 {z : ZC} {D : va_G} {cI cZ : ClassId} {ad : Nat → Nat} {R : KX} {k39 : KX → Int32 → Option KX} {k49 : KX → Int32 → Int32 → Option KX} (F : ZF z (yM D cI cZ ad) cX7_thinks RX7 5 none 3) (n : Nat) (hk39 : ∀ (X : KX) (v2 : Int32), k39 X v2 = some R → Z z (yM D cI cZ ad) 5 (zQV z (yM D cI cZ ad) R) X 39 [(0, .ref (ad 0)), (2, .int v2)] []) (hk49 : ∀ (X : KX) (v2 : Int32) (v3 : Int32), k49 X v2 v3 = some R → Z z (yM D cI cZ ad) 5 (zQV z (yM D cI cZ ad) R) X 49 [(0, .ref (ad 0)), (2, .int v2), (3, .int v3)] []) : ∀ (t : Nat) (X : KX) (v2 : Int32) (v3 : Int32) (v4 : Int32), f_X7_thinks_63 n k39 k49 t X v2 v3 v4 = some R → Z z (yM D cI cZ ad) 5 (zQV z (yM D cI cZ ad) R) X 63 [(0, .ref (ad 0)), (2, .int v2), (3, .int v3), (4, .int v4)] [] := by
  intro t
  induction t with
  | zero => intro X v2 v3 v4 hf; rw [f_X7_thinks_63] at hf; exact zNone hf
  | succ t ih =>
    intro X v2 v3 v4 hf
    rw [f_X7_thinks_63] at hf
    refine z_iload F dX7_thinks_63 3 rfl ?_
    refine z_bipush (v := 8) F dX7_thinks_65 (by decide +kernel) ?_
    refine z_icmp_ge (tgt := 124) F hf dX7_thinks_67 (by decide) (fun hf => ?_) (fun hf => ?_)
    · exact z_sub [0, 1, 2] rfl (z_X7_thinks_124 F n hk39 hk49 X v2 v3 hf)
    · refine z_iload_n F dX7_thinks_70 1 rfl rfl ?_
      refine z_iload_n F dX7_thinks_71 2 rfl rfl ?_
      refine k_X7_has F (by decide) wm_960 (Nat.le_of_ble_eq_true rfl) dX7_thinks_72 ?_
      refine z_if_ne (tgt := 124) F hf dX7_thinks_75 (by decide) (fun hf => ?_) (fun hf => ?_)
      · exact z_sub [0, 1, 2] rfl (z_X7_thinks_124 F n hk39 hk49 X v2 v3 hf)
      · refine z_aload_n F dX7_thinks_78 0 rfl rfl ?_
        refine gM_0_21 F wm_783 dX7_thinks_79 ?_
        refine z_iload_n F dX7_thinks_82 1 rfl rfl ?_
        refine z_iconst (v := 1) F dX7_thinks_83 (by decide +kernel) ?_
        refine z_iload_n F dX7_thinks_84 2 rfl rfl ?_
        refine z_ishl F dX7_thinks_85 ?_
        refine z_ior F dX7_thinks_86 ?_
        refine z_top hf (fun u_1 hf => ?_)
        refine z_dup2 F dX7_thinks_87 rfl rfl ?_
        refine lM_12 F hf dX7_thinks_88 (fun hf => ?_)
        refine z_aload_n F dX7_thinks_89 0 rfl rfl ?_
        refine gM_0_21 F wm_783 dX7_thinks_90 ?_
        refine z_iload_n F dX7_thinks_93 1 rfl rfl ?_
        refine lM_12 F hf dX7_thinks_94 (fun hf => ?_)
        refine z_iload F dX7_thinks_95 3 rfl ?_
        refine k_X7_has F (by decide) wm_960 (Nat.le_of_ble_eq_true rfl) dX7_thinks_97 ?_
        refine z_if_eq (tgt := 115) F hf dX7_thinks_100 (by decide) (fun hf => ?_) (fun hf => ?_)
        · refine z_iconst (v := 0) F dX7_thinks_115 (by decide +kernel) ?_
          exact z_sub [0, 1, 2, 3] rfl (z_X7_thinks_116 F n hk39 hk49 ih X 0 (X 12 u_1.toNatClampNeg) u_1 v2 v3 v4 hf)
        · refine z_iconst (v := 1) F dX7_thinks_103 (by decide +kernel) ?_
          refine z_aload_n F dX7_thinks_104 0 rfl rfl ?_
          refine z_iload_n F dX7_thinks_105 2 rfl rfl ?_
          refine z_iload F dX7_thinks_106 3 rfl ?_
          refine k_X7_leadsNow F (by decide) wm_966 (Nat.le_of_ble_eq_true rfl) hf dX7_thinks_108 (fun r_2 hf => ?_)
          refine z_ishl F dX7_thinks_111 ?_
          refine z_goto (tgt := 116) F dX7_thinks_112 (by decide) ?_
          exact z_sub [0, 1, 2, 3] rfl (z_X7_thinks_116 F n hk39 hk49 ih X (zShl 1 r_2) (X 12 u_1.toNatClampNeg) u_1 v2 v3 v4 hf)
set_option maxHeartbeats 4000000 in
set_option maxRecDepth 100000 in
theorem z_X7_thinks_49 {z : ZC} {D : va_G} {cI cZ : ClassId} {ad : Nat → Nat} {R : KX} {k39 : KX → Int32 → Option KX} (F : ZF z (yM D cI cZ ad) cX7_thinks RX7 5 none 3) (n : Nat) (hk39 : ∀ (X : KX) (v2 : Int32), k39 X v2 = some R → Z z (yM D cI cZ ad) 5 (zQV z (yM D cI cZ ad) R) X 39 [(0, .ref (ad 0)), (2, .int v2)] []) : ∀ (t : Nat) (X : KX) (v2 : Int32) (v3 : Int32), f_X7_thinks_49 n k39 t X v2 v3 = some R → Z z (yM D cI cZ ad) 5 (zQV z (yM D cI cZ ad) R) X 49 [(0, .ref (ad 0)), (2, .int v2), (3, .int v3)] [] := by
  intro t
  induction t with
  | zero => intro X v2 v3 hf; rw [f_X7_thinks_49] at hf; exact zNone hf
  | succ t ih =>
    intro X v2 v3 hf
    rw [f_X7_thinks_49] at hf
    refine z_iload_n F dX7_thinks_49 2 rfl rfl ?_
    refine z_aload_n F dX7_thinks_50 0 rfl rfl ?_
    refine gM_0_13 F wm_775 dX7_thinks_51 ?_
    refine z_bipush (v := 7) F dX7_thinks_54 (by decide +kernel) ?_
    refine lM_6 F hf dX7_thinks_56 (fun hf => ?_)
    refine z_icmp_ge (tgt := 130) F hf dX7_thinks_57 (by decide) (fun hf => ?_) (fun hf => ?_)
    · refine z_iinc (w := 1) (L' := fun v2_1 => [(2, .int v2_1), (0, .ref (ad 0)), (3, .int v3)]) F hf dX7_thinks_130 1 rfl (by decide +kernel) (Nat.le_of_ble_eq_true rfl) (fun _ => rfl) (fun v2_1 hf => ?_)
      refine z_goto (tgt := 39) F dX7_thinks_133 (by decide) ?_
      exact z_sub [1, 0] rfl (hk39 X v2_1 hf)
    · refine z_iconst (v := 0) F dX7_thinks_60 (by decide +kernel) ?_
      refine z_istore (L' := [(4, .int 0), (0, .ref (ad 0)), (2, .int v2), (3, .int v3)]) F dX7_thinks_61 (Nat.le_of_ble_eq_true rfl) rfl ?_
      exact z_sub [1, 2, 3, 0] rfl (z_X7_thinks_63 F n hk39 ih n X v2 v3 0 hf)
set_option maxHeartbeats 4000000 in
set_option maxRecDepth 100000 in
theorem z_X7_thinks_39 {z : ZC} {D : va_G} {cI cZ : ClassId} {ad : Nat → Nat} {R : KX} (F : ZF z (yM D cI cZ ad) cX7_thinks RX7 5 none 3) (n : Nat) : ∀ (t : Nat) (X : KX) (v2 : Int32), f_X7_thinks_39 n t X v2 = some R → Z z (yM D cI cZ ad) 5 (zQV z (yM D cI cZ ad) R) X 39 [(0, .ref (ad 0)), (2, .int v2)] [] := by
  intro t
  induction t with
  | zero => intro X v2 hf; rw [f_X7_thinks_39] at hf; exact zNone hf
  | succ t ih =>
    intro X v2 hf
    rw [f_X7_thinks_39] at hf
    refine z_iload_n F dX7_thinks_39 1 rfl rfl ?_
    refine z_aload_n F dX7_thinks_40 0 rfl rfl ?_
    refine k_X7_allHints F (by decide) wm_1014 (Nat.le_of_ble_eq_true rfl) hf dX7_thinks_41 (fun r_1 hf => ?_)
    refine z_icmp_gt (tgt := 136) F hf dX7_thinks_44 (by decide) (fun hf => ?_) (fun hf => ?_)
    · exact z_vret F dX7_thinks_136 (Option.some.inj hf)
    · refine z_iconst (v := 0) F dX7_thinks_47 (by decide +kernel) ?_
      refine z_istore_n (L' := [(3, .int 0), (0, .ref (ad 0)), (2, .int v2)]) F dX7_thinks_48 rfl (Nat.le_of_ble_eq_true rfl) rfl ?_
      exact z_sub [1, 2, 0] rfl (z_X7_thinks_49 F n ih n X v2 0 hf)
set_option maxHeartbeats 4000000 in
set_option maxRecDepth 100000 in
theorem z_X7_thinks_30 {z : ZC} {D : va_G} {cI cZ : ClassId} {ad : Nat → Nat} {R : KX} {k2 : KX → Int32 → Int32 → Option KX} (F : ZF z (yM D cI cZ ad) cX7_thinks RX7 5 none 3) (n : Nat) (hk2 : ∀ (X : KX) (v1 : Int32) (v2 : Int32), k2 X v1 v2 = some R → Z z (yM D cI cZ ad) 5 (zQV z (yM D cI cZ ad) R) X 2 [(0, .ref (ad 0)), (1, .int v1), (2, .int v2)] []) (X : KX) (s0 : Int32) (s1 : Int32) (v1 : Int32) (v2 : Int32) (hf : f_X7_thinks_30 n k2 X s0 s1 v1 v2 = some R) : Z z (yM D cI cZ ad) 5 (zQV z (yM D cI cZ ad) R) X 30 [(0, .ref (ad 0)), (1, .int v1), (2, .int v2)] [.int s0, .int s1, .ref (ad 12)] := by
  unfold f_X7_thinks_30 at hf
  refine sM_12 F hf dX7_thinks_30 (fun X_1 hf => ?_)
  refine z_iinc (w := 1) (L' := fun v2_2 => [(2, .int v2_2), (0, .ref (ad 0)), (1, .int v1)]) F hf dX7_thinks_31 2 rfl (by decide +kernel) (Nat.le_of_ble_eq_true rfl) (fun _ => rfl) (fun v2_2 hf => ?_)
  refine z_goto (tgt := 2) F dX7_thinks_34 (by decide) ?_
  exact z_sub [1, 2, 0] rfl (hk2 X_1 v1 v2_2 hf)
set_option maxHeartbeats 4000000 in
set_option maxRecDepth 100000 in
theorem z_X7_thinks_2 {z : ZC} {D : va_G} {cI cZ : ClassId} {ad : Nat → Nat} {R : KX} (F : ZF z (yM D cI cZ ad) cX7_thinks RX7 5 none 3) (n : Nat) : ∀ (t : Nat) (X : KX) (v1 : Int32) (v2 : Int32), f_X7_thinks_2 n t X v1 v2 = some R → Z z (yM D cI cZ ad) 5 (zQV z (yM D cI cZ ad) R) X 2 [(0, .ref (ad 0)), (1, .int v1), (2, .int v2)] [] := by
  intro t
  induction t with
  | zero => intro X v1 v2 hf; rw [f_X7_thinks_2] at hf; exact zNone hf
  | succ t ih =>
    intro X v1 v2 hf
    rw [f_X7_thinks_2] at hf
    refine z_iload_n F dX7_thinks_2 2 rfl rfl ?_
    refine z_sipush (v := 256) F dX7_thinks_3 (by decide +kernel) ?_
    refine z_icmp_ge (tgt := 37) F hf dX7_thinks_6 (by decide) (fun hf => ?_) (fun hf => ?_)
    · refine z_iconst (v := 0) F dX7_thinks_37 (by decide +kernel) ?_
      refine z_istore_n (L' := [(2, .int 0), (0, .ref (ad 0)), (1, .int v1)]) F dX7_thinks_38 rfl (Nat.le_of_ble_eq_true rfl) rfl ?_
      exact z_sub [1, 0] rfl (z_X7_thinks_39 F n n X 0 hf)
    · refine z_aload_n F dX7_thinks_9 0 rfl rfl ?_
      refine gM_0_21 F wm_783 dX7_thinks_10 ?_
      refine z_iload_n F dX7_thinks_13 2 rfl rfl ?_
      refine z_iload_n F dX7_thinks_14 2 rfl rfl ?_
      refine z_if_ne (tgt := 29) F hf dX7_thinks_15 (by decide) (fun hf => ?_) (fun hf => ?_)
      · refine z_iconst (v := 0) F dX7_thinks_29 (by decide +kernel) ?_
        exact z_sub [0, 1, 2] rfl (z_X7_thinks_30 F n ih X 0 v2 v1 v2 hf)
      · refine z_iconst (v := 1) F dX7_thinks_18 (by decide +kernel) ?_
        refine z_aload_n F dX7_thinks_19 0 rfl rfl ?_
        refine z_iload_n F dX7_thinks_20 1 rfl rfl ?_
        refine z_iconst (v := 0) F dX7_thinks_21 (by decide +kernel) ?_
        refine k_X7_of F (by decide) wm_943 (Nat.le_of_ble_eq_true rfl) hf dX7_thinks_22 (fun r_1 hf => ?_)
        refine z_ishl F dX7_thinks_25 ?_
        refine z_goto (tgt := 30) F dX7_thinks_26 (by decide) ?_
        exact z_sub [0, 1, 2] rfl (z_X7_thinks_30 F n ih X (zShl 1 r_1) v2 v1 v2 hf)
set_option maxHeartbeats 4000000 in
set_option maxRecDepth 100000 in
theorem z_X7_thinks {z : ZC} {D : va_G} {cI cZ : ClassId} {ad : Nat → Nat} {R : KX} (F : ZF z (yM D cI cZ ad) cX7_thinks RX7 5 none 3) (n : Nat) (X : KX) (a1 : Int32) (hf : f_X7_thinks n X a1 = some R) : Z z (yM D cI cZ ad) 5 (zQV z (yM D cI cZ ad) R) X 0 [(0, .ref (ad 0)), (1, .int a1)] [] := by
  unfold f_X7_thinks at hf
  refine z_iconst (v := 0) F dX7_thinks_0 (by decide +kernel) ?_
  refine z_istore_n (L' := [(2, .int 0), (0, .ref (ad 0)), (1, .int a1)]) F dX7_thinks_1 rfl (Nat.le_of_ble_eq_true rfl) rfl ?_
  exact z_sub [1, 2, 0] rfl (z_X7_thinks_2 F n n X a1 0 hf)
theorem c_X7_thinks {D : va_G} {cI cZ : ClassId} {ad : Nat → Nat} {R : KX} (n : Nat) (X : KX) (a1 : Int32) (hf : f_X7_thinks n X a1 = some R) : zMV (yM D cI cZ ad) yX7_thinks cX7_thinks 5 none 3 [.ref (ad 0), .int a1] X R := zMV_of (by decide +kernel) (Nat.le_of_ble_eq_true rfl) (fun z F => z_sub [0, 1] rfl (z_X7_thinks F n X a1 hf))
theorem k_X7_thinks {z : ZC} {D : va_G} {cI cZ : ClassId} {ad : Nat → Nat} {cc : ByteArray} {own : String} {nL d pc index : Nat} {ret : Option FieldType} {Q : State → Prop} {X : KX} {L : List (Nat × Value)} {rest : List Value} {n : Nat} {a1 : Int32} (F : ZF z (yM D cI cZ ad) cc own nL ret d) (hd : 3 + 1 ≤ d) (hw : Cond.methodLink own index yX7_thinks ∈ wsA) (hst : (rest.map fun v => v.category).sum ≤ 8) {β : Type} {e : KX → Option β} {r : β} (hf : zB1 (f_X7_thinks n X a1) e = some r) (hdg : decode cc pc = .ok (.invokevirtual index, 3)) (kk : ∀ X2 : KX, e X2 = some r → Z z (yM D cI cZ ad) nL Q X2 (pc + 3) L rest) : Z z (yM D cI cZ ad) nL Q X pc L (.int a1 :: .ref (ad 0) :: rest) := by
  obtain ⟨v, h1, h2⟩ := zB1_some hf
  exact z_cVV (As := [.int a1]) F (c_X7_thinks n X a1 h1) kn_X7_thinks kv_X7_thinks hw (q0 := 0) rfl rfl hd rfl hst hdg rfl (kk v h2)
theorem kv_X7_thinkable : zKv yX7_thinkable := ⟨wm_1026, wm_1027⟩
theorem kn_X7_thinkable : zKn yX7_thinkable cX7_thinkable 5 (some .int) 1 := ⟨wm_1028, wm_62, by decide +kernel, by decide⟩
set_option maxHeartbeats 4000000 in
set_option maxRecDepth 100000 in
theorem z_X7_thinkable_88 {z : ZC} {D : va_G} {cI cZ : ClassId} {ad : Nat → Nat} {R : Int32 × KX} {k33 : KX → Int32 → Int32 → Int32 → Option (Int32 × KX)} (F : ZF z (yM D cI cZ ad) cX7_thinkable RX7 5 (some .int) 4) (n : Nat) (hk33 : ∀ (X : KX) (v1 : Int32) (v2 : Int32) (v3 : Int32), k33 X v1 v2 v3 = some R → Z z (yM D cI cZ ad) 5 (zQI z (yM D cI cZ ad) R) X 33 [(0, .ref (ad 0)), (1, .int v1), (2, .int v2), (3, .int v3)] []) (X : KX) (s0 : Int32) (s1 : Int32) (v1 : Int32) (v3 : Int32) (hf : f_X7_thinkable_88 n k33 X s0 s1 v1 v3 = some R) : Z z (yM D cI cZ ad) 5 (zQI z (yM D cI cZ ad) R) X 88 [(0, .ref (ad 0)), (1, .int v1), (3, .int v3)] [.int s0, .int s1] := by
  unfold f_X7_thinkable_88 at hf
  refine z_ior F dX7_thinkable_88 ?_
  refine z_top hf (fun v2_1 hf => ?_)
  refine z_istore_n (L' := [(2, .int v2_1), (0, .ref (ad 0)), (1, .int v1), (3, .int v3)]) F dX7_thinkable_89 rfl (Nat.le_of_ble_eq_true rfl) rfl ?_
  refine z_iinc (w := 1) (L' := fun v3_2 => [(3, .int v3_2), (2, .int v2_1), (0, .ref (ad 0)), (1, .int v1)]) F hf dX7_thinkable_90 3 rfl (by decide +kernel) (Nat.le_of_ble_eq_true rfl) (fun _ => rfl) (fun v3_2 hf => ?_)
  refine z_goto (tgt := 33) F dX7_thinkable_93 (by decide) ?_
  exact z_sub [2, 3, 1, 0] rfl (hk33 X v1 v2_1 v3_2 hf)
set_option maxHeartbeats 4000000 in
set_option maxRecDepth 100000 in
theorem z_X7_thinkable_70 {z : ZC} {D : va_G} {cI cZ : ClassId} {ad : Nat → Nat} {R : Int32 × KX} {k33 : KX → Int32 → Int32 → Int32 → Option (Int32 × KX)} (F : ZF z (yM D cI cZ ad) cX7_thinkable RX7 5 (some .int) 4) (n : Nat) (hk33 : ∀ (X : KX) (v1 : Int32) (v2 : Int32) (v3 : Int32), k33 X v1 v2 v3 = some R → Z z (yM D cI cZ ad) 5 (zQI z (yM D cI cZ ad) R) X 33 [(0, .ref (ad 0)), (1, .int v1), (2, .int v2), (3, .int v3)] []) (X : KX) (s0 : Int32) (v1 : Int32) (v2 : Int32) (v3 : Int32) (hf : f_X7_thinkable_70 n k33 X s0 v1 v2 v3 = some R) : Z z (yM D cI cZ ad) 5 (zQI z (yM D cI cZ ad) R) X 70 [(0, .ref (ad 0)), (1, .int v1), (2, .int v2), (3, .int v3)] [.int s0] := by
  unfold f_X7_thinkable_70 at hf
  refine z_istore (L' := [(4, .int s0), (0, .ref (ad 0)), (1, .int v1), (2, .int v2), (3, .int v3)]) F dX7_thinkable_70 (Nat.le_of_ble_eq_true rfl) rfl ?_
  refine z_iload_n F dX7_thinkable_72 3 rfl rfl ?_
  refine z_iload F dX7_thinkable_73 0 rfl ?_
  refine z_if_eq (tgt := 87) F hf dX7_thinkable_75 (by decide) (fun hf => ?_) (fun hf => ?_)
  · refine z_iconst (v := 0) F dX7_thinkable_87 (by decide +kernel) ?_
    exact z_sub [1, 2, 4] rfl (z_X7_thinkable_88 F n hk33 X 0 v2 v1 v3 hf)
  · refine z_aload_n F dX7_thinkable_78 1 rfl rfl ?_
    refine gM_0_21 F wm_783 dX7_thinkable_79 ?_
    refine z_iload_n F dX7_thinkable_82 4 rfl rfl ?_
    refine lM_12 F hf dX7_thinkable_83 (fun hf => ?_)
    refine z_goto (tgt := 88) F dX7_thinkable_84 (by decide) ?_
    exact z_sub [1, 2, 4] rfl (z_X7_thinkable_88 F n hk33 X (X 12 v3.toNatClampNeg) v2 v1 v3 hf)
set_option maxHeartbeats 4000000 in
set_option maxRecDepth 100000 in
theorem z_X7_thinkable_69 {z : ZC} {D : va_G} {cI cZ : ClassId} {ad : Nat → Nat} {R : Int32 × KX} {k33 : KX → Int32 → Int32 → Int32 → Option (Int32 × KX)} (F : ZF z (yM D cI cZ ad) cX7_thinkable RX7 5 (some .int) 4) (n : Nat) (hk33 : ∀ (X : KX) (v1 : Int32) (v2 : Int32) (v3 : Int32), k33 X v1 v2 v3 = some R → Z z (yM D cI cZ ad) 5 (zQI z (yM D cI cZ ad) R) X 33 [(0, .ref (ad 0)), (1, .int v1), (2, .int v2), (3, .int v3)] []) (X : KX) (v1 : Int32) (v2 : Int32) (v3 : Int32) (hf : f_X7_thinkable_69 n k33 X v1 v2 v3 = some R) : Z z (yM D cI cZ ad) 5 (zQI z (yM D cI cZ ad) R) X 69 [(0, .ref (ad 0)), (1, .int v1), (2, .int v2), (3, .int v3)] [] := by
  unfold f_X7_thinkable_69 at hf
  refine z_iconst (v := 0) F dX7_thinkable_69 (by decide +kernel) ?_
  exact z_sub [0, 1, 2, 3] rfl (z_X7_thinkable_70 F n hk33 X 0 v1 v2 v3 hf)
set_option maxHeartbeats 4000000 in
set_option maxRecDepth 100000 in
theorem z_X7_thinkable_33 {z : ZC} {D : va_G} {cI cZ : ClassId} {ad : Nat → Nat} {R : Int32 × KX} (F : ZF z (yM D cI cZ ad) cX7_thinkable RX7 5 (some .int) 4) (n : Nat) : ∀ (t : Nat) (X : KX) (v1 : Int32) (v2 : Int32) (v3 : Int32), f_X7_thinkable_33 n t X v1 v2 v3 = some R → Z z (yM D cI cZ ad) 5 (zQI z (yM D cI cZ ad) R) X 33 [(0, .ref (ad 0)), (1, .int v1), (2, .int v2), (3, .int v3)] [] := by
  intro t
  induction t with
  | zero => intro X v1 v2 v3 hf; rw [f_X7_thinkable_33] at hf; exact zNone hf
  | succ t ih =>
    intro X v1 v2 v3 hf
    rw [f_X7_thinkable_33] at hf
    refine z_iload_n F dX7_thinkable_33 3 rfl rfl ?_
    refine z_aload_n F dX7_thinkable_34 0 rfl rfl ?_
    refine k_X7_allHints F (by decide) wm_1014 (Nat.le_of_ble_eq_true rfl) hf dX7_thinkable_35 (fun r_1 hf => ?_)
    refine z_icmp_gt (tgt := 96) F hf dX7_thinkable_38 (by decide) (fun hf => ?_) (fun hf => ?_)
    · refine z_iload_n F dX7_thinkable_96 2 rfl rfl ?_
      exact z_iret F dX7_thinkable_97 (Option.some.inj hf)
    · refine z_iload_n F dX7_thinkable_41 3 rfl rfl ?_
      refine z_aload_n F dX7_thinkable_42 0 rfl rfl ?_
      refine z_iload_n F dX7_thinkable_43 1 rfl rfl ?_
      refine k_X7_ahead F (by decide) wm_1010 (Nat.le_of_ble_eq_true rfl) hf dX7_thinkable_44 (fun r_2 hf => ?_)
      refine z_iconst (v := (-1)) F dX7_thinkable_47 (by decide +kernel) ?_
      refine z_ixor F dX7_thinkable_48 ?_
      refine z_iand F dX7_thinkable_49 ?_
      refine z_if_ne (tgt := 69) F hf dX7_thinkable_50 (by decide) (fun hf => ?_) (fun hf => ?_)
      · exact z_sub [0, 1, 2, 3] rfl (z_X7_thinkable_69 F n ih X v1 v2 v3 hf)
      · refine z_iload_n F dX7_thinkable_53 3 rfl rfl ?_
        refine k_X7_ones F (by decide) wm_963 (Nat.le_of_ble_eq_true rfl) hf dX7_thinkable_54 (fun r_3 hf => ?_)
        refine z_aload_n F dX7_thinkable_57 0 rfl rfl ?_
        refine z_iload_n F dX7_thinkable_58 1 rfl rfl ?_
        refine k_X7_atMost F (by decide) wm_1006 (Nat.le_of_ble_eq_true rfl) hf dX7_thinkable_59 (fun r_4 hf => ?_)
        refine z_icmp_gt (tgt := 69) F hf dX7_thinkable_62 (by decide) (fun hf => ?_) (fun hf => ?_)
        · exact z_sub [0, 1, 2, 3] rfl (z_X7_thinkable_69 F n ih X v1 v2 v3 hf)
        · refine z_iconst (v := 1) F dX7_thinkable_65 (by decide +kernel) ?_
          refine z_goto (tgt := 70) F dX7_thinkable_66 (by decide) ?_
          exact z_sub [0, 1, 2, 3] rfl (z_X7_thinkable_70 F n ih X 1 v1 v2 v3 hf)
set_option maxHeartbeats 4000000 in
set_option maxRecDepth 100000 in
theorem z_X7_thinkable {z : ZC} {D : va_G} {cI cZ : ClassId} {ad : Nat → Nat} {R : Int32 × KX} (F : ZF z (yM D cI cZ ad) cX7_thinkable RX7 5 (some .int) 4) (n : Nat) (X : KX) (a1 : Int32) (hf : f_X7_thinkable n X a1 = some R) : Z z (yM D cI cZ ad) 5 (zQI z (yM D cI cZ ad) R) X 0 [(0, .ref (ad 0)), (1, .int a1)] [] := by
  unfold f_X7_thinkable at hf
  refine z_aload_n F dX7_thinkable_0 0 rfl rfl ?_
  refine z_iload_n F dX7_thinkable_1 1 rfl rfl ?_
  refine k_X7_isGuest F (by decide) wm_935 (Nat.le_of_ble_eq_true rfl) hf dX7_thinkable_2 (fun r_1 hf => ?_)
  refine z_if_ne (tgt := 11) F hf dX7_thinkable_5 (by decide) (fun hf => ?_) (fun hf => ?_)
  · refine z_aload_n F dX7_thinkable_11 0 rfl rfl ?_
    refine z_iload_n F dX7_thinkable_12 1 rfl rfl ?_
    refine z_iconst (v := 3) F dX7_thinkable_13 (by decide +kernel) ?_
    refine k_X7_of F (by decide) wm_943 (Nat.le_of_ble_eq_true rfl) hf dX7_thinkable_14 (fun r_2 hf => ?_)
    refine z_iconst (v := 2) F dX7_thinkable_17 (by decide +kernel) ?_
    refine z_icmp_ne (tgt := 24) F hf dX7_thinkable_18 (by decide) (fun hf => ?_) (fun hf => ?_)
    · refine z_aload_n F dX7_thinkable_24 0 rfl rfl ?_
      refine z_iload_n F dX7_thinkable_25 1 rfl rfl ?_
      refine k_X7_thinks F (by decide) wm_1029 (Nat.le_of_ble_eq_true rfl) hf dX7_thinkable_26 (fun X_3 hf => ?_)
      refine z_iconst (v := 0) F dX7_thinkable_29 (by decide +kernel) ?_
      refine z_istore_n (L' := [(2, .int 0), (0, .ref (ad 0)), (1, .int a1)]) F dX7_thinkable_30 rfl (Nat.le_of_ble_eq_true rfl) rfl ?_
      refine z_iconst (v := 0) F dX7_thinkable_31 (by decide +kernel) ?_
      refine z_istore_n (L' := [(3, .int 0), (2, .int 0), (0, .ref (ad 0)), (1, .int a1)]) F dX7_thinkable_32 rfl (Nat.le_of_ble_eq_true rfl) rfl ?_
      exact z_sub [2, 3, 1, 0] rfl (z_X7_thinkable_33 F n n X_3 a1 0 0 hf)
    · refine z_ldc F wm_947 dX7_thinkable_21 ?_
      exact z_iret F dX7_thinkable_23 (Option.some.inj hf)
  · refine z_ldc F wm_846 dX7_thinkable_8 ?_
    exact z_iret F dX7_thinkable_10 (Option.some.inj hf)
theorem c_X7_thinkable {D : va_G} {cI cZ : ClassId} {ad : Nat → Nat} {R : Int32 × KX} (n : Nat) (X : KX) (a1 : Int32) (hf : f_X7_thinkable n X a1 = some R) : zMI (yM D cI cZ ad) yX7_thinkable cX7_thinkable 5 (some .int) 4 [.ref (ad 0), .int a1] X R := zMI_of (by decide +kernel) (Nat.le_of_ble_eq_true rfl) (fun z F => z_sub [0, 1] rfl (z_X7_thinkable F n X a1 hf))
theorem k_X7_thinkable {z : ZC} {D : va_G} {cI cZ : ClassId} {ad : Nat → Nat} {cc : ByteArray} {own : String} {nL d pc index : Nat} {ret : Option FieldType} {Q : State → Prop} {X : KX} {L : List (Nat × Value)} {rest : List Value} {n : Nat} {a1 : Int32} (F : ZF z (yM D cI cZ ad) cc own nL ret d) (hd : 4 + 1 ≤ d) (hw : Cond.methodLink own index yX7_thinkable ∈ wsA) (hst : (rest.map fun v => v.category).sum ≤ 8) {β : Type} {e : Int32 → KX → Option β} {r : β} (hf : zB2 (f_X7_thinkable n X a1) e = some r) (hdg : decode cc pc = .ok (.invokevirtual index, 3)) (kk : ∀ (v : Int32) (X2 : KX), e v X2 = some r → Z z (yM D cI cZ ad) nL Q X2 (pc + 3) L (.int v :: rest)) : Z z (yM D cI cZ ad) nL Q X pc L (.int a1 :: .ref (ad 0) :: rest) := by
  obtain ⟨v, X2, h1, h2⟩ := zB2_some hf
  exact z_cVI (As := [.int a1]) F (c_X7_thinkable n X a1 h1) kn_X7_thinkable kv_X7_thinkable hw (q0 := 0) rfl rfl hd rfl hst hdg rfl (kk v X2 h2)
theorem kv_X7_chance : zKv yX7_chance := ⟨wm_1034, wm_1035⟩
theorem kn_X7_chance : zKn yX7_chance cX7_chance 9 (some .int) 3 := ⟨wm_1036, wm_62, by decide +kernel, by decide⟩
set_option maxHeartbeats 4000000 in
set_option maxRecDepth 100000 in
theorem z_X7_chance_171 {z : ZC} {D : va_G} {cI cZ : ClassId} {ad : Nat → Nat} {r : Int32} (F : ZF z (yM D cI cZ ad) cX7_chance RX7 9 (some .int) 4) (n : Nat) (X : KX) (s0 : Int32) (v6 : Int32) (hf : f_X7_chance_171 n X s0 v6 = some r) : Z z (yM D cI cZ ad) 9 (zQI z (yM D cI cZ ad) (r, X)) X 171 [(6, .int v6)] [.int s0] := by
  unfold f_X7_chance_171 at hf
  refine z_iload F dX7_chance_171 0 rfl ?_
  refine z_idiv F hf dX7_chance_173 (fun hf => ?_)
  exact z_iret F dX7_chance_174 (Prod.ext (Option.some.inj hf) rfl)
set_option maxHeartbeats 4000000 in
set_option maxRecDepth 100000 in
theorem z_X7_chance_137 {z : ZC} {D : va_G} {cI cZ : ClassId} {ad : Nat → Nat} {r : Int32} (F : ZF z (yM D cI cZ ad) cX7_chance RX7 9 (some .int) 4) (n : Nat) (X : KX) : ∀ (t : Nat) (v3 : Int32) (v4 : Int32) (v5 : Int32) (v6 : Int32) (v7 : Int32), f_X7_chance_137 n X t v3 v4 v5 v6 v7 = some r → Z z (yM D cI cZ ad) 9 (zQI z (yM D cI cZ ad) (r, X)) X 137 [(3, .int v3), (4, .int v4), (5, .int v5), (6, .int v6), (7, .int v7)] [] := by
  intro t
  induction t with
  | zero => intro v3 v4 v5 v6 v7 hf; rw [f_X7_chance_137] at hf; exact zNone hf
  | succ t ih =>
    intro v3 v4 v5 v6 v7 hf
    rw [f_X7_chance_137] at hf
    refine z_iload F dX7_chance_137 4 rfl ?_
    refine z_if_eq (tgt := 160) F hf dX7_chance_139 (by decide) (fun hf => ?_) (fun hf => ?_)
    · refine z_iload_n F dX7_chance_160 0 rfl rfl ?_
      refine z_if_ne (tgt := 169) F hf dX7_chance_161 (by decide) (fun hf => ?_) (fun hf => ?_)
      · refine z_iload F dX7_chance_169 2 rfl ?_
        exact z_sub [3] rfl (z_X7_chance_171 F n X v5 v6 hf)
      · refine z_iload F dX7_chance_164 1 rfl ?_
        refine z_goto (tgt := 171) F dX7_chance_166 (by decide) ?_
        exact z_sub [3] rfl (z_X7_chance_171 F n X v4 v6 hf)
    · refine z_iload F dX7_chance_142 3 rfl ?_
      refine z_iload F dX7_chance_144 4 rfl ?_
      refine z_irem F hf dX7_chance_146 (fun hf => ?_)
      refine z_top hf (fun v8_1 hf => ?_)
      refine z_istore (L' := [(8, .int v8_1), (3, .int v3), (4, .int v4), (5, .int v5), (6, .int v6), (7, .int v7)]) F dX7_chance_147 (Nat.le_of_ble_eq_true rfl) rfl ?_
      refine z_iload F dX7_chance_149 5 rfl ?_
      refine z_istore (L' := [(6, .int v7), (8, .int v8_1), (3, .int v3), (4, .int v4), (5, .int v5), (7, .int v7)]) F dX7_chance_151 (Nat.le_of_ble_eq_true rfl) rfl ?_
      refine z_iload F dX7_chance_153 1 rfl ?_
      refine z_istore (L' := [(7, .int v8_1), (6, .int v7), (8, .int v8_1), (3, .int v3), (4, .int v4), (5, .int v5)]) F dX7_chance_155 (Nat.le_of_ble_eq_true rfl) rfl ?_
      refine z_goto (tgt := 137) F dX7_chance_157 (by decide) ?_
      exact z_sub [3, 4, 5, 1, 0] rfl (ih v3 v4 v5 v7 v8_1 hf)
set_option maxHeartbeats 4000000 in
set_option maxRecDepth 100000 in
theorem z_X7_chance_120 {z : ZC} {D : va_G} {cI cZ : ClassId} {ad : Nat → Nat} {r : Int32} {k63 : Int32 → Int32 → Int32 → Int32 → Int32 → Int32 → Option Int32} (F : ZF z (yM D cI cZ ad) cX7_chance RX7 9 (some .int) 4) (n : Nat) (X : KX) (hk63 : ∀ (v1 : Int32) (v2 : Int32) (v3 : Int32) (v4 : Int32) (v5 : Int32) (v6 : Int32), k63 v1 v2 v3 v4 v5 v6 = some r → Z z (yM D cI cZ ad) 9 (zQI z (yM D cI cZ ad) (r, X)) X 63 [(0, .ref (ad 0)), (1, .int v1), (2, .int v2), (3, .int v3), (4, .int v4), (5, .int v5), (6, .int v6)] []) (s0 : Int32) (s1 : Int32) (v1 : Int32) (v2 : Int32) (v3 : Int32) (v5 : Int32) (v6 : Int32) (hf : f_X7_chance_120 n X k63 s0 s1 v1 v2 v3 v5 v6 = some r) : Z z (yM D cI cZ ad) 9 (zQI z (yM D cI cZ ad) (r, X)) X 120 [(0, .ref (ad 0)), (1, .int v1), (2, .int v2), (3, .int v3), (5, .int v5), (6, .int v6)] [.int s0, .int s1] := by
  unfold f_X7_chance_120 at hf
  refine z_iadd F dX7_chance_120 ?_
  refine z_top hf (fun v4_1 hf => ?_)
  refine z_istore (L' := [(4, .int v4_1), (0, .ref (ad 0)), (1, .int v1), (2, .int v2), (3, .int v3), (5, .int v5), (6, .int v6)]) F dX7_chance_121 (Nat.le_of_ble_eq_true rfl) rfl ?_
  refine z_iinc (w := 1) (L' := fun v6_2 => [(6, .int v6_2), (4, .int v4_1), (0, .ref (ad 0)), (1, .int v1), (2, .int v2), (3, .int v3), (5, .int v5)]) F hf dX7_chance_123 6 rfl (by decide +kernel) (Nat.le_of_ble_eq_true rfl) (fun _ => rfl) (fun v6_2 hf => ?_)
  refine z_goto (tgt := 63) F dX7_chance_126 (by decide) ?_
  exact z_sub [2, 3, 4, 5, 1, 6, 0] rfl (hk63 v1 v2 v3 v4_1 v5 v6_2 hf)
set_option maxHeartbeats 4000000 in
set_option maxRecDepth 100000 in
theorem z_X7_chance_99 {z : ZC} {D : va_G} {cI cZ : ClassId} {ad : Nat → Nat} {r : Int32} {k63 : Int32 → Int32 → Int32 → Int32 → Int32 → Int32 → Option Int32} (F : ZF z (yM D cI cZ ad) cX7_chance RX7 9 (some .int) 4) (n : Nat) (X : KX) (hk63 : ∀ (v1 : Int32) (v2 : Int32) (v3 : Int32) (v4 : Int32) (v5 : Int32) (v6 : Int32), k63 v1 v2 v3 v4 v5 v6 = some r → Z z (yM D cI cZ ad) 9 (zQI z (yM D cI cZ ad) (r, X)) X 63 [(0, .ref (ad 0)), (1, .int v1), (2, .int v2), (3, .int v3), (4, .int v4), (5, .int v5), (6, .int v6)] []) (s0 : Int32) (s1 : Int32) (v1 : Int32) (v2 : Int32) (v3 : Int32) (v4 : Int32) (v6 : Int32) (v7 : Int32) (hf : f_X7_chance_99 n X k63 s0 s1 v1 v2 v3 v4 v6 v7 = some r) : Z z (yM D cI cZ ad) 9 (zQI z (yM D cI cZ ad) (r, X)) X 99 [(0, .ref (ad 0)), (1, .int v1), (2, .int v2), (3, .int v3), (4, .int v4), (6, .int v6), (7, .int v7)] [.int s0, .int s1] := by
  unfold f_X7_chance_99 at hf
  refine z_iadd F dX7_chance_99 ?_
  refine z_top hf (fun v5_1 hf => ?_)
  refine z_istore (L' := [(5, .int v5_1), (0, .ref (ad 0)), (1, .int v1), (2, .int v2), (3, .int v3), (4, .int v4), (6, .int v6), (7, .int v7)]) F dX7_chance_100 (Nat.le_of_ble_eq_true rfl) rfl ?_
  refine z_iload F dX7_chance_102 5 rfl ?_
  refine z_iload F dX7_chance_104 7 rfl ?_
  refine z_aload_n F dX7_chance_106 1 rfl rfl ?_
  refine gM_0_13 F wm_775 dX7_chance_107 ?_
  refine z_iconst (v := 1) F dX7_chance_110 (by decide +kernel) ?_
  refine lM_6 F hf dX7_chance_111 (fun hf => ?_)
  refine z_icmp_ne (tgt := 119) F hf dX7_chance_112 (by decide) (fun hf => ?_) (fun hf => ?_)
  · refine z_iconst (v := 0) F dX7_chance_119 (by decide +kernel) ?_
    exact z_sub [1, 2, 3, 4, 0, 6] rfl (z_X7_chance_120 F n X hk63 0 v4 v1 v2 v3 v5_1 v6 hf)
  · refine z_iconst (v := 1) F dX7_chance_115 (by decide +kernel) ?_
    refine z_goto (tgt := 120) F dX7_chance_116 (by decide) ?_
    exact z_sub [1, 2, 3, 4, 0, 6] rfl (z_X7_chance_120 F n X hk63 1 v4 v1 v2 v3 v5_1 v6 hf)
set_option maxHeartbeats 4000000 in
set_option maxRecDepth 100000 in
theorem z_X7_chance_63 {z : ZC} {D : va_G} {cI cZ : ClassId} {ad : Nat → Nat} {r : Int32} (F : ZF z (yM D cI cZ ad) cX7_chance RX7 9 (some .int) 4) (n : Nat) (X : KX) : ∀ (t : Nat) (v1 : Int32) (v2 : Int32) (v3 : Int32) (v4 : Int32) (v5 : Int32) (v6 : Int32), f_X7_chance_63 n X t v1 v2 v3 v4 v5 v6 = some r → Z z (yM D cI cZ ad) 9 (zQI z (yM D cI cZ ad) (r, X)) X 63 [(0, .ref (ad 0)), (1, .int v1), (2, .int v2), (3, .int v3), (4, .int v4), (5, .int v5), (6, .int v6)] [] := by
  intro t
  induction t with
  | zero => intro v1 v2 v3 v4 v5 v6 hf; rw [f_X7_chance_63] at hf; exact zNone hf
  | succ t ih =>
    intro v1 v2 v3 v4 v5 v6 hf
    rw [f_X7_chance_63] at hf
    refine z_iload F dX7_chance_63 6 rfl ?_
    refine z_bipush (v := 8) F dX7_chance_65 (by decide +kernel) ?_
    refine z_iload_n F dX7_chance_67 2 rfl rfl ?_
    refine k_X7_power F (by decide) wm_1018 (Nat.le_of_ble_eq_true rfl) hf dX7_chance_68 (fun r_1 hf => ?_)
    refine z_icmp_ge (tgt := 129) F hf dX7_chance_71 (by decide) (fun hf => ?_) (fun hf => ?_)
    · refine z_iload F dX7_chance_129 4 rfl ?_
      refine z_istore (L' := [(6, .int v4), (0, .ref (ad 0)), (1, .int v1), (2, .int v2), (3, .int v3), (4, .int v4), (5, .int v5)]) F dX7_chance_131 (Nat.le_of_ble_eq_true rfl) rfl ?_
      refine z_iload F dX7_chance_133 6 rfl ?_
      refine z_istore (L' := [(7, .int v5), (6, .int v4), (0, .ref (ad 0)), (1, .int v1), (2, .int v2), (3, .int v3), (4, .int v4), (5, .int v5)]) F dX7_chance_135 (Nat.le_of_ble_eq_true rfl) rfl ?_
      exact z_sub [5, 6, 7, 1, 0] rfl (z_X7_chance_137 F n X n v3 v4 v5 v4 v5 hf)
    · refine z_aload_n F dX7_chance_74 0 rfl rfl ?_
      refine z_iload_n F dX7_chance_75 1 rfl rfl ?_
      refine z_iload F dX7_chance_76 6 rfl ?_
      refine z_iload_n F dX7_chance_78 2 rfl rfl ?_
      refine z_iconst (v := 0) F dX7_chance_79 (by decide +kernel) ?_
      refine k_X7_endOf F (by decide) wm_1021 (Nat.le_of_ble_eq_true rfl) hf dX7_chance_80 (fun r_2 hf => ?_)
      refine z_istore (L' := [(7, .int r_2), (0, .ref (ad 0)), (1, .int v1), (2, .int v2), (3, .int v3), (4, .int v4), (5, .int v5), (6, .int v6)]) F dX7_chance_83 (Nat.le_of_ble_eq_true rfl) rfl ?_
      refine z_iload F dX7_chance_85 6 rfl ?_
      refine z_iload F dX7_chance_87 0 rfl ?_
      refine z_ldc F wm_761 dX7_chance_89 ?_
      refine z_icmp_ne (tgt := 98) F hf dX7_chance_91 (by decide) (fun hf => ?_) (fun hf => ?_)
      · refine z_iconst (v := 1) F dX7_chance_98 (by decide +kernel) ?_
        exact z_sub [1, 2, 3, 4, 5, 7, 0] rfl (z_X7_chance_99 F n X ih 1 v5 v1 v2 v3 v4 v6 r_2 hf)
      · refine z_iconst (v := 0) F dX7_chance_94 (by decide +kernel) ?_
        refine z_goto (tgt := 99) F dX7_chance_95 (by decide) ?_
        exact z_sub [1, 2, 3, 4, 5, 7, 0] rfl (z_X7_chance_99 F n X ih 0 v5 v1 v2 v3 v4 v6 r_2 hf)
set_option maxHeartbeats 4000000 in
set_option maxRecDepth 100000 in
theorem z_X7_chance {z : ZC} {D : va_G} {cI cZ : ClassId} {ad : Nat → Nat} {r : Int32} (F : ZF z (yM D cI cZ ad) cX7_chance RX7 9 (some .int) 4) (n : Nat) (X : KX) (a1 : Int32) (a2 : Int32) (a3 : Int32) (hf : f_X7_chance n X a1 a2 a3 = some r) : Z z (yM D cI cZ ad) 9 (zQI z (yM D cI cZ ad) (r, X)) X 0 [(0, .ref (ad 0)), (1, .int a1), (2, .int a2), (3, .int a3)] [] := by
  unfold f_X7_chance at hf
  refine z_aload_n F dX7_chance_0 0 rfl rfl ?_
  refine z_iload_n F dX7_chance_1 1 rfl rfl ?_
  refine k_X7_isGuest F (by decide) wm_935 (Nat.le_of_ble_eq_true rfl) hf dX7_chance_2 (fun r_1 hf => ?_)
  refine z_if_eq (tgt := 26) F hf dX7_chance_5 (by decide) (fun hf => ?_) (fun hf => ?_)
  · refine z_ldc F wm_846 dX7_chance_26 ?_
    exact z_iret F dX7_chance_28 (Prod.ext (Option.some.inj hf) rfl)
  · refine z_iload_n F dX7_chance_8 2 rfl rfl ?_
    refine z_iconst (v := 0) F dX7_chance_9 (by decide +kernel) ?_
    refine z_iconst (v := 4) F dX7_chance_10 (by decide +kernel) ?_
    refine k_X7_in F (by decide) wm_843 (Nat.le_of_ble_eq_true rfl) dX7_chance_11 ?_
    refine z_if_eq (tgt := 26) F hf dX7_chance_14 (by decide) (fun hf => ?_) (fun hf => ?_)
    · refine z_ldc F wm_846 dX7_chance_26 ?_
      exact z_iret F dX7_chance_28 (Prod.ext (Option.some.inj hf) rfl)
    · refine z_iload_n F dX7_chance_17 3 rfl rfl ?_
      refine z_iconst (v := 0) F dX7_chance_18 (by decide +kernel) ?_
      refine z_iconst (v := 1) F dX7_chance_19 (by decide +kernel) ?_
      refine k_X7_in F (by decide) wm_843 (Nat.le_of_ble_eq_true rfl) dX7_chance_20 ?_
      refine z_if_ne (tgt := 29) F hf dX7_chance_23 (by decide) (fun hf => ?_) (fun hf => ?_)
      · refine z_aload_n F dX7_chance_29 0 rfl rfl ?_
        refine z_iload_n F dX7_chance_30 1 rfl rfl ?_
        refine z_iconst (v := 3) F dX7_chance_31 (by decide +kernel) ?_
        refine k_X7_of F (by decide) wm_943 (Nat.le_of_ble_eq_true rfl) hf dX7_chance_32 (fun r_2 hf => ?_)
        refine z_iconst (v := 2) F dX7_chance_35 (by decide +kernel) ?_
        refine z_icmp_ne (tgt := 42) F hf dX7_chance_36 (by decide) (fun hf => ?_) (fun hf => ?_)
        · refine z_iload_n F dX7_chance_42 2 rfl rfl ?_
          refine z_aload_n F dX7_chance_43 0 rfl rfl ?_
          refine z_iload_n F dX7_chance_44 1 rfl rfl ?_
          refine k_X7_atMost F (by decide) wm_1006 (Nat.le_of_ble_eq_true rfl) hf dX7_chance_45 (fun r_3 hf => ?_)
          refine z_icmp_le (tgt := 54) F hf dX7_chance_48 (by decide) (fun hf => ?_) (fun hf => ?_)
          · refine z_iconst (v := 0) F dX7_chance_54 (by decide +kernel) ?_
            refine z_istore (L' := [(4, .int 0), (0, .ref (ad 0)), (1, .int a1), (2, .int a2), (3, .int a3)]) F dX7_chance_55 (Nat.le_of_ble_eq_true rfl) rfl ?_
            refine z_iconst (v := 0) F dX7_chance_57 (by decide +kernel) ?_
            refine z_istore (L' := [(5, .int 0), (4, .int 0), (0, .ref (ad 0)), (1, .int a1), (2, .int a2), (3, .int a3)]) F dX7_chance_58 (Nat.le_of_ble_eq_true rfl) rfl ?_
            refine z_iconst (v := 0) F dX7_chance_60 (by decide +kernel) ?_
            refine z_istore (L' := [(6, .int 0), (5, .int 0), (4, .int 0), (0, .ref (ad 0)), (1, .int a1), (2, .int a2), (3, .int a3)]) F dX7_chance_61 (Nat.le_of_ble_eq_true rfl) rfl ?_
            exact z_sub [3, 4, 5, 6, 2, 1, 0] rfl (z_X7_chance_63 F n X n a1 a2 a3 0 0 0 hf)
          · refine z_ldc F wm_761 dX7_chance_51 ?_
            exact z_iret F dX7_chance_53 (Prod.ext (Option.some.inj hf) rfl)
        · refine z_ldc F wm_947 dX7_chance_39 ?_
          exact z_iret F dX7_chance_41 (Prod.ext (Option.some.inj hf) rfl)
      · refine z_ldc F wm_846 dX7_chance_26 ?_
        exact z_iret F dX7_chance_28 (Prod.ext (Option.some.inj hf) rfl)
theorem c_X7_chance {D : va_G} {cI cZ : ClassId} {ad : Nat → Nat} {r : Int32} (n : Nat) (X : KX) (a1 : Int32) (a2 : Int32) (a3 : Int32) (hf : f_X7_chance n X a1 a2 a3 = some r) : zMI (yM D cI cZ ad) yX7_chance cX7_chance 9 (some .int) 4 [.ref (ad 0), .int a1, .int a2, .int a3] X (r, X) := zMI_of (by decide +kernel) (Nat.le_of_ble_eq_true rfl) (fun z F => z_sub [0, 1, 2, 3] rfl (z_X7_chance F n X a1 a2 a3 hf))
theorem k_X7_chance {z : ZC} {D : va_G} {cI cZ : ClassId} {ad : Nat → Nat} {cc : ByteArray} {own : String} {nL d pc index : Nat} {ret : Option FieldType} {Q : State → Prop} {X : KX} {L : List (Nat × Value)} {rest : List Value} {n : Nat} {a1 a2 a3 : Int32} (F : ZF z (yM D cI cZ ad) cc own nL ret d) (hd : 4 + 1 ≤ d) (hw : Cond.methodLink own index yX7_chance ∈ wsA) (hst : (rest.map fun v => v.category).sum ≤ 8) {β : Type} {e : Int32 → Option β} {r : β} (hf : zB1 (f_X7_chance n X a1 a2 a3) e = some r) (hdg : decode cc pc = .ok (.invokevirtual index, 3)) (kk : ∀ v : Int32, e v = some r → Z z (yM D cI cZ ad) nL Q X (pc + 3) L (.int v :: rest)) : Z z (yM D cI cZ ad) nL Q X pc L (.int a3 :: .int a2 :: .int a1 :: .ref (ad 0) :: rest) := by
  obtain ⟨v, h1, h2⟩ := zB1_some hf
  exact z_cVI (As := [.int a1, .int a2, .int a3]) F (c_X7_chance n X a1 a2 a3 h1) kn_X7_chance kv_X7_chance hw (q0 := 0) rfl rfl hd rfl hst hdg rfl (kk v h2)
theorem kv_X7_taught : zKv yX7_taught := ⟨wm_1038, wm_1039⟩
theorem kn_X7_taught : zKn yX7_taught cX7_taught 2 (some .int) 1 := ⟨wm_1040, wm_62, by decide +kernel, by decide⟩
set_option maxHeartbeats 4000000 in
set_option maxRecDepth 100000 in
theorem z_X7_taught {z : ZC} {D : va_G} {cI cZ : ClassId} {ad : Nat → Nat} {r : Int32} (F : ZF z (yM D cI cZ ad) cX7_taught RX7 2 (some .int) 3) (X : KX) (a1 : Int32) (hf : f_X7_taught X a1 = some r) : Z z (yM D cI cZ ad) 2 (zQI z (yM D cI cZ ad) (r, X)) X 0 [(0, .ref (ad 0)), (1, .int a1)] [] := by
  unfold f_X7_taught at hf
  refine z_aload_n F dX7_taught_0 0 rfl rfl ?_
  refine z_iload_n F dX7_taught_1 1 rfl rfl ?_
  refine k_X7_isGuest F (by decide) wm_935 (Nat.le_of_ble_eq_true rfl) hf dX7_taught_2 (fun r_1 hf => ?_)
  refine z_if_ne (tgt := 11) F hf dX7_taught_5 (by decide) (fun hf => ?_) (fun hf => ?_)
  · refine z_aload_n F dX7_taught_11 0 rfl rfl ?_
    refine z_iload_n F dX7_taught_12 1 rfl rfl ?_
    refine k_X7_dares F (by decide) wm_978 (Nat.le_of_ble_eq_true rfl) hf dX7_taught_13 (fun r_2 hf => ?_)
    refine z_if_eq (tgt := 23) F hf dX7_taught_16 (by decide) (fun hf => ?_) (fun hf => ?_)
    · refine z_aload_n F dX7_taught_23 0 rfl rfl ?_
      refine z_iload_n F dX7_taught_24 1 rfl rfl ?_
      refine z_iconst (v := 1) F dX7_taught_25 (by decide +kernel) ?_
      refine k_X7_of F (by decide) wm_943 (Nat.le_of_ble_eq_true rfl) hf dX7_taught_26 (fun r_3 hf => ?_)
      refine z_aload_n F dX7_taught_29 0 rfl rfl ?_
      refine z_iload_n F dX7_taught_30 1 rfl rfl ?_
      refine z_iconst (v := 2) F dX7_taught_31 (by decide +kernel) ?_
      refine k_X7_of F (by decide) wm_943 (Nat.le_of_ble_eq_true rfl) hf dX7_taught_32 (fun r_4 hf => ?_)
      refine z_isub F dX7_taught_35 ?_
      exact z_iret F dX7_taught_36 (Prod.ext (Option.some.inj hf) rfl)
    · refine z_iconst (v := 0) F dX7_taught_19 (by decide +kernel) ?_
      refine z_goto (tgt := 36) F dX7_taught_20 (by decide) ?_
      exact z_iret F dX7_taught_36 (Prod.ext (Option.some.inj hf) rfl)
  · refine z_ldc F wm_846 dX7_taught_8 ?_
    exact z_iret F dX7_taught_10 (Prod.ext (Option.some.inj hf) rfl)
theorem c_X7_taught {D : va_G} {cI cZ : ClassId} {ad : Nat → Nat} {r : Int32} (X : KX) (a1 : Int32) (hf : f_X7_taught X a1 = some r) : zMI (yM D cI cZ ad) yX7_taught cX7_taught 2 (some .int) 3 [.ref (ad 0), .int a1] X (r, X) := zMI_of (by decide +kernel) (Nat.le_of_ble_eq_true rfl) (fun z F => z_sub [0, 1] rfl (z_X7_taught F X a1 hf))
theorem k_X7_taught {z : ZC} {D : va_G} {cI cZ : ClassId} {ad : Nat → Nat} {cc : ByteArray} {own : String} {nL d pc index : Nat} {ret : Option FieldType} {Q : State → Prop} {X : KX} {L : List (Nat × Value)} {rest : List Value} {a1 : Int32} (F : ZF z (yM D cI cZ ad) cc own nL ret d) (hd : 3 + 1 ≤ d) (hw : Cond.methodLink own index yX7_taught ∈ wsA) (hst : (rest.map fun v => v.category).sum ≤ 8) {β : Type} {e : Int32 → Option β} {r : β} (hf : zB1 (f_X7_taught X a1) e = some r) (hdg : decode cc pc = .ok (.invokevirtual index, 3)) (kk : ∀ v : Int32, e v = some r → Z z (yM D cI cZ ad) nL Q X (pc + 3) L (.int v :: rest)) : Z z (yM D cI cZ ad) nL Q X pc L (.int a1 :: .ref (ad 0) :: rest) := by
  obtain ⟨v, h1, h2⟩ := zB1_some hf
  exact z_cVI (As := [.int a1]) F (c_X7_taught X a1 h1) kn_X7_taught kv_X7_taught hw (q0 := 0) rfl rfl hd rfl hst hdg rfl (kk v h2)
theorem kv_X7_isCastle : zKv yX7_isCastle := ⟨wm_1047, wm_43⟩
theorem kn_X7_isCastle : zKn yX7_isCastle cX7_isCastle 1 (some .boolean) 0 := ⟨wm_1048, wm_62, by decide +kernel, by decide⟩
set_option maxHeartbeats 4000000 in
set_option maxRecDepth 100000 in
theorem z_X7_isCastle {z : ZC} {D : va_G} {cI cZ : ClassId} {ad : Nat → Nat} {r : Int32} (F : ZF z (yM D cI cZ ad) cX7_isCastle RX7 1 (some .boolean) 1) (X : KX)  (hf : f_X7_isCastle X = some r) : Z z (yM D cI cZ ad) 1 (zQI z (yM D cI cZ ad) (r, X)) X 0 [(0, .ref (ad 0))] [] := by
  unfold f_X7_isCastle at hf
  refine z_aload_n F dX7_isCastle_0 0 rfl rfl ?_
  refine gM_0_13 F wm_775 dX7_isCastle_1 ?_
  refine z_iconst (v := 0) F dX7_isCastle_4 (by decide +kernel) ?_
  refine lM_6 F hf dX7_isCastle_5 (fun hf => ?_)
  refine z_if_le (tgt := 13) F hf dX7_isCastle_6 (by decide) (fun hf => ?_) (fun hf => ?_)
  · refine z_iconst (v := 0) F dX7_isCastle_13 (by decide +kernel) ?_
    exact z_zret F (by decide) dX7_isCastle_14 (Prod.ext (Option.some.inj hf) rfl)
  · refine z_iconst (v := 1) F dX7_isCastle_9 (by decide +kernel) ?_
    refine z_goto (tgt := 14) F dX7_isCastle_10 (by decide) ?_
    exact z_zret F (by decide) dX7_isCastle_14 (Prod.ext (Option.some.inj hf) rfl)
theorem c_X7_isCastle {D : va_G} {cI cZ : ClassId} {ad : Nat → Nat} {r : Int32} (X : KX)  (hf : f_X7_isCastle X = some r) : zMI (yM D cI cZ ad) yX7_isCastle cX7_isCastle 1 (some .boolean) 1 [.ref (ad 0)] X (r, X) := zMI_of (by decide +kernel) (Nat.le_of_ble_eq_true rfl) (fun z F => z_sub [0] rfl (z_X7_isCastle F X hf))
theorem k_X7_isCastle {z : ZC} {D : va_G} {cI cZ : ClassId} {ad : Nat → Nat} {cc : ByteArray} {own : String} {nL d pc index : Nat} {ret : Option FieldType} {Q : State → Prop} {X : KX} {L : List (Nat × Value)} {rest : List Value} (F : ZF z (yM D cI cZ ad) cc own nL ret d) (hd : 1 + 1 ≤ d) (hw : Cond.methodLink own index yX7_isCastle ∈ wsA) (hst : (rest.map fun v => v.category).sum ≤ 8) {β : Type} {e : Int32 → Option β} {r : β} (hf : zB1 (f_X7_isCastle X) e = some r) (hdg : decode cc pc = .ok (.invokevirtual index, 3)) (kk : ∀ v : Int32, e v = some r → Z z (yM D cI cZ ad) nL Q X (pc + 3) L (.int v :: rest)) : Z z (yM D cI cZ ad) nL Q X pc L (.ref (ad 0) :: rest) := by
  obtain ⟨v, h1, h2⟩ := zB1_some hf
  exact z_cVI (As := []) F (c_X7_isCastle X h1) kn_X7_isCastle kv_X7_isCastle hw (q0 := 0) rfl rfl hd rfl hst hdg rfl (kk v h2)
theorem kv_X7_fewest : zKv yX7_fewest := ⟨wm_1051, wm_44⟩
theorem kn_X7_fewest : zKn yX7_fewest cX7_fewest 6 (some .int) 2 := ⟨wm_1052, wm_62, by decide +kernel, by decide⟩
set_option maxHeartbeats 4000000 in
set_option maxRecDepth 100000 in
theorem z_X7_fewest_85 {z : ZC} {D : va_G} {cI cZ : ClassId} {ad : Nat → Nat} {r : Int32} {k6 : Int32 → Int32 → Int32 → Int32 → Option Int32} (F : ZF z (yM D cI cZ ad) cX7_fewest RX7 6 (some .int) 2) (n : Nat) (X : KX) (hk6 : ∀ (v1 : Int32) (v2 : Int32) (v3 : Int32) (v4 : Int32), k6 v1 v2 v3 v4 = some r → Z z (yM D cI cZ ad) 6 (zQI z (yM D cI cZ ad) (r, X)) X 6 [(0, .ref (ad 0)), (1, .int v1), (2, .int v2), (3, .int v3), (4, .int v4)] []) (s0 : Int32) (v1 : Int32) (v2 : Int32) (v4 : Int32) (hf : f_X7_fewest_85 n X k6 s0 v1 v2 v4 = some r) : Z z (yM D cI cZ ad) 6 (zQI z (yM D cI cZ ad) (r, X)) X 85 [(0, .ref (ad 0)), (1, .int v1), (2, .int v2), (4, .int v4)] [.int s0] := by
  unfold f_X7_fewest_85 at hf
  refine z_istore_n (L' := [(3, .int s0), (0, .ref (ad 0)), (1, .int v1), (2, .int v2), (4, .int v4)]) F dX7_fewest_85 rfl (Nat.le_of_ble_eq_true rfl) rfl ?_
  refine z_iinc (w := 1) (L' := fun v4_1 => [(4, .int v4_1), (3, .int s0), (0, .ref (ad 0)), (1, .int v1), (2, .int v2)]) F hf dX7_fewest_86 4 rfl (by decide +kernel) (Nat.le_of_ble_eq_true rfl) (fun _ => rfl) (fun v4_1 hf => ?_)
  refine z_goto (tgt := 6) F dX7_fewest_89 (by decide) ?_
  exact z_sub [2, 3, 4, 1, 0] rfl (hk6 v1 v2 s0 v4_1 hf)
set_option maxHeartbeats 4000000 in
set_option maxRecDepth 100000 in
theorem z_X7_fewest_84 {z : ZC} {D : va_G} {cI cZ : ClassId} {ad : Nat → Nat} {r : Int32} {k6 : Int32 → Int32 → Int32 → Int32 → Option Int32} (F : ZF z (yM D cI cZ ad) cX7_fewest RX7 6 (some .int) 2) (n : Nat) (X : KX) (hk6 : ∀ (v1 : Int32) (v2 : Int32) (v3 : Int32) (v4 : Int32), k6 v1 v2 v3 v4 = some r → Z z (yM D cI cZ ad) 6 (zQI z (yM D cI cZ ad) (r, X)) X 6 [(0, .ref (ad 0)), (1, .int v1), (2, .int v2), (3, .int v3), (4, .int v4)] []) (v1 : Int32) (v2 : Int32) (v3 : Int32) (v4 : Int32) (hf : f_X7_fewest_84 n X k6 v1 v2 v3 v4 = some r) : Z z (yM D cI cZ ad) 6 (zQI z (yM D cI cZ ad) (r, X)) X 84 [(0, .ref (ad 0)), (1, .int v1), (2, .int v2), (3, .int v3), (4, .int v4)] [] := by
  unfold f_X7_fewest_84 at hf
  refine z_iload_n F dX7_fewest_84 3 rfl rfl ?_
  exact z_sub [0, 1, 2, 4] rfl (z_X7_fewest_85 F n X hk6 v3 v1 v2 v4 hf)
set_option maxHeartbeats 4000000 in
set_option maxRecDepth 100000 in
theorem z_X7_fewest_76 {z : ZC} {D : va_G} {cI cZ : ClassId} {ad : Nat → Nat} {r : Int32} {k6 : Int32 → Int32 → Int32 → Int32 → Option Int32} (F : ZF z (yM D cI cZ ad) cX7_fewest RX7 6 (some .int) 2) (n : Nat) (X : KX) (hk6 : ∀ (v1 : Int32) (v2 : Int32) (v3 : Int32) (v4 : Int32), k6 v1 v2 v3 v4 = some r → Z z (yM D cI cZ ad) 6 (zQI z (yM D cI cZ ad) (r, X)) X 6 [(0, .ref (ad 0)), (1, .int v1), (2, .int v2), (3, .int v3), (4, .int v4)] []) (v1 : Int32) (v2 : Int32) (v4 : Int32) (hf : f_X7_fewest_76 n X k6 v1 v2 v4 = some r) : Z z (yM D cI cZ ad) 6 (zQI z (yM D cI cZ ad) (r, X)) X 76 [(0, .ref (ad 0)), (1, .int v1), (2, .int v2), (4, .int v4)] [] := by
  unfold f_X7_fewest_76 at hf
  refine z_iload F dX7_fewest_76 3 rfl ?_
  refine k_X7_ones F (by decide) wm_963 (Nat.le_of_ble_eq_true rfl) hf dX7_fewest_78 (fun r_1 hf => ?_)
  refine z_goto (tgt := 85) F dX7_fewest_81 (by decide) ?_
  exact z_sub [0, 1, 2, 3] rfl (z_X7_fewest_85 F n X hk6 r_1 v1 v2 v4 hf)
set_option maxHeartbeats 4000000 in
set_option maxRecDepth 100000 in
theorem z_X7_fewest_54 {z : ZC} {D : va_G} {cI cZ : ClassId} {ad : Nat → Nat} {r : Int32} {k6 : Int32 → Int32 → Int32 → Int32 → Option Int32} (F : ZF z (yM D cI cZ ad) cX7_fewest RX7 6 (some .int) 2) (n : Nat) (X : KX) (hk6 : ∀ (v1 : Int32) (v2 : Int32) (v3 : Int32) (v4 : Int32), k6 v1 v2 v3 v4 = some r → Z z (yM D cI cZ ad) 6 (zQI z (yM D cI cZ ad) (r, X)) X 6 [(0, .ref (ad 0)), (1, .int v1), (2, .int v2), (3, .int v3), (4, .int v4)] []) (s0 : Int32) (v1 : Int32) (v2 : Int32) (v3 : Int32) (v4 : Int32) (hf : f_X7_fewest_54 n X k6 s0 v1 v2 v3 v4 = some r) : Z z (yM D cI cZ ad) 6 (zQI z (yM D cI cZ ad) (r, X)) X 54 [(0, .ref (ad 0)), (1, .int v1), (2, .int v2), (3, .int v3), (4, .int v4)] [.int s0] := by
  unfold f_X7_fewest_54 at hf
  refine z_istore (L' := [(5, .int s0), (0, .ref (ad 0)), (1, .int v1), (2, .int v2), (3, .int v3), (4, .int v4)]) F dX7_fewest_54 (Nat.le_of_ble_eq_true rfl) rfl ?_
  refine z_iload F dX7_fewest_56 0 rfl ?_
  refine z_if_eq (tgt := 84) F hf dX7_fewest_58 (by decide) (fun hf => ?_) (fun hf => ?_)
  · exact z_sub [1, 2, 3, 4, 5] rfl (z_X7_fewest_84 F n X hk6 v1 v2 v3 v4 hf)
  · refine z_iload_n F dX7_fewest_61 4 rfl rfl ?_
    refine z_ldc F wm_761 dX7_fewest_62 ?_
    refine z_icmp_eq (tgt := 76) F hf dX7_fewest_64 (by decide) (fun hf => ?_) (fun hf => ?_)
    · exact z_sub [1, 2, 3, 5] rfl (z_X7_fewest_76 F n X hk6 v1 v2 v4 hf)
    · refine z_iload F dX7_fewest_67 5 rfl ?_
      refine k_X7_ones F (by decide) wm_963 (Nat.le_of_ble_eq_true rfl) hf dX7_fewest_69 (fun r_1 hf => ?_)
      refine z_iload_n F dX7_fewest_72 4 rfl rfl ?_
      refine z_icmp_ge (tgt := 84) F hf dX7_fewest_73 (by decide) (fun hf => ?_) (fun hf => ?_)
      · exact z_sub [1, 2, 3, 4, 5] rfl (z_X7_fewest_84 F n X hk6 v1 v2 v3 v4 hf)
      · exact z_sub [1, 2, 3, 5] rfl (z_X7_fewest_76 F n X hk6 v1 v2 v4 hf)
set_option maxHeartbeats 4000000 in
set_option maxRecDepth 100000 in
theorem z_X7_fewest_53 {z : ZC} {D : va_G} {cI cZ : ClassId} {ad : Nat → Nat} {r : Int32} {k6 : Int32 → Int32 → Int32 → Int32 → Option Int32} (F : ZF z (yM D cI cZ ad) cX7_fewest RX7 6 (some .int) 2) (n : Nat) (X : KX) (hk6 : ∀ (v1 : Int32) (v2 : Int32) (v3 : Int32) (v4 : Int32), k6 v1 v2 v3 v4 = some r → Z z (yM D cI cZ ad) 6 (zQI z (yM D cI cZ ad) (r, X)) X 6 [(0, .ref (ad 0)), (1, .int v1), (2, .int v2), (3, .int v3), (4, .int v4)] []) (v1 : Int32) (v2 : Int32) (v3 : Int32) (v4 : Int32) (hf : f_X7_fewest_53 n X k6 v1 v2 v3 v4 = some r) : Z z (yM D cI cZ ad) 6 (zQI z (yM D cI cZ ad) (r, X)) X 53 [(0, .ref (ad 0)), (1, .int v1), (2, .int v2), (3, .int v3), (4, .int v4)] [] := by
  unfold f_X7_fewest_53 at hf
  refine z_iconst (v := 0) F dX7_fewest_53 (by decide +kernel) ?_
  exact z_sub [0, 1, 2, 3, 4] rfl (z_X7_fewest_54 F n X hk6 0 v1 v2 v3 v4 hf)
set_option maxHeartbeats 4000000 in
set_option maxRecDepth 100000 in
theorem z_X7_fewest_6 {z : ZC} {D : va_G} {cI cZ : ClassId} {ad : Nat → Nat} {r : Int32} (F : ZF z (yM D cI cZ ad) cX7_fewest RX7 6 (some .int) 2) (n : Nat) (X : KX) : ∀ (t : Nat) (v1 : Int32) (v2 : Int32) (v3 : Int32) (v4 : Int32), f_X7_fewest_6 n X t v1 v2 v3 v4 = some r → Z z (yM D cI cZ ad) 6 (zQI z (yM D cI cZ ad) (r, X)) X 6 [(0, .ref (ad 0)), (1, .int v1), (2, .int v2), (3, .int v3), (4, .int v4)] [] := by
  intro t
  induction t with
  | zero => intro v1 v2 v3 v4 hf; rw [f_X7_fewest_6] at hf; exact zNone hf
  | succ t ih =>
    intro v1 v2 v3 v4 hf
    rw [f_X7_fewest_6] at hf
    refine z_iload F dX7_fewest_6 4 rfl ?_
    refine z_iload_n F dX7_fewest_8 1 rfl rfl ?_
    refine z_icmp_gt (tgt := 92) F hf dX7_fewest_9 (by decide) (fun hf => ?_) (fun hf => ?_)
    · refine z_iload_n F dX7_fewest_92 3 rfl rfl ?_
      exact z_iret F dX7_fewest_93 (Prod.ext (Option.some.inj hf) rfl)
    · refine z_iload F dX7_fewest_12 4 rfl ?_
      refine z_iload_n F dX7_fewest_14 1 rfl rfl ?_
      refine z_iconst (v := (-1)) F dX7_fewest_15 (by decide +kernel) ?_
      refine z_ixor F dX7_fewest_16 ?_
      refine z_iand F dX7_fewest_17 ?_
      refine z_if_ne (tgt := 53) F hf dX7_fewest_18 (by decide) (fun hf => ?_) (fun hf => ?_)
      · exact z_sub [0, 1, 2, 3, 4] rfl (z_X7_fewest_53 F n X ih v1 v2 v3 v4 hf)
      · refine z_iload F dX7_fewest_21 4 rfl ?_
        refine k_X7_ones F (by decide) wm_963 (Nat.le_of_ble_eq_true rfl) hf dX7_fewest_23 (fun r_1 hf => ?_)
        refine z_iload_n F dX7_fewest_26 2 rfl rfl ?_
        refine z_icmp_gt (tgt := 53) F hf dX7_fewest_27 (by decide) (fun hf => ?_) (fun hf => ?_)
        · exact z_sub [0, 1, 2, 3, 4] rfl (z_X7_fewest_53 F n X ih v1 v2 v3 v4 hf)
        · refine z_aload_n F dX7_fewest_30 0 rfl rfl ?_
          refine gM_0_21 F wm_783 dX7_fewest_31 ?_
          refine z_iload F dX7_fewest_34 4 rfl ?_
          refine lM_12 F hf dX7_fewest_36 (fun hf => ?_)
          refine z_aload_n F dX7_fewest_37 0 rfl rfl ?_
          refine gM_0_13 F wm_775 dX7_fewest_38 ?_
          refine z_iconst (v := 1) F dX7_fewest_41 (by decide +kernel) ?_
          refine lM_6 F hf dX7_fewest_42 (fun hf => ?_)
          refine k_X7_has F (by decide) wm_960 (Nat.le_of_ble_eq_true rfl) dX7_fewest_43 ?_
          refine z_if_eq (tgt := 53) F hf dX7_fewest_46 (by decide) (fun hf => ?_) (fun hf => ?_)
          · exact z_sub [0, 1, 2, 3, 4] rfl (z_X7_fewest_53 F n X ih v1 v2 v3 v4 hf)
          · refine z_iconst (v := 1) F dX7_fewest_49 (by decide +kernel) ?_
            refine z_goto (tgt := 54) F dX7_fewest_50 (by decide) ?_
            exact z_sub [0, 1, 2, 3, 4] rfl (z_X7_fewest_54 F n X ih 1 v1 v2 v3 v4 hf)
set_option maxHeartbeats 4000000 in
set_option maxRecDepth 100000 in
theorem z_X7_fewest {z : ZC} {D : va_G} {cI cZ : ClassId} {ad : Nat → Nat} {r : Int32} (F : ZF z (yM D cI cZ ad) cX7_fewest RX7 6 (some .int) 2) (n : Nat) (X : KX) (a1 : Int32) (a2 : Int32) (hf : f_X7_fewest n X a1 a2 = some r) : Z z (yM D cI cZ ad) 6 (zQI z (yM D cI cZ ad) (r, X)) X 0 [(0, .ref (ad 0)), (1, .int a1), (2, .int a2)] [] := by
  unfold f_X7_fewest at hf
  refine z_ldc F wm_761 dX7_fewest_0 ?_
  refine z_istore_n (L' := [(3, .int (-1000000)), (0, .ref (ad 0)), (1, .int a1), (2, .int a2)]) F dX7_fewest_2 rfl (Nat.le_of_ble_eq_true rfl) rfl ?_
  refine z_iconst (v := 0) F dX7_fewest_3 (by decide +kernel) ?_
  refine z_istore (L' := [(4, .int 0), (3, .int (-1000000)), (0, .ref (ad 0)), (1, .int a1), (2, .int a2)]) F dX7_fewest_4 (Nat.le_of_ble_eq_true rfl) rfl ?_
  exact z_sub [2, 3, 4, 1, 0] rfl (z_X7_fewest_6 F n X n a1 a2 (-1000000) 0 hf)
theorem c_X7_fewest {D : va_G} {cI cZ : ClassId} {ad : Nat → Nat} {r : Int32} (n : Nat) (X : KX) (a1 : Int32) (a2 : Int32) (hf : f_X7_fewest n X a1 a2 = some r) : zMI (yM D cI cZ ad) yX7_fewest cX7_fewest 6 (some .int) 2 [.ref (ad 0), .int a1, .int a2] X (r, X) := zMI_of (by decide +kernel) (Nat.le_of_ble_eq_true rfl) (fun z F => z_sub [0, 1, 2] rfl (z_X7_fewest F n X a1 a2 hf))
theorem k_X7_fewest {z : ZC} {D : va_G} {cI cZ : ClassId} {ad : Nat → Nat} {cc : ByteArray} {own : String} {nL d pc index : Nat} {ret : Option FieldType} {Q : State → Prop} {X : KX} {L : List (Nat × Value)} {rest : List Value} {n : Nat} {a1 a2 : Int32} (F : ZF z (yM D cI cZ ad) cc own nL ret d) (hd : 2 + 1 ≤ d) (hw : Cond.methodLink own index yX7_fewest ∈ wsA) (hst : (rest.map fun v => v.category).sum ≤ 8) {β : Type} {e : Int32 → Option β} {r : β} (hf : zB1 (f_X7_fewest n X a1 a2) e = some r) (hdg : decode cc pc = .ok (.invokevirtual index, 3)) (kk : ∀ v : Int32, e v = some r → Z z (yM D cI cZ ad) nL Q X (pc + 3) L (.int v :: rest)) : Z z (yM D cI cZ ad) nL Q X pc L (.int a2 :: .int a1 :: .ref (ad 0) :: rest) := by
  obtain ⟨v, h1, h2⟩ := zB1_some hf
  exact z_cVI (As := [.int a1, .int a2]) F (c_X7_fewest n X a1 a2 h1) kn_X7_fewest kv_X7_fewest hw (q0 := 0) rfl rfl hd rfl hst hdg rfl (kk v h2)
theorem kv_X7_bestGuest : zKv yX7_bestGuest := ⟨wm_1042, wm_1043⟩
theorem kn_X7_bestGuest : zKn yX7_bestGuest cX7_bestGuest 6 (some .int) 1 := ⟨wm_1044, wm_62, by decide +kernel, by decide⟩
set_option maxHeartbeats 4000000 in
set_option maxRecDepth 100000 in
theorem z_X7_bestGuest_108 {z : ZC} {D : va_G} {cI cZ : ClassId} {ad : Nat → Nat} {R : Int32 × KX} {k31 : KX → Int32 → Int32 → Int32 → Int32 → Option (Int32 × KX)} (F : ZF z (yM D cI cZ ad) cX7_bestGuest RX7 6 (some .int) 4) (n : Nat) (hk31 : ∀ (X : KX) (v1 : Int32) (v2 : Int32) (v3 : Int32) (v4 : Int32), k31 X v1 v2 v3 v4 = some R → Z z (yM D cI cZ ad) 6 (zQI z (yM D cI cZ ad) R) X 31 [(0, .ref (ad 0)), (1, .int v1), (2, .int v2), (3, .int v3), (4, .int v4)] []) (X : KX) (v1 : Int32) (v2 : Int32) (v3 : Int32) (v4 : Int32) (hf : f_X7_bestGuest_108 n k31 X v1 v2 v3 v4 = some R) : Z z (yM D cI cZ ad) 6 (zQI z (yM D cI cZ ad) R) X 108 [(0, .ref (ad 0)), (1, .int v1), (2, .int v2), (3, .int v3), (4, .int v4)] [] := by
  unfold f_X7_bestGuest_108 at hf
  refine z_iinc (w := 1) (L' := fun v4_1 => [(4, .int v4_1), (0, .ref (ad 0)), (1, .int v1), (2, .int v2), (3, .int v3)]) F hf dX7_bestGuest_108 4 rfl (by decide +kernel) (Nat.le_of_ble_eq_true rfl) (fun _ => rfl) (fun v4_1 hf => ?_)
  refine z_goto (tgt := 31) F dX7_bestGuest_111 (by decide) ?_
  exact z_sub [1, 2, 3, 4, 0] rfl (hk31 X v1 v2 v3 v4_1 hf)
set_option maxHeartbeats 4000000 in
set_option maxRecDepth 100000 in
theorem z_X7_bestGuest_102 {z : ZC} {D : va_G} {cI cZ : ClassId} {ad : Nat → Nat} {R : Int32 × KX} {k31 : KX → Int32 → Int32 → Int32 → Int32 → Option (Int32 × KX)} (F : ZF z (yM D cI cZ ad) cX7_bestGuest RX7 6 (some .int) 4) (n : Nat) (hk31 : ∀ (X : KX) (v1 : Int32) (v2 : Int32) (v3 : Int32) (v4 : Int32), k31 X v1 v2 v3 v4 = some R → Z z (yM D cI cZ ad) 6 (zQI z (yM D cI cZ ad) R) X 31 [(0, .ref (ad 0)), (1, .int v1), (2, .int v2), (3, .int v3), (4, .int v4)] []) (X : KX) (v1 : Int32) (v4 : Int32) (v5 : Int32) (hf : f_X7_bestGuest_102 n k31 X v1 v4 v5 = some R) : Z z (yM D cI cZ ad) 6 (zQI z (yM D cI cZ ad) R) X 102 [(0, .ref (ad 0)), (1, .int v1), (4, .int v4), (5, .int v5)] [] := by
  unfold f_X7_bestGuest_102 at hf
  refine z_iload F dX7_bestGuest_102 2 rfl ?_
  refine z_istore_n (L' := [(2, .int v4), (0, .ref (ad 0)), (1, .int v1), (4, .int v4), (5, .int v5)]) F dX7_bestGuest_104 rfl (Nat.le_of_ble_eq_true rfl) rfl ?_
  refine z_iload F dX7_bestGuest_105 4 rfl ?_
  refine z_istore_n (L' := [(3, .int v5), (2, .int v4), (0, .ref (ad 0)), (1, .int v1), (4, .int v4), (5, .int v5)]) F dX7_bestGuest_107 rfl (Nat.le_of_ble_eq_true rfl) rfl ?_
  exact z_sub [2, 3, 1, 0, 4] rfl (z_X7_bestGuest_108 F n hk31 X v1 v4 v5 v4 hf)
set_option maxHeartbeats 4000000 in
set_option maxRecDepth 100000 in
theorem z_X7_bestGuest_31 {z : ZC} {D : va_G} {cI cZ : ClassId} {ad : Nat → Nat} {R : Int32 × KX} (F : ZF z (yM D cI cZ ad) cX7_bestGuest RX7 6 (some .int) 4) (n : Nat) : ∀ (t : Nat) (X : KX) (v1 : Int32) (v2 : Int32) (v3 : Int32) (v4 : Int32), f_X7_bestGuest_31 n t X v1 v2 v3 v4 = some R → Z z (yM D cI cZ ad) 6 (zQI z (yM D cI cZ ad) R) X 31 [(0, .ref (ad 0)), (1, .int v1), (2, .int v2), (3, .int v3), (4, .int v4)] [] := by
  intro t
  induction t with
  | zero => intro X v1 v2 v3 v4 hf; rw [f_X7_bestGuest_31] at hf; exact zNone hf
  | succ t ih =>
    intro X v1 v2 v3 v4 hf
    rw [f_X7_bestGuest_31] at hf
    refine z_iload F dX7_bestGuest_31 4 rfl ?_
    refine z_aload_n F dX7_bestGuest_33 0 rfl rfl ?_
    refine gM_0_13 F wm_775 dX7_bestGuest_34 ?_
    refine z_bipush (v := 8) F dX7_bestGuest_37 (by decide +kernel) ?_
    refine lM_6 F hf dX7_bestGuest_39 (fun hf => ?_)
    refine z_icmp_ge (tgt := 114) F hf dX7_bestGuest_40 (by decide) (fun hf => ?_) (fun hf => ?_)
    · refine z_iload_n F dX7_bestGuest_114 1 rfl rfl ?_
      refine z_if_ne (tgt := 122) F hf dX7_bestGuest_115 (by decide) (fun hf => ?_) (fun hf => ?_)
      · refine z_iload_n F dX7_bestGuest_122 3 rfl rfl ?_
        exact z_iret F dX7_bestGuest_123 (Option.some.inj hf)
      · refine z_iload_n F dX7_bestGuest_118 2 rfl rfl ?_
        refine z_goto (tgt := 123) F dX7_bestGuest_119 (by decide) ?_
        exact z_iret F dX7_bestGuest_123 (Option.some.inj hf)
    · refine z_aload_n F dX7_bestGuest_43 0 rfl rfl ?_
      refine z_iload F dX7_bestGuest_44 4 rfl ?_
      refine k_X7_isToCome F (by decide) wm_939 (Nat.le_of_ble_eq_true rfl) hf dX7_bestGuest_46 (fun r_1 hf => ?_)
      refine z_if_eq (tgt := 108) F hf dX7_bestGuest_49 (by decide) (fun hf => ?_) (fun hf => ?_)
      · exact z_sub [0, 1, 2, 3, 4] rfl (z_X7_bestGuest_108 F n ih X v1 v2 v3 v4 hf)
      · refine z_aload_n F dX7_bestGuest_52 0 rfl rfl ?_
        refine z_iload F dX7_bestGuest_53 4 rfl ?_
        refine k_X7_dares F (by decide) wm_978 (Nat.le_of_ble_eq_true rfl) hf dX7_bestGuest_55 (fun r_2 hf => ?_)
        refine z_if_eq (tgt := 108) F hf dX7_bestGuest_58 (by decide) (fun hf => ?_) (fun hf => ?_)
        · exact z_sub [0, 1, 2, 3, 4] rfl (z_X7_bestGuest_108 F n ih X v1 v2 v3 v4 hf)
        · refine z_aload_n F dX7_bestGuest_61 0 rfl rfl ?_
          refine z_iload F dX7_bestGuest_62 4 rfl ?_
          refine k_X7_thinks F (by decide) wm_1029 (Nat.le_of_ble_eq_true rfl) hf dX7_bestGuest_64 (fun X_3 hf => ?_)
          refine z_aload_n F dX7_bestGuest_67 0 rfl rfl ?_
          refine z_aload_n F dX7_bestGuest_68 0 rfl rfl ?_
          refine k_X7_allHints F (by decide) wm_1014 (Nat.le_of_ble_eq_true rfl) hf dX7_bestGuest_69 (fun r_4 hf => ?_)
          refine z_aload_n F dX7_bestGuest_72 0 rfl rfl ?_
          refine gM_0_13 F wm_775 dX7_bestGuest_73 ?_
          refine z_iconst (v := 0) F dX7_bestGuest_76 (by decide +kernel) ?_
          refine lM_6 F hf dX7_bestGuest_77 (fun hf => ?_)
          refine k_X7_fewest F (by decide) wm_1049 (Nat.le_of_ble_eq_true rfl) hf dX7_bestGuest_78 (fun r_5 hf => ?_)
          refine z_istore (L' := [(5, .int r_5), (0, .ref (ad 0)), (1, .int v1), (2, .int v2), (3, .int v3), (4, .int v4)]) F dX7_bestGuest_81 (Nat.le_of_ble_eq_true rfl) rfl ?_
          refine z_iload F dX7_bestGuest_83 0 rfl ?_
          refine z_ldc F wm_761 dX7_bestGuest_85 ?_
          refine z_icmp_eq (tgt := 108) F hf dX7_bestGuest_87 (by decide) (fun hf => ?_) (fun hf => ?_)
          · exact z_sub [1, 2, 3, 4, 5] rfl (z_X7_bestGuest_108 F n ih X_3 v1 v2 v3 v4 hf)
          · refine z_iload_n F dX7_bestGuest_90 4 rfl rfl ?_
            refine z_ldc F wm_761 dX7_bestGuest_91 ?_
            refine z_icmp_eq (tgt := 102) F hf dX7_bestGuest_93 (by decide) (fun hf => ?_) (fun hf => ?_)
            · exact z_sub [1, 2, 5, 0] rfl (z_X7_bestGuest_102 F n ih X_3 v1 v4 r_5 hf)
            · refine z_iload F dX7_bestGuest_96 0 rfl ?_
              refine z_iload_n F dX7_bestGuest_98 4 rfl rfl ?_
              refine z_icmp_ge (tgt := 108) F hf dX7_bestGuest_99 (by decide) (fun hf => ?_) (fun hf => ?_)
              · exact z_sub [1, 2, 3, 4, 5] rfl (z_X7_bestGuest_108 F n ih X_3 v1 v2 v3 v4 hf)
              · exact z_sub [1, 2, 5, 0] rfl (z_X7_bestGuest_102 F n ih X_3 v1 v4 r_5 hf)
set_option maxHeartbeats 4000000 in
set_option maxRecDepth 100000 in
theorem z_X7_bestGuest {z : ZC} {D : va_G} {cI cZ : ClassId} {ad : Nat → Nat} {R : Int32 × KX} (F : ZF z (yM D cI cZ ad) cX7_bestGuest RX7 6 (some .int) 4) (n : Nat) (X : KX) (a1 : Int32) (hf : f_X7_bestGuest n X a1 = some R) : Z z (yM D cI cZ ad) 6 (zQI z (yM D cI cZ ad) R) X 0 [(0, .ref (ad 0)), (1, .int a1)] [] := by
  unfold f_X7_bestGuest at hf
  refine z_aload_n F dX7_bestGuest_0 0 rfl rfl ?_
  refine k_X7_isCastle F (by decide) wm_1045 (Nat.le_of_ble_eq_true rfl) hf dX7_bestGuest_1 (fun r_1 hf => ?_)
  refine z_if_ne (tgt := 10) F hf dX7_bestGuest_4 (by decide) (fun hf => ?_) (fun hf => ?_)
  · refine z_iload_n F dX7_bestGuest_10 1 rfl rfl ?_
    refine z_iconst (v := 0) F dX7_bestGuest_11 (by decide +kernel) ?_
    refine z_iconst (v := 1) F dX7_bestGuest_12 (by decide +kernel) ?_
    refine k_X7_in F (by decide) wm_843 (Nat.le_of_ble_eq_true rfl) dX7_bestGuest_13 ?_
    refine z_if_ne (tgt := 22) F hf dX7_bestGuest_16 (by decide) (fun hf => ?_) (fun hf => ?_)
    · refine z_ldc F wm_761 dX7_bestGuest_22 ?_
      refine z_istore_n (L' := [(2, .int (-1000000)), (0, .ref (ad 0)), (1, .int a1)]) F dX7_bestGuest_24 rfl (Nat.le_of_ble_eq_true rfl) rfl ?_
      refine z_ldc F wm_761 dX7_bestGuest_25 ?_
      refine z_istore_n (L' := [(3, .int (-1000000)), (2, .int (-1000000)), (0, .ref (ad 0)), (1, .int a1)]) F dX7_bestGuest_27 rfl (Nat.le_of_ble_eq_true rfl) rfl ?_
      refine z_iconst (v := 0) F dX7_bestGuest_28 (by decide +kernel) ?_
      refine z_istore (L' := [(4, .int 0), (3, .int (-1000000)), (2, .int (-1000000)), (0, .ref (ad 0)), (1, .int a1)]) F dX7_bestGuest_29 (Nat.le_of_ble_eq_true rfl) rfl ?_
      exact z_sub [3, 4, 2, 1, 0] rfl (z_X7_bestGuest_31 F n n X a1 (-1000000) (-1000000) 0 hf)
    · refine z_ldc F wm_846 dX7_bestGuest_19 ?_
      exact z_iret F dX7_bestGuest_21 (Option.some.inj hf)
  · refine z_ldc F wm_947 dX7_bestGuest_7 ?_
    exact z_iret F dX7_bestGuest_9 (Option.some.inj hf)
theorem c_X7_bestGuest {D : va_G} {cI cZ : ClassId} {ad : Nat → Nat} {R : Int32 × KX} (n : Nat) (X : KX) (a1 : Int32) (hf : f_X7_bestGuest n X a1 = some R) : zMI (yM D cI cZ ad) yX7_bestGuest cX7_bestGuest 6 (some .int) 4 [.ref (ad 0), .int a1] X R := zMI_of (by decide +kernel) (Nat.le_of_ble_eq_true rfl) (fun z F => z_sub [0, 1] rfl (z_X7_bestGuest F n X a1 hf))
theorem k_X7_bestGuest {z : ZC} {D : va_G} {cI cZ : ClassId} {ad : Nat → Nat} {cc : ByteArray} {own : String} {nL d pc index : Nat} {ret : Option FieldType} {Q : State → Prop} {X : KX} {L : List (Nat × Value)} {rest : List Value} {n : Nat} {a1 : Int32} (F : ZF z (yM D cI cZ ad) cc own nL ret d) (hd : 4 + 1 ≤ d) (hw : Cond.methodLink own index yX7_bestGuest ∈ wsA) (hst : (rest.map fun v => v.category).sum ≤ 8) {β : Type} {e : Int32 → KX → Option β} {r : β} (hf : zB2 (f_X7_bestGuest n X a1) e = some r) (hdg : decode cc pc = .ok (.invokevirtual index, 3)) (kk : ∀ (v : Int32) (X2 : KX), e v X2 = some r → Z z (yM D cI cZ ad) nL Q X2 (pc + 3) L (.int v :: rest)) : Z z (yM D cI cZ ad) nL Q X pc L (.int a1 :: .ref (ad 0) :: rest) := by
  obtain ⟨v, X2, h1, h2⟩ := zB2_some hf
  exact z_cVI (As := [.int a1]) F (c_X7_bestGuest n X a1 h1) kn_X7_bestGuest kv_X7_bestGuest hw (q0 := 0) rfl rfl hd rfl hst hdg rfl (kk v X2 h2)
theorem kv_X7_laysRoutes : zKv yX7_laysRoutes := ⟨wm_1059, wm_45⟩
theorem kn_X7_laysRoutes : zKn yX7_laysRoutes cX7_laysRoutes 3 none 0 := ⟨wm_1060, wm_62, by decide +kernel, by decide⟩
set_option maxHeartbeats 4000000 in
set_option maxRecDepth 100000 in
theorem z_X7_laysRoutes_97 {z : ZC} {D : va_G} {cI cZ : ClassId} {ad : Nat → Nat} {R : KX} {k25 : KX → Int32 → Option KX} (F : ZF z (yM D cI cZ ad) cX7_laysRoutes RX7 3 none 4) (n : Nat) (hk25 : ∀ (X : KX) (v1 : Int32), k25 X v1 = some R → Z z (yM D cI cZ ad) 3 (zQV z (yM D cI cZ ad) R) X 25 [(0, .ref (ad 0)), (1, .int v1)] []) (X : KX) (v1 : Int32) (hf : f_X7_laysRoutes_97 n k25 X v1 = some R) : Z z (yM D cI cZ ad) 3 (zQV z (yM D cI cZ ad) R) X 97 [(0, .ref (ad 0)), (1, .int v1)] [] := by
  unfold f_X7_laysRoutes_97 at hf
  refine z_iinc (w := 1) (L' := fun v1_1 => [(1, .int v1_1), (0, .ref (ad 0))]) F hf dX7_laysRoutes_97 1 rfl (by decide +kernel) (Nat.le_of_ble_eq_true rfl) (fun _ => rfl) (fun v1_1 hf => ?_)
  refine z_goto (tgt := 25) F dX7_laysRoutes_100 (by decide) ?_
  exact z_sub [1, 0] rfl (hk25 X v1_1 hf)
set_option maxHeartbeats 4000000 in
set_option maxRecDepth 100000 in
theorem z_X7_laysRoutes_89 {z : ZC} {D : va_G} {cI cZ : ClassId} {ad : Nat → Nat} {R : KX} {k25 : KX → Int32 → Option KX} {k51 : KX → Int32 → Int32 → Option KX} (F : ZF z (yM D cI cZ ad) cX7_laysRoutes RX7 3 none 4) (n : Nat) (hk25 : ∀ (X : KX) (v1 : Int32), k25 X v1 = some R → Z z (yM D cI cZ ad) 3 (zQV z (yM D cI cZ ad) R) X 25 [(0, .ref (ad 0)), (1, .int v1)] []) (hk51 : ∀ (X : KX) (v1 : Int32) (v2 : Int32), k51 X v1 v2 = some R → Z z (yM D cI cZ ad) 3 (zQV z (yM D cI cZ ad) R) X 51 [(0, .ref (ad 0)), (1, .int v1), (2, .int v2)] []) (X : KX) (s0 : Int32) (s1 : Int32) (s2 : Int32) (v1 : Int32) (v2 : Int32) (hf : f_X7_laysRoutes_89 n k25 k51 X s0 s1 s2 v1 v2 = some R) : Z z (yM D cI cZ ad) 3 (zQV z (yM D cI cZ ad) R) X 89 [(0, .ref (ad 0)), (1, .int v1), (2, .int v2)] [.int s0, .int s1, .int s2, .ref (ad 13)] := by
  unfold f_X7_laysRoutes_89 at hf
  refine z_ior F dX7_laysRoutes_89 ?_
  refine sM_13 F hf dX7_laysRoutes_90 (fun X_1 hf => ?_)
  refine z_iinc (w := 1) (L' := fun v2_2 => [(2, .int v2_2), (0, .ref (ad 0)), (1, .int v1)]) F hf dX7_laysRoutes_91 2 rfl (by decide +kernel) (Nat.le_of_ble_eq_true rfl) (fun _ => rfl) (fun v2_2 hf => ?_)
  refine z_goto (tgt := 51) F dX7_laysRoutes_94 (by decide) ?_
  exact z_sub [1, 2, 0] rfl (hk51 X_1 v1 v2_2 hf)
set_option maxHeartbeats 4000000 in
set_option maxRecDepth 100000 in
theorem z_X7_laysRoutes_51 {z : ZC} {D : va_G} {cI cZ : ClassId} {ad : Nat → Nat} {R : KX} {k25 : KX → Int32 → Option KX} (F : ZF z (yM D cI cZ ad) cX7_laysRoutes RX7 3 none 4) (n : Nat) (hk25 : ∀ (X : KX) (v1 : Int32), k25 X v1 = some R → Z z (yM D cI cZ ad) 3 (zQV z (yM D cI cZ ad) R) X 25 [(0, .ref (ad 0)), (1, .int v1)] []) : ∀ (t : Nat) (X : KX) (v1 : Int32) (v2 : Int32), f_X7_laysRoutes_51 n k25 t X v1 v2 = some R → Z z (yM D cI cZ ad) 3 (zQV z (yM D cI cZ ad) R) X 51 [(0, .ref (ad 0)), (1, .int v1), (2, .int v2)] [] := by
  intro t
  induction t with
  | zero => intro X v1 v2 hf; rw [f_X7_laysRoutes_51] at hf; exact zNone hf
  | succ t ih =>
    intro X v1 v2 hf
    rw [f_X7_laysRoutes_51] at hf
    refine z_iload_n F dX7_laysRoutes_51 2 rfl rfl ?_
    refine z_aload_n F dX7_laysRoutes_52 0 rfl rfl ?_
    refine k_X7_allHints F (by decide) wm_1014 (Nat.le_of_ble_eq_true rfl) hf dX7_laysRoutes_53 (fun r_1 hf => ?_)
    refine z_icmp_gt (tgt := 97) F hf dX7_laysRoutes_56 (by decide) (fun hf => ?_) (fun hf => ?_)
    · exact z_sub [0, 1] rfl (z_X7_laysRoutes_97 F n hk25 X v1 hf)
    · refine z_aload_n F dX7_laysRoutes_59 0 rfl rfl ?_
      refine gM_0_22 F wm_784 dX7_laysRoutes_60 ?_
      refine z_iload_n F dX7_laysRoutes_63 2 rfl rfl ?_
      refine z_dup2 F dX7_laysRoutes_64 rfl rfl ?_
      refine lM_13 F hf dX7_laysRoutes_65 (fun hf => ?_)
      refine z_aload_n F dX7_laysRoutes_66 0 rfl rfl ?_
      refine z_iload_n F dX7_laysRoutes_67 2 rfl rfl ?_
      refine z_aload_n F dX7_laysRoutes_68 0 rfl rfl ?_
      refine gM_0_13 F wm_775 dX7_laysRoutes_69 ?_
      refine z_iconst (v := 0) F dX7_laysRoutes_72 (by decide +kernel) ?_
      refine lM_6 F hf dX7_laysRoutes_73 (fun hf => ?_)
      refine k_X7_fewest F (by decide) wm_1049 (Nat.le_of_ble_eq_true rfl) hf dX7_laysRoutes_74 (fun r_2 hf => ?_)
      refine z_ldc F wm_761 dX7_laysRoutes_77 ?_
      refine z_icmp_ne (tgt := 86) F hf dX7_laysRoutes_79 (by decide) (fun hf => ?_) (fun hf => ?_)
      · refine z_iconst (v := 1) F dX7_laysRoutes_86 (by decide +kernel) ?_
        refine z_iload_n F dX7_laysRoutes_87 1 rfl rfl ?_
        refine z_ishl F dX7_laysRoutes_88 ?_
        exact z_sub [0, 1, 2] rfl (z_X7_laysRoutes_89 F n hk25 ih X (zShl 1 v1) (X 13 v2.toNatClampNeg) v2 v1 v2 hf)
      · refine z_iconst (v := 0) F dX7_laysRoutes_82 (by decide +kernel) ?_
        refine z_goto (tgt := 89) F dX7_laysRoutes_83 (by decide) ?_
        exact z_sub [0, 1, 2] rfl (z_X7_laysRoutes_89 F n hk25 ih X 0 (X 13 v2.toNatClampNeg) v2 v1 v2 hf)
set_option maxHeartbeats 4000000 in
set_option maxRecDepth 100000 in
theorem z_X7_laysRoutes_25 {z : ZC} {D : va_G} {cI cZ : ClassId} {ad : Nat → Nat} {R : KX} (F : ZF z (yM D cI cZ ad) cX7_laysRoutes RX7 3 none 4) (n : Nat) : ∀ (t : Nat) (X : KX) (v1 : Int32), f_X7_laysRoutes_25 n t X v1 = some R → Z z (yM D cI cZ ad) 3 (zQV z (yM D cI cZ ad) R) X 25 [(0, .ref (ad 0)), (1, .int v1)] [] := by
  intro t
  induction t with
  | zero => intro X v1 hf; rw [f_X7_laysRoutes_25] at hf; exact zNone hf
  | succ t ih =>
    intro X v1 hf
    rw [f_X7_laysRoutes_25] at hf
    refine z_iload_n F dX7_laysRoutes_25 1 rfl rfl ?_
    refine z_aload_n F dX7_laysRoutes_26 0 rfl rfl ?_
    refine gM_0_13 F wm_775 dX7_laysRoutes_27 ?_
    refine z_bipush (v := 8) F dX7_laysRoutes_30 (by decide +kernel) ?_
    refine lM_6 F hf dX7_laysRoutes_32 (fun hf => ?_)
    refine z_icmp_ge (tgt := 103) F hf dX7_laysRoutes_33 (by decide) (fun hf => ?_) (fun hf => ?_)
    · exact z_vret F dX7_laysRoutes_103 (Option.some.inj hf)
    · refine z_aload_n F dX7_laysRoutes_36 0 rfl rfl ?_
      refine z_iload_n F dX7_laysRoutes_37 1 rfl rfl ?_
      refine k_X7_isToCome F (by decide) wm_939 (Nat.le_of_ble_eq_true rfl) hf dX7_laysRoutes_38 (fun r_1 hf => ?_)
      refine z_if_eq (tgt := 97) F hf dX7_laysRoutes_41 (by decide) (fun hf => ?_) (fun hf => ?_)
      · exact z_sub [0, 1] rfl (z_X7_laysRoutes_97 F n ih X v1 hf)
      · refine z_aload_n F dX7_laysRoutes_44 0 rfl rfl ?_
        refine z_iload_n F dX7_laysRoutes_45 1 rfl rfl ?_
        refine k_X7_thinks F (by decide) wm_1029 (Nat.le_of_ble_eq_true rfl) hf dX7_laysRoutes_46 (fun X_2 hf => ?_)
        refine z_iconst (v := 0) F dX7_laysRoutes_49 (by decide +kernel) ?_
        refine z_istore_n (L' := [(2, .int 0), (0, .ref (ad 0)), (1, .int v1)]) F dX7_laysRoutes_50 rfl (Nat.le_of_ble_eq_true rfl) rfl ?_
        exact z_sub [1, 2, 0] rfl (z_X7_laysRoutes_51 F n ih n X_2 v1 0 hf)
set_option maxHeartbeats 4000000 in
set_option maxRecDepth 100000 in
theorem z_X7_laysRoutes_2 {z : ZC} {D : va_G} {cI cZ : ClassId} {ad : Nat → Nat} {R : KX} (F : ZF z (yM D cI cZ ad) cX7_laysRoutes RX7 3 none 4) (n : Nat) : ∀ (t : Nat) (X : KX) (v1 : Int32), f_X7_laysRoutes_2 n t X v1 = some R → Z z (yM D cI cZ ad) 3 (zQV z (yM D cI cZ ad) R) X 2 [(0, .ref (ad 0)), (1, .int v1)] [] := by
  intro t
  induction t with
  | zero => intro X v1 hf; rw [f_X7_laysRoutes_2] at hf; exact zNone hf
  | succ t ih =>
    intro X v1 hf
    rw [f_X7_laysRoutes_2] at hf
    refine z_iload_n F dX7_laysRoutes_2 1 rfl rfl ?_
    refine z_aload_n F dX7_laysRoutes_3 0 rfl rfl ?_
    refine k_X7_allHints F (by decide) wm_1014 (Nat.le_of_ble_eq_true rfl) hf dX7_laysRoutes_4 (fun r_1 hf => ?_)
    refine z_icmp_gt (tgt := 23) F hf dX7_laysRoutes_7 (by decide) (fun hf => ?_) (fun hf => ?_)
    · refine z_iconst (v := 0) F dX7_laysRoutes_23 (by decide +kernel) ?_
      refine z_istore_n (L' := [(1, .int 0), (0, .ref (ad 0))]) F dX7_laysRoutes_24 rfl (Nat.le_of_ble_eq_true rfl) rfl ?_
      exact z_sub [1, 0] rfl (z_X7_laysRoutes_25 F n n X 0 hf)
    · refine z_aload_n F dX7_laysRoutes_10 0 rfl rfl ?_
      refine gM_0_22 F wm_784 dX7_laysRoutes_11 ?_
      refine z_iload_n F dX7_laysRoutes_14 1 rfl rfl ?_
      refine z_iconst (v := 0) F dX7_laysRoutes_15 (by decide +kernel) ?_
      refine sM_13 F hf dX7_laysRoutes_16 (fun X_2 hf => ?_)
      refine z_iinc (w := 1) (L' := fun v1_3 => [(1, .int v1_3), (0, .ref (ad 0))]) F hf dX7_laysRoutes_17 1 rfl (by decide +kernel) (Nat.le_of_ble_eq_true rfl) (fun _ => rfl) (fun v1_3 hf => ?_)
      refine z_goto (tgt := 2) F dX7_laysRoutes_20 (by decide) ?_
      exact z_sub [1, 0] rfl (ih X_2 v1_3 hf)
set_option maxHeartbeats 4000000 in
set_option maxRecDepth 100000 in
theorem z_X7_laysRoutes {z : ZC} {D : va_G} {cI cZ : ClassId} {ad : Nat → Nat} {R : KX} (F : ZF z (yM D cI cZ ad) cX7_laysRoutes RX7 3 none 4) (n : Nat) (X : KX)  (hf : f_X7_laysRoutes n X = some R) : Z z (yM D cI cZ ad) 3 (zQV z (yM D cI cZ ad) R) X 0 [(0, .ref (ad 0))] [] := by
  unfold f_X7_laysRoutes at hf
  refine z_iconst (v := 0) F dX7_laysRoutes_0 (by decide +kernel) ?_
  refine z_istore_n (L' := [(1, .int 0), (0, .ref (ad 0))]) F dX7_laysRoutes_1 rfl (Nat.le_of_ble_eq_true rfl) rfl ?_
  exact z_sub [1, 0] rfl (z_X7_laysRoutes_2 F n n X 0 hf)
theorem c_X7_laysRoutes {D : va_G} {cI cZ : ClassId} {ad : Nat → Nat} {R : KX} (n : Nat) (X : KX)  (hf : f_X7_laysRoutes n X = some R) : zMV (yM D cI cZ ad) yX7_laysRoutes cX7_laysRoutes 3 none 4 [.ref (ad 0)] X R := zMV_of (by decide +kernel) (Nat.le_of_ble_eq_true rfl) (fun z F => z_sub [0] rfl (z_X7_laysRoutes F n X hf))
theorem k_X7_laysRoutes {z : ZC} {D : va_G} {cI cZ : ClassId} {ad : Nat → Nat} {cc : ByteArray} {own : String} {nL d pc index : Nat} {ret : Option FieldType} {Q : State → Prop} {X : KX} {L : List (Nat × Value)} {rest : List Value} {n : Nat} (F : ZF z (yM D cI cZ ad) cc own nL ret d) (hd : 4 + 1 ≤ d) (hw : Cond.methodLink own index yX7_laysRoutes ∈ wsA) (hst : (rest.map fun v => v.category).sum ≤ 8) {β : Type} {e : KX → Option β} {r : β} (hf : zB1 (f_X7_laysRoutes n X) e = some r) (hdg : decode cc pc = .ok (.invokevirtual index, 3)) (kk : ∀ X2 : KX, e X2 = some r → Z z (yM D cI cZ ad) nL Q X2 (pc + 3) L rest) : Z z (yM D cI cZ ad) nL Q X pc L (.ref (ad 0) :: rest) := by
  obtain ⟨v, h1, h2⟩ := zB1_some hf
  exact z_cVV (As := []) F (c_X7_laysRoutes n X h1) kn_X7_laysRoutes kv_X7_laysRoutes hw (q0 := 0) rfl rfl hd rfl hst hdg rfl (kk v h2)
theorem kv_X7_allToCome : zKv yX7_allToCome := ⟨wm_1063, wm_46⟩
theorem kn_X7_allToCome : zKn yX7_allToCome cX7_allToCome 3 (some .int) 0 := ⟨wm_1064, wm_62, by decide +kernel, by decide⟩
set_option maxHeartbeats 4000000 in
set_option maxRecDepth 100000 in
theorem z_X7_allToCome_31 {z : ZC} {D : va_G} {cI cZ : ClassId} {ad : Nat → Nat} {r : Int32} {k4 : Int32 → Int32 → Option Int32} (F : ZF z (yM D cI cZ ad) cX7_allToCome RX7 3 (some .int) 3) (n : Nat) (X : KX) (hk4 : ∀ (v1 : Int32) (v2 : Int32), k4 v1 v2 = some r → Z z (yM D cI cZ ad) 3 (zQI z (yM D cI cZ ad) (r, X)) X 4 [(0, .ref (ad 0)), (1, .int v1), (2, .int v2)] []) (s0 : Int32) (s1 : Int32) (v2 : Int32) (hf : f_X7_allToCome_31 n X k4 s0 s1 v2 = some r) : Z z (yM D cI cZ ad) 3 (zQI z (yM D cI cZ ad) (r, X)) X 31 [(0, .ref (ad 0)), (2, .int v2)] [.int s0, .int s1] := by
  unfold f_X7_allToCome_31 at hf
  refine z_ior F dX7_allToCome_31 ?_
  refine z_top hf (fun v1_1 hf => ?_)
  refine z_istore_n (L' := [(1, .int v1_1), (0, .ref (ad 0)), (2, .int v2)]) F dX7_allToCome_32 rfl (Nat.le_of_ble_eq_true rfl) rfl ?_
  refine z_iinc (w := 1) (L' := fun v2_2 => [(2, .int v2_2), (1, .int v1_1), (0, .ref (ad 0))]) F hf dX7_allToCome_33 2 rfl (by decide +kernel) (Nat.le_of_ble_eq_true rfl) (fun _ => rfl) (fun v2_2 hf => ?_)
  refine z_goto (tgt := 4) F dX7_allToCome_36 (by decide) ?_
  exact z_sub [2, 1, 0] rfl (hk4 v1_1 v2_2 hf)
set_option maxHeartbeats 4000000 in
set_option maxRecDepth 100000 in
theorem z_X7_allToCome_4 {z : ZC} {D : va_G} {cI cZ : ClassId} {ad : Nat → Nat} {r : Int32} (F : ZF z (yM D cI cZ ad) cX7_allToCome RX7 3 (some .int) 3) (n : Nat) (X : KX) : ∀ (t : Nat) (v1 : Int32) (v2 : Int32), f_X7_allToCome_4 n X t v1 v2 = some r → Z z (yM D cI cZ ad) 3 (zQI z (yM D cI cZ ad) (r, X)) X 4 [(0, .ref (ad 0)), (1, .int v1), (2, .int v2)] [] := by
  intro t
  induction t with
  | zero => intro v1 v2 hf; rw [f_X7_allToCome_4] at hf; exact zNone hf
  | succ t ih =>
    intro v1 v2 hf
    rw [f_X7_allToCome_4] at hf
    refine z_iload_n F dX7_allToCome_4 2 rfl rfl ?_
    refine z_aload_n F dX7_allToCome_5 0 rfl rfl ?_
    refine gM_0_13 F wm_775 dX7_allToCome_6 ?_
    refine z_bipush (v := 8) F dX7_allToCome_9 (by decide +kernel) ?_
    refine lM_6 F hf dX7_allToCome_11 (fun hf => ?_)
    refine z_icmp_ge (tgt := 39) F hf dX7_allToCome_12 (by decide) (fun hf => ?_) (fun hf => ?_)
    · refine z_iload_n F dX7_allToCome_39 1 rfl rfl ?_
      exact z_iret F dX7_allToCome_40 (Prod.ext (Option.some.inj hf) rfl)
    · refine z_iload_n F dX7_allToCome_15 1 rfl rfl ?_
      refine z_aload_n F dX7_allToCome_16 0 rfl rfl ?_
      refine z_iload_n F dX7_allToCome_17 2 rfl rfl ?_
      refine k_X7_isToCome F (by decide) wm_939 (Nat.le_of_ble_eq_true rfl) hf dX7_allToCome_18 (fun r_1 hf => ?_)
      refine z_if_eq (tgt := 30) F hf dX7_allToCome_21 (by decide) (fun hf => ?_) (fun hf => ?_)
      · refine z_iconst (v := 0) F dX7_allToCome_30 (by decide +kernel) ?_
        exact z_sub [0, 2] rfl (z_X7_allToCome_31 F n X ih 0 v1 v2 hf)
      · refine z_iconst (v := 1) F dX7_allToCome_24 (by decide +kernel) ?_
        refine z_iload_n F dX7_allToCome_25 2 rfl rfl ?_
        refine z_ishl F dX7_allToCome_26 ?_
        refine z_goto (tgt := 31) F dX7_allToCome_27 (by decide) ?_
        exact z_sub [0, 2] rfl (z_X7_allToCome_31 F n X ih (zShl 1 v2) v1 v2 hf)
set_option maxHeartbeats 4000000 in
set_option maxRecDepth 100000 in
theorem z_X7_allToCome {z : ZC} {D : va_G} {cI cZ : ClassId} {ad : Nat → Nat} {r : Int32} (F : ZF z (yM D cI cZ ad) cX7_allToCome RX7 3 (some .int) 3) (n : Nat) (X : KX)  (hf : f_X7_allToCome n X = some r) : Z z (yM D cI cZ ad) 3 (zQI z (yM D cI cZ ad) (r, X)) X 0 [(0, .ref (ad 0))] [] := by
  unfold f_X7_allToCome at hf
  refine z_iconst (v := 0) F dX7_allToCome_0 (by decide +kernel) ?_
  refine z_istore_n (L' := [(1, .int 0), (0, .ref (ad 0))]) F dX7_allToCome_1 rfl (Nat.le_of_ble_eq_true rfl) rfl ?_
  refine z_iconst (v := 0) F dX7_allToCome_2 (by decide +kernel) ?_
  refine z_istore_n (L' := [(2, .int 0), (1, .int 0), (0, .ref (ad 0))]) F dX7_allToCome_3 rfl (Nat.le_of_ble_eq_true rfl) rfl ?_
  exact z_sub [2, 1, 0] rfl (z_X7_allToCome_4 F n X n 0 0 hf)
theorem c_X7_allToCome {D : va_G} {cI cZ : ClassId} {ad : Nat → Nat} {r : Int32} (n : Nat) (X : KX)  (hf : f_X7_allToCome n X = some r) : zMI (yM D cI cZ ad) yX7_allToCome cX7_allToCome 3 (some .int) 3 [.ref (ad 0)] X (r, X) := zMI_of (by decide +kernel) (Nat.le_of_ble_eq_true rfl) (fun z F => z_sub [0] rfl (z_X7_allToCome F n X hf))
theorem k_X7_allToCome {z : ZC} {D : va_G} {cI cZ : ClassId} {ad : Nat → Nat} {cc : ByteArray} {own : String} {nL d pc index : Nat} {ret : Option FieldType} {Q : State → Prop} {X : KX} {L : List (Nat × Value)} {rest : List Value} {n : Nat} (F : ZF z (yM D cI cZ ad) cc own nL ret d) (hd : 3 + 1 ≤ d) (hw : Cond.methodLink own index yX7_allToCome ∈ wsA) (hst : (rest.map fun v => v.category).sum ≤ 8) {β : Type} {e : Int32 → Option β} {r : β} (hf : zB1 (f_X7_allToCome n X) e = some r) (hdg : decode cc pc = .ok (.invokevirtual index, 3)) (kk : ∀ v : Int32, e v = some r → Z z (yM D cI cZ ad) nL Q X (pc + 3) L (.int v :: rest)) : Z z (yM D cI cZ ad) nL Q X pc L (.ref (ad 0) :: rest) := by
  obtain ⟨v, h1, h2⟩ := zB1_some hf
  exact z_cVI (As := []) F (c_X7_allToCome n X h1) kn_X7_allToCome kv_X7_allToCome hw (q0 := 0) rfl rfl hd rfl hst hdg rfl (kk v h2)
theorem kv_X7_cover : zKv yX7_cover := ⟨wm_1054, wm_1055⟩
theorem kn_X7_cover : zKn yX7_cover cX7_cover 5 (some .int) 1 := ⟨wm_1056, wm_62, by decide +kernel, by decide⟩
set_option maxHeartbeats 4000000 in
set_option maxRecDepth 100000 in
theorem z_X7_cover_104 {z : ZC} {D : va_G} {cI cZ : ClassId} {ad : Nat → Nat} {R : Int32 × KX} (F : ZF z (yM D cI cZ ad) cX7_cover RX7 5 (some .int) 5) (n : Nat) (X : KX) (v2 : Int32) (hf : f_X7_cover_104 n X v2 = some R) : Z z (yM D cI cZ ad) 5 (zQI z (yM D cI cZ ad) R) X 104 [(2, .int v2)] [] := by
  unfold f_X7_cover_104 at hf
  refine z_iload_n F dX7_cover_104 0 rfl rfl ?_
  refine z_goto (tgt := 112) F dX7_cover_105 (by decide) ?_
  exact z_iret F dX7_cover_112 (Option.some.inj hf)
set_option maxHeartbeats 4000000 in
set_option maxRecDepth 100000 in
theorem z_X7_cover_86 {z : ZC} {D : va_G} {cI cZ : ClassId} {ad : Nat → Nat} {R : Int32 × KX} {k31 : KX → Int32 → Int32 → Int32 → Option (Int32 × KX)} (F : ZF z (yM D cI cZ ad) cX7_cover RX7 5 (some .int) 5) (n : Nat) (hk31 : ∀ (X : KX) (v1 : Int32) (v2 : Int32) (v3 : Int32), k31 X v1 v2 v3 = some R → Z z (yM D cI cZ ad) 5 (zQI z (yM D cI cZ ad) R) X 31 [(0, .ref (ad 0)), (1, .int v1), (2, .int v2), (3, .int v3)] []) (X : KX) (s0 : Int32) (v1 : Int32) (v3 : Int32) (hf : f_X7_cover_86 n k31 X s0 v1 v3 = some R) : Z z (yM D cI cZ ad) 5 (zQI z (yM D cI cZ ad) R) X 86 [(0, .ref (ad 0)), (1, .int v1), (3, .int v3)] [.int s0] := by
  unfold f_X7_cover_86 at hf
  refine z_istore_n (L' := [(2, .int s0), (0, .ref (ad 0)), (1, .int v1), (3, .int v3)]) F dX7_cover_86 rfl (Nat.le_of_ble_eq_true rfl) rfl ?_
  refine z_iinc (w := 1) (L' := fun v3_1 => [(3, .int v3_1), (2, .int s0), (0, .ref (ad 0)), (1, .int v1)]) F hf dX7_cover_87 3 rfl (by decide +kernel) (Nat.le_of_ble_eq_true rfl) (fun _ => rfl) (fun v3_1 hf => ?_)
  refine z_goto (tgt := 31) F dX7_cover_90 (by decide) ?_
  exact z_sub [2, 3, 1, 0] rfl (hk31 X v1 s0 v3_1 hf)
set_option maxHeartbeats 4000000 in
set_option maxRecDepth 100000 in
theorem z_X7_cover_74 {z : ZC} {D : va_G} {cI cZ : ClassId} {ad : Nat → Nat} {R : Int32 × KX} {k31 : KX → Int32 → Int32 → Int32 → Option (Int32 × KX)} (F : ZF z (yM D cI cZ ad) cX7_cover RX7 5 (some .int) 5) (n : Nat) (hk31 : ∀ (X : KX) (v1 : Int32) (v2 : Int32) (v3 : Int32), k31 X v1 v2 v3 = some R → Z z (yM D cI cZ ad) 5 (zQI z (yM D cI cZ ad) R) X 31 [(0, .ref (ad 0)), (1, .int v1), (2, .int v2), (3, .int v3)] []) (X : KX) (s0 : Int32) (v1 : Int32) (v2 : Int32) (v3 : Int32) (hf : f_X7_cover_74 n k31 X s0 v1 v2 v3 = some R) : Z z (yM D cI cZ ad) 5 (zQI z (yM D cI cZ ad) R) X 74 [(0, .ref (ad 0)), (1, .int v1), (2, .int v2), (3, .int v3)] [.int s0] := by
  unfold f_X7_cover_74 at hf
  refine z_istore (L' := [(4, .int s0), (0, .ref (ad 0)), (1, .int v1), (2, .int v2), (3, .int v3)]) F dX7_cover_74 (Nat.le_of_ble_eq_true rfl) rfl ?_
  refine z_iload F dX7_cover_76 0 rfl ?_
  refine z_if_eq (tgt := 85) F hf dX7_cover_78 (by decide) (fun hf => ?_) (fun hf => ?_)
  · refine z_iload_n F dX7_cover_85 3 rfl rfl ?_
    exact z_sub [1, 2, 4] rfl (z_X7_cover_86 F n hk31 X v2 v1 v3 hf)
  · refine z_iload_n F dX7_cover_81 4 rfl rfl ?_
    refine z_goto (tgt := 86) F dX7_cover_82 (by decide) ?_
    exact z_sub [1, 2, 4] rfl (z_X7_cover_86 F n hk31 X v3 v1 v3 hf)
set_option maxHeartbeats 4000000 in
set_option maxRecDepth 100000 in
theorem z_X7_cover_73 {z : ZC} {D : va_G} {cI cZ : ClassId} {ad : Nat → Nat} {R : Int32 × KX} {k31 : KX → Int32 → Int32 → Int32 → Option (Int32 × KX)} (F : ZF z (yM D cI cZ ad) cX7_cover RX7 5 (some .int) 5) (n : Nat) (hk31 : ∀ (X : KX) (v1 : Int32) (v2 : Int32) (v3 : Int32), k31 X v1 v2 v3 = some R → Z z (yM D cI cZ ad) 5 (zQI z (yM D cI cZ ad) R) X 31 [(0, .ref (ad 0)), (1, .int v1), (2, .int v2), (3, .int v3)] []) (X : KX) (v1 : Int32) (v2 : Int32) (v3 : Int32) (hf : f_X7_cover_73 n k31 X v1 v2 v3 = some R) : Z z (yM D cI cZ ad) 5 (zQI z (yM D cI cZ ad) R) X 73 [(0, .ref (ad 0)), (1, .int v1), (2, .int v2), (3, .int v3)] [] := by
  unfold f_X7_cover_73 at hf
  refine z_iconst (v := 0) F dX7_cover_73 (by decide +kernel) ?_
  exact z_sub [0, 1, 2, 3] rfl (z_X7_cover_74 F n hk31 X 0 v1 v2 v3 hf)
set_option maxHeartbeats 4000000 in
set_option maxRecDepth 100000 in
theorem z_X7_cover_69 {z : ZC} {D : va_G} {cI cZ : ClassId} {ad : Nat → Nat} {R : Int32 × KX} {k31 : KX → Int32 → Int32 → Int32 → Option (Int32 × KX)} (F : ZF z (yM D cI cZ ad) cX7_cover RX7 5 (some .int) 5) (n : Nat) (hk31 : ∀ (X : KX) (v1 : Int32) (v2 : Int32) (v3 : Int32), k31 X v1 v2 v3 = some R → Z z (yM D cI cZ ad) 5 (zQI z (yM D cI cZ ad) R) X 31 [(0, .ref (ad 0)), (1, .int v1), (2, .int v2), (3, .int v3)] []) (X : KX) (v1 : Int32) (v2 : Int32) (v3 : Int32) (hf : f_X7_cover_69 n k31 X v1 v2 v3 = some R) : Z z (yM D cI cZ ad) 5 (zQI z (yM D cI cZ ad) R) X 69 [(0, .ref (ad 0)), (1, .int v1), (2, .int v2), (3, .int v3)] [] := by
  unfold f_X7_cover_69 at hf
  refine z_iconst (v := 1) F dX7_cover_69 (by decide +kernel) ?_
  refine z_goto (tgt := 74) F dX7_cover_70 (by decide) ?_
  exact z_sub [0, 1, 2, 3] rfl (z_X7_cover_74 F n hk31 X 1 v1 v2 v3 hf)
set_option maxHeartbeats 4000000 in
set_option maxRecDepth 100000 in
theorem z_X7_cover_31 {z : ZC} {D : va_G} {cI cZ : ClassId} {ad : Nat → Nat} {R : Int32 × KX} (F : ZF z (yM D cI cZ ad) cX7_cover RX7 5 (some .int) 5) (n : Nat) : ∀ (t : Nat) (X : KX) (v1 : Int32) (v2 : Int32) (v3 : Int32), f_X7_cover_31 n t X v1 v2 v3 = some R → Z z (yM D cI cZ ad) 5 (zQI z (yM D cI cZ ad) R) X 31 [(0, .ref (ad 0)), (1, .int v1), (2, .int v2), (3, .int v3)] [] := by
  intro t
  induction t with
  | zero => intro X v1 v2 v3 hf; rw [f_X7_cover_31] at hf; exact zNone hf
  | succ t ih =>
    intro X v1 v2 v3 hf
    rw [f_X7_cover_31] at hf
    refine z_iload_n F dX7_cover_31 3 rfl rfl ?_
    refine z_aload_n F dX7_cover_32 0 rfl rfl ?_
    refine k_X7_allHints F (by decide) wm_1014 (Nat.le_of_ble_eq_true rfl) hf dX7_cover_33 (fun r_1 hf => ?_)
    refine z_icmp_gt (tgt := 93) F hf dX7_cover_36 (by decide) (fun hf => ?_) (fun hf => ?_)
    · refine z_iload_n F dX7_cover_93 2 rfl rfl ?_
      refine z_ldc F wm_761 dX7_cover_94 ?_
      refine z_icmp_eq (tgt := 104) F hf dX7_cover_96 (by decide) (fun hf => ?_) (fun hf => ?_)
      · exact z_sub [2] rfl (z_X7_cover_104 F n X v2 hf)
      · refine z_iload_n F dX7_cover_99 1 rfl rfl ?_
        refine z_iconst (v := 1) F dX7_cover_100 (by decide +kernel) ?_
        refine z_icmp_ne (tgt := 108) F hf dX7_cover_101 (by decide) (fun hf => ?_) (fun hf => ?_)
        · refine z_iload_n F dX7_cover_108 2 rfl rfl ?_
          refine k_X7_ones F (by decide) wm_963 (Nat.le_of_ble_eq_true rfl) hf dX7_cover_109 (fun r_2 hf => ?_)
          exact z_iret F dX7_cover_112 (Option.some.inj hf)
        · exact z_sub [2] rfl (z_X7_cover_104 F n X v2 hf)
    · refine z_aload_n F dX7_cover_39 0 rfl rfl ?_
      refine gM_0_22 F wm_784 dX7_cover_40 ?_
      refine z_iload_n F dX7_cover_43 3 rfl rfl ?_
      refine lM_13 F hf dX7_cover_44 (fun hf => ?_)
      refine z_aload_n F dX7_cover_45 0 rfl rfl ?_
      refine k_X7_allToCome F (by decide) wm_1061 (Nat.le_of_ble_eq_true rfl) hf dX7_cover_46 (fun r_3 hf => ?_)
      refine z_icmp_ne (tgt := 73) F hf dX7_cover_49 (by decide) (fun hf => ?_) (fun hf => ?_)
      · exact z_sub [0, 1, 2, 3] rfl (z_X7_cover_73 F n ih X v1 v2 v3 hf)
      · refine z_iload_n F dX7_cover_52 2 rfl rfl ?_
        refine z_ldc F wm_761 dX7_cover_53 ?_
        refine z_icmp_eq (tgt := 69) F hf dX7_cover_55 (by decide) (fun hf => ?_) (fun hf => ?_)
        · exact z_sub [0, 1, 2, 3] rfl (z_X7_cover_69 F n ih X v1 v2 v3 hf)
        · refine z_iload_n F dX7_cover_58 3 rfl rfl ?_
          refine k_X7_ones F (by decide) wm_963 (Nat.le_of_ble_eq_true rfl) hf dX7_cover_59 (fun r_4 hf => ?_)
          refine z_iload_n F dX7_cover_62 2 rfl rfl ?_
          refine k_X7_ones F (by decide) wm_963 (Nat.le_of_ble_eq_true rfl) hf dX7_cover_63 (fun r_5 hf => ?_)
          refine z_icmp_ge (tgt := 73) F hf dX7_cover_66 (by decide) (fun hf => ?_) (fun hf => ?_)
          · exact z_sub [0, 1, 2, 3] rfl (z_X7_cover_73 F n ih X v1 v2 v3 hf)
          · exact z_sub [0, 1, 2, 3] rfl (z_X7_cover_69 F n ih X v1 v2 v3 hf)
set_option maxHeartbeats 4000000 in
set_option maxRecDepth 100000 in
theorem z_X7_cover {z : ZC} {D : va_G} {cI cZ : ClassId} {ad : Nat → Nat} {R : Int32 × KX} (F : ZF z (yM D cI cZ ad) cX7_cover RX7 5 (some .int) 5) (n : Nat) (X : KX) (a1 : Int32) (hf : f_X7_cover n X a1 = some R) : Z z (yM D cI cZ ad) 5 (zQI z (yM D cI cZ ad) R) X 0 [(0, .ref (ad 0)), (1, .int a1)] [] := by
  unfold f_X7_cover at hf
  refine z_aload_n F dX7_cover_0 0 rfl rfl ?_
  refine k_X7_isCastle F (by decide) wm_1045 (Nat.le_of_ble_eq_true rfl) hf dX7_cover_1 (fun r_1 hf => ?_)
  refine z_if_ne (tgt := 10) F hf dX7_cover_4 (by decide) (fun hf => ?_) (fun hf => ?_)
  · refine z_iload_n F dX7_cover_10 1 rfl rfl ?_
    refine z_iconst (v := 0) F dX7_cover_11 (by decide +kernel) ?_
    refine z_iconst (v := 1) F dX7_cover_12 (by decide +kernel) ?_
    refine k_X7_in F (by decide) wm_843 (Nat.le_of_ble_eq_true rfl) dX7_cover_13 ?_
    refine z_if_ne (tgt := 22) F hf dX7_cover_16 (by decide) (fun hf => ?_) (fun hf => ?_)
    · refine z_aload_n F dX7_cover_22 0 rfl rfl ?_
      refine k_X7_laysRoutes F (by decide) wm_1057 (Nat.le_of_ble_eq_true rfl) hf dX7_cover_23 (fun X_2 hf => ?_)
      refine z_ldc F wm_761 dX7_cover_26 ?_
      refine z_istore_n (L' := [(2, .int (-1000000)), (0, .ref (ad 0)), (1, .int a1)]) F dX7_cover_28 rfl (Nat.le_of_ble_eq_true rfl) rfl ?_
      refine z_iconst (v := 0) F dX7_cover_29 (by decide +kernel) ?_
      refine z_istore_n (L' := [(3, .int 0), (2, .int (-1000000)), (0, .ref (ad 0)), (1, .int a1)]) F dX7_cover_30 rfl (Nat.le_of_ble_eq_true rfl) rfl ?_
      exact z_sub [2, 3, 1, 0] rfl (z_X7_cover_31 F n n X_2 a1 (-1000000) 0 hf)
    · refine z_ldc F wm_846 dX7_cover_19 ?_
      exact z_iret F dX7_cover_21 (Option.some.inj hf)
  · refine z_ldc F wm_947 dX7_cover_7 ?_
    exact z_iret F dX7_cover_9 (Option.some.inj hf)
theorem c_X7_cover {D : va_G} {cI cZ : ClassId} {ad : Nat → Nat} {R : Int32 × KX} (n : Nat) (X : KX) (a1 : Int32) (hf : f_X7_cover n X a1 = some R) : zMI (yM D cI cZ ad) yX7_cover cX7_cover 5 (some .int) 5 [.ref (ad 0), .int a1] X R := zMI_of (by decide +kernel) (Nat.le_of_ble_eq_true rfl) (fun z F => z_sub [0, 1] rfl (z_X7_cover F n X a1 hf))
theorem k_X7_cover {z : ZC} {D : va_G} {cI cZ : ClassId} {ad : Nat → Nat} {cc : ByteArray} {own : String} {nL d pc index : Nat} {ret : Option FieldType} {Q : State → Prop} {X : KX} {L : List (Nat × Value)} {rest : List Value} {n : Nat} {a1 : Int32} (F : ZF z (yM D cI cZ ad) cc own nL ret d) (hd : 5 + 1 ≤ d) (hw : Cond.methodLink own index yX7_cover ∈ wsA) (hst : (rest.map fun v => v.category).sum ≤ 8) {β : Type} {e : Int32 → KX → Option β} {r : β} (hf : zB2 (f_X7_cover n X a1) e = some r) (hdg : decode cc pc = .ok (.invokevirtual index, 3)) (kk : ∀ (v : Int32) (X2 : KX), e v X2 = some r → Z z (yM D cI cZ ad) nL Q X2 (pc + 3) L (.int v :: rest)) : Z z (yM D cI cZ ad) nL Q X pc L (.int a1 :: .ref (ad 0) :: rest) := by
  obtain ⟨v, X2, h1, h2⟩ := zB2_some hf
  exact z_cVI (As := [.int a1]) F (c_X7_cover n X a1 h1) kn_X7_cover kv_X7_cover hw (q0 := 0) rfl rfl hd rfl hst hdg rfl (kk v X2 h2)
theorem kv_X7_spoilt : zKv yX7_spoilt := ⟨wm_1066, wm_1067⟩
theorem kn_X7_spoilt : zKn yX7_spoilt cX7_spoilt 6 (some .int) 1 := ⟨wm_1068, wm_62, by decide +kernel, by decide⟩
set_option maxHeartbeats 4000000 in
set_option maxRecDepth 100000 in
theorem z_X7_spoilt_86 {z : ZC} {D : va_G} {cI cZ : ClassId} {ad : Nat → Nat} {R : Int32 × KX} {k35 : KX → Int32 → Int32 → Int32 → Int32 → Option (Int32 × KX)} (F : ZF z (yM D cI cZ ad) cX7_spoilt RX7 6 (some .int) 5) (n : Nat) (hk35 : ∀ (X : KX) (v1 : Int32) (v2 : Int32) (v3 : Int32) (v4 : Int32), k35 X v1 v2 v3 v4 = some R → Z z (yM D cI cZ ad) 6 (zQI z (yM D cI cZ ad) R) X 35 [(0, .ref (ad 0)), (1, .int v1), (2, .int v2), (3, .int v3), (4, .int v4)] []) (X : KX) (v1 : Int32) (v2 : Int32) (v3 : Int32) (v4 : Int32) (hf : f_X7_spoilt_86 n k35 X v1 v2 v3 v4 = some R) : Z z (yM D cI cZ ad) 6 (zQI z (yM D cI cZ ad) R) X 86 [(0, .ref (ad 0)), (1, .int v1), (2, .int v2), (3, .int v3), (4, .int v4)] [] := by
  unfold f_X7_spoilt_86 at hf
  refine z_iinc (w := 1) (L' := fun v4_1 => [(4, .int v4_1), (0, .ref (ad 0)), (1, .int v1), (2, .int v2), (3, .int v3)]) F hf dX7_spoilt_86 4 rfl (by decide +kernel) (Nat.le_of_ble_eq_true rfl) (fun _ => rfl) (fun v4_1 hf => ?_)
  refine z_goto (tgt := 35) F dX7_spoilt_89 (by decide) ?_
  exact z_sub [1, 2, 3, 4, 0] rfl (hk35 X v1 v2 v3 v4_1 hf)
set_option maxHeartbeats 4000000 in
set_option maxRecDepth 100000 in
theorem z_X7_spoilt_80 {z : ZC} {D : va_G} {cI cZ : ClassId} {ad : Nat → Nat} {R : Int32 × KX} {k35 : KX → Int32 → Int32 → Int32 → Int32 → Option (Int32 × KX)} (F : ZF z (yM D cI cZ ad) cX7_spoilt RX7 6 (some .int) 5) (n : Nat) (hk35 : ∀ (X : KX) (v1 : Int32) (v2 : Int32) (v3 : Int32) (v4 : Int32), k35 X v1 v2 v3 v4 = some R → Z z (yM D cI cZ ad) 6 (zQI z (yM D cI cZ ad) R) X 35 [(0, .ref (ad 0)), (1, .int v1), (2, .int v2), (3, .int v3), (4, .int v4)] []) (X : KX) (v1 : Int32) (v4 : Int32) (v5 : Int32) (hf : f_X7_spoilt_80 n k35 X v1 v4 v5 = some R) : Z z (yM D cI cZ ad) 6 (zQI z (yM D cI cZ ad) R) X 80 [(0, .ref (ad 0)), (1, .int v1), (4, .int v4), (5, .int v5)] [] := by
  unfold f_X7_spoilt_80 at hf
  refine z_iload F dX7_spoilt_80 2 rfl ?_
  refine z_istore_n (L' := [(2, .int v4), (0, .ref (ad 0)), (1, .int v1), (4, .int v4), (5, .int v5)]) F dX7_spoilt_82 rfl (Nat.le_of_ble_eq_true rfl) rfl ?_
  refine z_iload F dX7_spoilt_83 4 rfl ?_
  refine z_istore_n (L' := [(3, .int v5), (2, .int v4), (0, .ref (ad 0)), (1, .int v1), (4, .int v4), (5, .int v5)]) F dX7_spoilt_85 rfl (Nat.le_of_ble_eq_true rfl) rfl ?_
  exact z_sub [2, 3, 1, 0, 4] rfl (z_X7_spoilt_86 F n hk35 X v1 v4 v5 v4 hf)
set_option maxHeartbeats 4000000 in
set_option maxRecDepth 100000 in
theorem z_X7_spoilt_35 {z : ZC} {D : va_G} {cI cZ : ClassId} {ad : Nat → Nat} {R : Int32 × KX} (F : ZF z (yM D cI cZ ad) cX7_spoilt RX7 6 (some .int) 5) (n : Nat) : ∀ (t : Nat) (X : KX) (v1 : Int32) (v2 : Int32) (v3 : Int32) (v4 : Int32), f_X7_spoilt_35 n t X v1 v2 v3 v4 = some R → Z z (yM D cI cZ ad) 6 (zQI z (yM D cI cZ ad) R) X 35 [(0, .ref (ad 0)), (1, .int v1), (2, .int v2), (3, .int v3), (4, .int v4)] [] := by
  intro t
  induction t with
  | zero => intro X v1 v2 v3 v4 hf; rw [f_X7_spoilt_35] at hf; exact zNone hf
  | succ t ih =>
    intro X v1 v2 v3 v4 hf
    rw [f_X7_spoilt_35] at hf
    refine z_iload F dX7_spoilt_35 4 rfl ?_
    refine z_aload_n F dX7_spoilt_37 0 rfl rfl ?_
    refine gM_0_13 F wm_775 dX7_spoilt_38 ?_
    refine z_bipush (v := 7) F dX7_spoilt_41 (by decide +kernel) ?_
    refine lM_6 F hf dX7_spoilt_43 (fun hf => ?_)
    refine z_icmp_ge (tgt := 92) F hf dX7_spoilt_44 (by decide) (fun hf => ?_) (fun hf => ?_)
    · refine z_iload_n F dX7_spoilt_92 1 rfl rfl ?_
      refine z_if_ne (tgt := 100) F hf dX7_spoilt_93 (by decide) (fun hf => ?_) (fun hf => ?_)
      · refine z_iload_n F dX7_spoilt_100 3 rfl rfl ?_
        exact z_iret F dX7_spoilt_101 (Option.some.inj hf)
      · refine z_iload_n F dX7_spoilt_96 2 rfl rfl ?_
        refine z_goto (tgt := 101) F dX7_spoilt_97 (by decide) ?_
        exact z_iret F dX7_spoilt_101 (Option.some.inj hf)
    · refine z_aload_n F dX7_spoilt_47 0 rfl rfl ?_
      refine gM_0_22 F wm_784 dX7_spoilt_48 ?_
      refine z_aload_n F dX7_spoilt_51 0 rfl rfl ?_
      refine k_X7_allHints F (by decide) wm_1014 (Nat.le_of_ble_eq_true rfl) hf dX7_spoilt_52 (fun r_1 hf => ?_)
      refine z_iconst (v := 1) F dX7_spoilt_55 (by decide +kernel) ?_
      refine z_iload F dX7_spoilt_56 4 rfl ?_
      refine z_ishl F dX7_spoilt_58 ?_
      refine z_iconst (v := (-1)) F dX7_spoilt_59 (by decide +kernel) ?_
      refine z_ixor F dX7_spoilt_60 ?_
      refine z_iand F dX7_spoilt_61 ?_
      refine lM_13 F hf dX7_spoilt_62 (fun hf => ?_)
      refine k_X7_ones F (by decide) wm_963 (Nat.le_of_ble_eq_true rfl) hf dX7_spoilt_63 (fun r_2 hf => ?_)
      refine z_istore (L' := [(5, .int r_2), (0, .ref (ad 0)), (1, .int v1), (2, .int v2), (3, .int v3), (4, .int v4)]) F dX7_spoilt_66 (Nat.le_of_ble_eq_true rfl) rfl ?_
      refine z_iload_n F dX7_spoilt_68 3 rfl rfl ?_
      refine z_ldc F wm_761 dX7_spoilt_69 ?_
      refine z_icmp_eq (tgt := 80) F hf dX7_spoilt_71 (by decide) (fun hf => ?_) (fun hf => ?_)
      · exact z_sub [1, 2, 5, 0] rfl (z_X7_spoilt_80 F n ih X v1 v4 r_2 hf)
      · refine z_iload F dX7_spoilt_74 0 rfl ?_
        refine z_iload_n F dX7_spoilt_76 4 rfl rfl ?_
        refine z_icmp_ge (tgt := 86) F hf dX7_spoilt_77 (by decide) (fun hf => ?_) (fun hf => ?_)
        · exact z_sub [1, 2, 3, 4, 5] rfl (z_X7_spoilt_86 F n ih X v1 v2 v3 v4 hf)
        · exact z_sub [1, 2, 5, 0] rfl (z_X7_spoilt_80 F n ih X v1 v4 r_2 hf)
set_option maxHeartbeats 4000000 in
set_option maxRecDepth 100000 in
theorem z_X7_spoilt {z : ZC} {D : va_G} {cI cZ : ClassId} {ad : Nat → Nat} {R : Int32 × KX} (F : ZF z (yM D cI cZ ad) cX7_spoilt RX7 6 (some .int) 5) (n : Nat) (X : KX) (a1 : Int32) (hf : f_X7_spoilt n X a1 = some R) : Z z (yM D cI cZ ad) 6 (zQI z (yM D cI cZ ad) R) X 0 [(0, .ref (ad 0)), (1, .int a1)] [] := by
  unfold f_X7_spoilt at hf
  refine z_aload_n F dX7_spoilt_0 0 rfl rfl ?_
  refine k_X7_isCastle F (by decide) wm_1045 (Nat.le_of_ble_eq_true rfl) hf dX7_spoilt_1 (fun r_1 hf => ?_)
  refine z_if_ne (tgt := 10) F hf dX7_spoilt_4 (by decide) (fun hf => ?_) (fun hf => ?_)
  · refine z_iload_n F dX7_spoilt_10 1 rfl rfl ?_
    refine z_iconst (v := 0) F dX7_spoilt_11 (by decide +kernel) ?_
    refine z_iconst (v := 1) F dX7_spoilt_12 (by decide +kernel) ?_
    refine k_X7_in F (by decide) wm_843 (Nat.le_of_ble_eq_true rfl) dX7_spoilt_13 ?_
    refine z_if_ne (tgt := 22) F hf dX7_spoilt_16 (by decide) (fun hf => ?_) (fun hf => ?_)
    · refine z_aload_n F dX7_spoilt_22 0 rfl rfl ?_
      refine k_X7_laysRoutes F (by decide) wm_1057 (Nat.le_of_ble_eq_true rfl) hf dX7_spoilt_23 (fun X_2 hf => ?_)
      refine z_ldc F wm_761 dX7_spoilt_26 ?_
      refine z_istore_n (L' := [(2, .int (-1000000)), (0, .ref (ad 0)), (1, .int a1)]) F dX7_spoilt_28 rfl (Nat.le_of_ble_eq_true rfl) rfl ?_
      refine z_ldc F wm_761 dX7_spoilt_29 ?_
      refine z_istore_n (L' := [(3, .int (-1000000)), (2, .int (-1000000)), (0, .ref (ad 0)), (1, .int a1)]) F dX7_spoilt_31 rfl (Nat.le_of_ble_eq_true rfl) rfl ?_
      refine z_iconst (v := 0) F dX7_spoilt_32 (by decide +kernel) ?_
      refine z_istore (L' := [(4, .int 0), (3, .int (-1000000)), (2, .int (-1000000)), (0, .ref (ad 0)), (1, .int a1)]) F dX7_spoilt_33 (Nat.le_of_ble_eq_true rfl) rfl ?_
      exact z_sub [3, 4, 2, 1, 0] rfl (z_X7_spoilt_35 F n n X_2 a1 (-1000000) (-1000000) 0 hf)
    · refine z_ldc F wm_846 dX7_spoilt_19 ?_
      exact z_iret F dX7_spoilt_21 (Option.some.inj hf)
  · refine z_ldc F wm_947 dX7_spoilt_7 ?_
    exact z_iret F dX7_spoilt_9 (Option.some.inj hf)
theorem c_X7_spoilt {D : va_G} {cI cZ : ClassId} {ad : Nat → Nat} {R : Int32 × KX} (n : Nat) (X : KX) (a1 : Int32) (hf : f_X7_spoilt n X a1 = some R) : zMI (yM D cI cZ ad) yX7_spoilt cX7_spoilt 6 (some .int) 5 [.ref (ad 0), .int a1] X R := zMI_of (by decide +kernel) (Nat.le_of_ble_eq_true rfl) (fun z F => z_sub [0, 1] rfl (z_X7_spoilt F n X a1 hf))
theorem k_X7_spoilt {z : ZC} {D : va_G} {cI cZ : ClassId} {ad : Nat → Nat} {cc : ByteArray} {own : String} {nL d pc index : Nat} {ret : Option FieldType} {Q : State → Prop} {X : KX} {L : List (Nat × Value)} {rest : List Value} {n : Nat} {a1 : Int32} (F : ZF z (yM D cI cZ ad) cc own nL ret d) (hd : 5 + 1 ≤ d) (hw : Cond.methodLink own index yX7_spoilt ∈ wsA) (hst : (rest.map fun v => v.category).sum ≤ 8) {β : Type} {e : Int32 → KX → Option β} {r : β} (hf : zB2 (f_X7_spoilt n X a1) e = some r) (hdg : decode cc pc = .ok (.invokevirtual index, 3)) (kk : ∀ (v : Int32) (X2 : KX), e v X2 = some r → Z z (yM D cI cZ ad) nL Q X2 (pc + 3) L (.int v :: rest)) : Z z (yM D cI cZ ad) nL Q X pc L (.int a1 :: .ref (ad 0) :: rest) := by
  obtain ⟨v, X2, h1, h2⟩ := zB2_some hf
  exact z_cVI (As := [.int a1]) F (c_X7_spoilt n X a1 h1) kn_X7_spoilt kv_X7_spoilt hw (q0 := 0) rfl rfl hd rfl hst hdg rfl (kk v X2 h2)
theorem kv_X7_thinksBy : zKv yX7_thinksBy := ⟨wm_1075, wm_47⟩
theorem kn_X7_thinksBy : zKn yX7_thinksBy cX7_thinksBy 7 (some .int) 3 := ⟨wm_1076, wm_62, by decide +kernel, by decide⟩
set_option maxHeartbeats 4000000 in
set_option maxRecDepth 100000 in
theorem z_X7_thinksBy_48 {z : ZC} {D : va_G} {cI cZ : ClassId} {ad : Nat → Nat} {R : Int32 × KX} (F : ZF z (yM D cI cZ ad) cX7_thinksBy RX7 7 (some .int) 2) (n : Nat) : ∀ (t : Nat) (X : KX) (v2 : Int32) (v3 : Int32) (v4 : Int32) (v5 : Int32), f_X7_thinksBy_48 n t X v2 v3 v4 v5 = some R → Z z (yM D cI cZ ad) 7 (zQI z (yM D cI cZ ad) R) X 48 [(0, .ref (ad 0)), (2, .int v2), (3, .int v3), (4, .int v4), (5, .int v5)] [] := by
  intro t
  induction t with
  | zero => intro X v2 v3 v4 v5 hf; rw [f_X7_thinksBy_48] at hf; exact zNone hf
  | succ t ih =>
    intro X v2 v3 v4 v5 hf
    rw [f_X7_thinksBy_48] at hf
    refine z_iload F dX7_thinksBy_48 4 rfl ?_
    refine z_iload_n F dX7_thinksBy_50 2 rfl rfl ?_
    refine z_icmp_ge (tgt := 99) F hf dX7_thinksBy_51 (by decide) (fun hf => ?_) (fun hf => ?_)
    · refine z_iload F dX7_thinksBy_99 3 rfl ?_
      exact z_iret F dX7_thinksBy_101 (Option.some.inj hf)
    · refine z_aload_n F dX7_thinksBy_54 0 rfl rfl ?_
      refine gM_0_2 F wm_764 dX7_thinksBy_55 ?_
      refine z_iload_n F dX7_thinksBy_58 1 rfl rfl ?_
      refine z_iload F dX7_thinksBy_59 4 rfl ?_
      refine z_iadd F dX7_thinksBy_61 ?_
      refine lM_3 F hf dX7_thinksBy_62 (fun hf => ?_)
      refine z_top hf (fun v6_1 hf => ?_)
      refine z_istore (L' := [(6, .int v6_1), (0, .ref (ad 0)), (2, .int v2), (3, .int v3), (4, .int v4), (5, .int v5)]) F dX7_thinksBy_63 (Nat.le_of_ble_eq_true rfl) rfl ?_
      refine z_aload_n F dX7_thinksBy_65 1 rfl rfl ?_
      refine z_iload F dX7_thinksBy_66 0 rfl ?_
      refine z_iload F dX7_thinksBy_68 4 rfl ?_
      refine z_aload_n F dX7_thinksBy_70 1 rfl rfl ?_
      refine gM_0_23 F wm_785 dX7_thinksBy_71 ?_
      refine z_iload F dX7_thinksBy_74 0 rfl ?_
      refine lM_14 F hf dX7_thinksBy_76 (fun hf => ?_)
      refine k_X7_leadsTo F (by decide) wm_970 (Nat.le_of_ble_eq_true rfl) hf dX7_thinksBy_77 (fun r_2 hf => ?_)
      refine z_istore (L' := [(4, .int r_2), (6, .int v6_1), (0, .ref (ad 0)), (2, .int v2), (3, .int v3), (5, .int v5)]) F dX7_thinksBy_80 (Nat.le_of_ble_eq_true rfl) rfl ?_
      refine z_aload_n F dX7_thinksBy_82 2 rfl rfl ?_
      refine gM_0_23 F wm_785 dX7_thinksBy_83 ?_
      refine z_iload F dX7_thinksBy_86 1 rfl ?_
      refine z_dup2 F dX7_thinksBy_88 rfl rfl ?_
      refine lM_14 F hf dX7_thinksBy_89 (fun hf => ?_)
      refine z_iconst (v := 1) F dX7_thinksBy_90 (by decide +kernel) ?_
      refine z_iadd F dX7_thinksBy_91 ?_
      refine sM_14 F hf dX7_thinksBy_92 (fun X_3 hf => ?_)
      refine z_iinc (w := 1) (L' := fun v5_4 => [(5, .int v5_4), (4, .int r_2), (6, .int v6_1), (0, .ref (ad 0)), (2, .int v2), (3, .int v3)]) F hf dX7_thinksBy_93 5 rfl (by decide +kernel) (Nat.le_of_ble_eq_true rfl) (fun _ => rfl) (fun v5_4 hf => ?_)
      refine z_goto (tgt := 48) F dX7_thinksBy_96 (by decide) ?_
      exact z_sub [3, 4, 5, 1, 0] rfl (ih X_3 v2 v3 r_2 v5_4 hf)
