set_option maxHeartbeats 4000000 in
set_option maxRecDepth 100000 in
theorem z_X7_thinksBy_3 {z : ZC} {D : va_G} {cI cZ : ClassId} {ad : Nat → Nat} {R : Int32 × KX} (F : ZF z (yM D cI cZ ad) cX7_thinksBy RX7 7 (some .int) 2) (n : Nat) : ∀ (t : Nat) (X : KX) (v1 : Int32) (v2 : Int32) (v3 : Int32) (v4 : Int32), f_X7_thinksBy_3 n t X v1 v2 v3 v4 = some R → Z z (yM D cI cZ ad) 7 (zQI z (yM D cI cZ ad) R) X 3 [(0, .ref (ad 0)), (1, .int v1), (2, .int v2), (3, .int v3), (4, .int v4)] [] := by
  intro t
  induction t with
  | zero => intro X v1 v2 v3 v4 hf; rw [f_X7_thinksBy_3] at hf; exact zNone hf
  | succ t ih =>
    intro X v1 v2 v3 v4 hf
    rw [f_X7_thinksBy_3] at hf
    refine z_iload F dX7_thinksBy_3 4 rfl ?_
    refine z_bipush (v := 8) F dX7_thinksBy_5 (by decide +kernel) ?_
    refine z_icmp_ge (tgt := 37) F hf dX7_thinksBy_7 (by decide) (fun hf => ?_) (fun hf => ?_)
    · refine z_aload_n F dX7_thinksBy_37 0 rfl rfl ?_
      refine z_iload_n F dX7_thinksBy_38 1 rfl rfl ?_
      refine z_iconst (v := 0) F dX7_thinksBy_39 (by decide +kernel) ?_
      refine k_X7_of F (by decide) wm_943 (Nat.le_of_ble_eq_true rfl) hf dX7_thinksBy_40 (fun r_1 hf => ?_)
      refine z_istore (L' := [(4, .int r_1), (0, .ref (ad 0)), (1, .int v1), (2, .int v2), (3, .int v3)]) F dX7_thinksBy_43 (Nat.le_of_ble_eq_true rfl) rfl ?_
      refine z_iconst (v := 0) F dX7_thinksBy_45 (by decide +kernel) ?_
      refine z_istore (L' := [(5, .int 0), (4, .int r_1), (0, .ref (ad 0)), (1, .int v1), (2, .int v2), (3, .int v3)]) F dX7_thinksBy_46 (Nat.le_of_ble_eq_true rfl) rfl ?_
      exact z_sub [2, 4, 5, 1, 0] rfl (z_X7_thinksBy_48 F n n X v2 v3 r_1 0 hf)
    · refine z_aload_n F dX7_thinksBy_10 0 rfl rfl ?_
      refine gM_0_23 F wm_785 dX7_thinksBy_11 ?_
      refine z_iload F dX7_thinksBy_14 4 rfl ?_
      refine z_aload_n F dX7_thinksBy_16 0 rfl rfl ?_
      refine gM_0_13 F wm_775 dX7_thinksBy_17 ?_
      refine z_bipush (v := 9) F dX7_thinksBy_20 (by decide +kernel) ?_
      refine z_iconst (v := 4) F dX7_thinksBy_22 (by decide +kernel) ?_
      refine z_iload F dX7_thinksBy_23 4 rfl ?_
      refine z_imul F dX7_thinksBy_25 ?_
      refine z_iadd F dX7_thinksBy_26 ?_
      refine z_iconst (v := 3) F dX7_thinksBy_27 (by decide +kernel) ?_
      refine z_iadd F dX7_thinksBy_28 ?_
      refine lM_6 F hf dX7_thinksBy_29 (fun hf => ?_)
      refine sM_14 F hf dX7_thinksBy_30 (fun X_2 hf => ?_)
      refine z_iinc (w := 1) (L' := fun v4_3 => [(4, .int v4_3), (0, .ref (ad 0)), (1, .int v1), (2, .int v2), (3, .int v3)]) F hf dX7_thinksBy_31 4 rfl (by decide +kernel) (Nat.le_of_ble_eq_true rfl) (fun _ => rfl) (fun v4_3 hf => ?_)
      refine z_goto (tgt := 3) F dX7_thinksBy_34 (by decide) ?_
      exact z_sub [1, 2, 3, 4, 0] rfl (ih X_2 v1 v2 v3 v4_3 hf)
set_option maxHeartbeats 4000000 in
set_option maxRecDepth 100000 in
theorem z_X7_thinksBy {z : ZC} {D : va_G} {cI cZ : ClassId} {ad : Nat → Nat} {R : Int32 × KX} (F : ZF z (yM D cI cZ ad) cX7_thinksBy RX7 7 (some .int) 2) (n : Nat) (X : KX) (a1 : Int32) (a2 : Int32) (a3 : Int32) (hf : f_X7_thinksBy n X a1 a2 a3 = some R) : Z z (yM D cI cZ ad) 7 (zQI z (yM D cI cZ ad) R) X 0 [(0, .ref (ad 0)), (1, .int a1), (2, .int a2), (3, .int a3)] [] := by
  unfold f_X7_thinksBy at hf
  refine z_iconst (v := 0) F dX7_thinksBy_0 (by decide +kernel) ?_
  refine z_istore (L' := [(4, .int 0), (0, .ref (ad 0)), (1, .int a1), (2, .int a2), (3, .int a3)]) F dX7_thinksBy_1 (Nat.le_of_ble_eq_true rfl) rfl ?_
  exact z_sub [1, 2, 3, 4, 0] rfl (z_X7_thinksBy_3 F n n X a1 a2 a3 0 hf)
theorem c_X7_thinksBy {D : va_G} {cI cZ : ClassId} {ad : Nat → Nat} {R : Int32 × KX} (n : Nat) (X : KX) (a1 : Int32) (a2 : Int32) (a3 : Int32) (hf : f_X7_thinksBy n X a1 a2 a3 = some R) : zMI (yM D cI cZ ad) yX7_thinksBy cX7_thinksBy 7 (some .int) 2 [.ref (ad 0), .int a1, .int a2, .int a3] X R := zMI_of (by decide +kernel) (Nat.le_of_ble_eq_true rfl) (fun z F => z_sub [0, 1, 2, 3] rfl (z_X7_thinksBy F n X a1 a2 a3 hf))
theorem k_X7_thinksBy {z : ZC} {D : va_G} {cI cZ : ClassId} {ad : Nat → Nat} {cc : ByteArray} {own : String} {nL d pc index : Nat} {ret : Option FieldType} {Q : State → Prop} {X : KX} {L : List (Nat × Value)} {rest : List Value} {n : Nat} {a1 a2 a3 : Int32} (F : ZF z (yM D cI cZ ad) cc own nL ret d) (hd : 2 + 1 ≤ d) (hw : Cond.methodLink own index yX7_thinksBy ∈ wsA) (hst : (rest.map fun v => v.category).sum ≤ 8) {β : Type} {e : Int32 → KX → Option β} {r : β} (hf : zB2 (f_X7_thinksBy n X a1 a2 a3) e = some r) (hdg : decode cc pc = .ok (.invokevirtual index, 3)) (kk : ∀ (v : Int32) (X2 : KX), e v X2 = some r → Z z (yM D cI cZ ad) nL Q X2 (pc + 3) L (.int v :: rest)) : Z z (yM D cI cZ ad) nL Q X pc L (.int a3 :: .int a2 :: .int a1 :: .ref (ad 0) :: rest) := by
  obtain ⟨v, X2, h1, h2⟩ := zB2_some hf
  exact z_cVI (As := [.int a1, .int a2, .int a3]) F (c_X7_thinksBy n X a1 a2 a3 h1) kn_X7_thinksBy kv_X7_thinksBy hw (q0 := 0) rfl rfl hd rfl hst hdg rfl (kk v X2 h2)
theorem kv_X7_nearly : zKv yX7_nearly := ⟨wm_1070, wm_1071⟩
theorem kn_X7_nearly : zKn yX7_nearly cX7_nearly 7 (some .int) 3 := ⟨wm_1072, wm_62, by decide +kernel, by decide⟩
set_option maxHeartbeats 4000000 in
set_option maxRecDepth 100000 in
theorem z_X7_nearly_179 {z : ZC} {D : va_G} {cI cZ : ClassId} {ad : Nat → Nat} {R : Int32 × KX} {k105 : KX → Int32 → Int32 → Int32 → Int32 → Int32 → Option (Int32 × KX)} (F : ZF z (yM D cI cZ ad) cX7_nearly RX7 7 (some .int) 3) (n : Nat) (hk105 : ∀ (X : KX) (v1 : Int32) (v2 : Int32) (v3 : Int32) (v4 : Int32) (v5 : Int32), k105 X v1 v2 v3 v4 v5 = some R → Z z (yM D cI cZ ad) 7 (zQI z (yM D cI cZ ad) R) X 105 [(0, .ref (ad 0)), (1, .int v1), (2, .int v2), (3, .int v3), (4, .int v4), (5, .int v5)] []) (X : KX) (s0 : Int32) (s1 : Int32) (v1 : Int32) (v2 : Int32) (v3 : Int32) (v5 : Int32) (hf : f_X7_nearly_179 n k105 X s0 s1 v1 v2 v3 v5 = some R) : Z z (yM D cI cZ ad) 7 (zQI z (yM D cI cZ ad) R) X 179 [(0, .ref (ad 0)), (1, .int v1), (2, .int v2), (3, .int v3), (5, .int v5)] [.int s0, .int s1] := by
  unfold f_X7_nearly_179 at hf
  refine z_ior F dX7_nearly_179 ?_
  refine z_top hf (fun v4_1 hf => ?_)
  refine z_istore (L' := [(4, .int v4_1), (0, .ref (ad 0)), (1, .int v1), (2, .int v2), (3, .int v3), (5, .int v5)]) F dX7_nearly_180 (Nat.le_of_ble_eq_true rfl) rfl ?_
  refine z_iinc (w := 1) (L' := fun v5_2 => [(5, .int v5_2), (4, .int v4_1), (0, .ref (ad 0)), (1, .int v1), (2, .int v2), (3, .int v3)]) F hf dX7_nearly_182 5 rfl (by decide +kernel) (Nat.le_of_ble_eq_true rfl) (fun _ => rfl) (fun v5_2 hf => ?_)
  refine z_goto (tgt := 105) F dX7_nearly_185 (by decide) ?_
  exact z_sub [2, 3, 4, 5, 1, 0] rfl (hk105 X v1 v2 v3 v4_1 v5_2 hf)
set_option maxHeartbeats 4000000 in
set_option maxRecDepth 100000 in
theorem z_X7_nearly_162 {z : ZC} {D : va_G} {cI cZ : ClassId} {ad : Nat → Nat} {R : Int32 × KX} {k105 : KX → Int32 → Int32 → Int32 → Int32 → Int32 → Option (Int32 × KX)} (F : ZF z (yM D cI cZ ad) cX7_nearly RX7 7 (some .int) 3) (n : Nat) (hk105 : ∀ (X : KX) (v1 : Int32) (v2 : Int32) (v3 : Int32) (v4 : Int32) (v5 : Int32), k105 X v1 v2 v3 v4 v5 = some R → Z z (yM D cI cZ ad) 7 (zQI z (yM D cI cZ ad) R) X 105 [(0, .ref (ad 0)), (1, .int v1), (2, .int v2), (3, .int v3), (4, .int v4), (5, .int v5)] []) (X : KX) (s0 : Int32) (v1 : Int32) (v2 : Int32) (v3 : Int32) (v4 : Int32) (v5 : Int32) (hf : f_X7_nearly_162 n k105 X s0 v1 v2 v3 v4 v5 = some R) : Z z (yM D cI cZ ad) 7 (zQI z (yM D cI cZ ad) R) X 162 [(0, .ref (ad 0)), (1, .int v1), (2, .int v2), (3, .int v3), (4, .int v4), (5, .int v5)] [.int s0] := by
  unfold f_X7_nearly_162 at hf
  refine z_istore (L' := [(6, .int s0), (0, .ref (ad 0)), (1, .int v1), (2, .int v2), (3, .int v3), (4, .int v4), (5, .int v5)]) F dX7_nearly_162 (Nat.le_of_ble_eq_true rfl) rfl ?_
  refine z_iload F dX7_nearly_164 5 rfl ?_
  refine z_iload F dX7_nearly_166 0 rfl ?_
  refine z_if_eq (tgt := 178) F hf dX7_nearly_168 (by decide) (fun hf => ?_) (fun hf => ?_)
  · refine z_iconst (v := 0) F dX7_nearly_178 (by decide +kernel) ?_
    exact z_sub [1, 2, 3, 4, 6] rfl (z_X7_nearly_179 F n hk105 X 0 v4 v1 v2 v3 v5 hf)
  · refine z_iconst (v := 1) F dX7_nearly_171 (by decide +kernel) ?_
    refine z_iload F dX7_nearly_172 6 rfl ?_
    refine z_ishl F dX7_nearly_174 ?_
    refine z_goto (tgt := 179) F dX7_nearly_175 (by decide) ?_
    exact z_sub [1, 2, 3, 4, 6] rfl (z_X7_nearly_179 F n hk105 X (zShl 1 v5) v4 v1 v2 v3 v5 hf)
set_option maxHeartbeats 4000000 in
set_option maxRecDepth 100000 in
theorem z_X7_nearly_161 {z : ZC} {D : va_G} {cI cZ : ClassId} {ad : Nat → Nat} {R : Int32 × KX} {k105 : KX → Int32 → Int32 → Int32 → Int32 → Int32 → Option (Int32 × KX)} (F : ZF z (yM D cI cZ ad) cX7_nearly RX7 7 (some .int) 3) (n : Nat) (hk105 : ∀ (X : KX) (v1 : Int32) (v2 : Int32) (v3 : Int32) (v4 : Int32) (v5 : Int32), k105 X v1 v2 v3 v4 v5 = some R → Z z (yM D cI cZ ad) 7 (zQI z (yM D cI cZ ad) R) X 105 [(0, .ref (ad 0)), (1, .int v1), (2, .int v2), (3, .int v3), (4, .int v4), (5, .int v5)] []) (X : KX) (v1 : Int32) (v2 : Int32) (v3 : Int32) (v4 : Int32) (v5 : Int32) (hf : f_X7_nearly_161 n k105 X v1 v2 v3 v4 v5 = some R) : Z z (yM D cI cZ ad) 7 (zQI z (yM D cI cZ ad) R) X 161 [(0, .ref (ad 0)), (1, .int v1), (2, .int v2), (3, .int v3), (4, .int v4), (5, .int v5)] [] := by
  unfold f_X7_nearly_161 at hf
  refine z_iconst (v := 0) F dX7_nearly_161 (by decide +kernel) ?_
  exact z_sub [0, 1, 2, 3, 4, 5] rfl (z_X7_nearly_162 F n hk105 X 0 v1 v2 v3 v4 v5 hf)
set_option maxHeartbeats 4000000 in
set_option maxRecDepth 100000 in
theorem z_X7_nearly_105 {z : ZC} {D : va_G} {cI cZ : ClassId} {ad : Nat → Nat} {R : Int32 × KX} (F : ZF z (yM D cI cZ ad) cX7_nearly RX7 7 (some .int) 3) (n : Nat) : ∀ (t : Nat) (X : KX) (v1 : Int32) (v2 : Int32) (v3 : Int32) (v4 : Int32) (v5 : Int32), f_X7_nearly_105 n t X v1 v2 v3 v4 v5 = some R → Z z (yM D cI cZ ad) 7 (zQI z (yM D cI cZ ad) R) X 105 [(0, .ref (ad 0)), (1, .int v1), (2, .int v2), (3, .int v3), (4, .int v4), (5, .int v5)] [] := by
  intro t
  induction t with
  | zero => intro X v1 v2 v3 v4 v5 hf; rw [f_X7_nearly_105] at hf; exact zNone hf
  | succ t ih =>
    intro X v1 v2 v3 v4 v5 hf
    rw [f_X7_nearly_105] at hf
    refine z_iload F dX7_nearly_105 5 rfl ?_
    refine z_aload_n F dX7_nearly_107 0 rfl rfl ?_
    refine gM_0_13 F wm_775 dX7_nearly_108 ?_
    refine z_bipush (v := 8) F dX7_nearly_111 (by decide +kernel) ?_
    refine lM_6 F hf dX7_nearly_113 (fun hf => ?_)
    refine z_icmp_ge (tgt := 188) F hf dX7_nearly_114 (by decide) (fun hf => ?_) (fun hf => ?_)
    · refine z_aload_n F dX7_nearly_188 0 rfl rfl ?_
      refine z_iload F dX7_nearly_189 4 rfl ?_
      refine k_X7_well F (by decide) wm_852 (Nat.le_of_ble_eq_true rfl) hf dX7_nearly_191 (fun r_1 X_2 hf => ?_)
      exact z_iret F dX7_nearly_194 (Option.some.inj hf)
    · refine z_aload_n F dX7_nearly_117 0 rfl rfl ?_
      refine z_iload F dX7_nearly_118 5 rfl ?_
      refine k_X7_isToCome F (by decide) wm_939 (Nat.le_of_ble_eq_true rfl) hf dX7_nearly_120 (fun r_3 hf => ?_)
      refine z_if_eq (tgt := 161) F hf dX7_nearly_123 (by decide) (fun hf => ?_) (fun hf => ?_)
      · exact z_sub [0, 1, 2, 3, 4, 5] rfl (z_X7_nearly_161 F n ih X v1 v2 v3 v4 v5 hf)
      · refine z_aload_n F dX7_nearly_126 0 rfl rfl ?_
        refine z_iload F dX7_nearly_127 5 rfl ?_
        refine k_X7_dares F (by decide) wm_978 (Nat.le_of_ble_eq_true rfl) hf dX7_nearly_129 (fun r_4 hf => ?_)
        refine z_if_ne (tgt := 161) F hf dX7_nearly_132 (by decide) (fun hf => ?_) (fun hf => ?_)
        · exact z_sub [0, 1, 2, 3, 4, 5] rfl (z_X7_nearly_161 F n ih X v1 v2 v3 v4 v5 hf)
        · refine z_aload_n F dX7_nearly_135 0 rfl rfl ?_
          refine z_iload F dX7_nearly_136 5 rfl ?_
          refine z_bipush (v := 40) F dX7_nearly_138 (by decide +kernel) ?_
          refine z_iload_n F dX7_nearly_140 1 rfl rfl ?_
          refine z_imul F dX7_nearly_141 ?_
          refine z_iload_n F dX7_nearly_142 2 rfl rfl ?_
          refine z_iadd F dX7_nearly_143 ?_
          refine z_iload_n F dX7_nearly_144 3 rfl rfl ?_
          refine k_X7_thinksBy F (by decide) wm_1073 (Nat.le_of_ble_eq_true rfl) hf dX7_nearly_145 (fun r_5 X_6 hf => ?_)
          refine z_aload_n F dX7_nearly_148 0 rfl rfl ?_
          refine gM_0_13 F wm_775 dX7_nearly_149 ?_
          refine z_iconst (v := 1) F dX7_nearly_152 (by decide +kernel) ?_
          refine lM_6 F hf dX7_nearly_153 (fun hf => ?_)
          refine z_icmp_ne (tgt := 161) F hf dX7_nearly_154 (by decide) (fun hf => ?_) (fun hf => ?_)
          · exact z_sub [0, 1, 2, 3, 4, 5] rfl (z_X7_nearly_161 F n ih X_6 v1 v2 v3 v4 v5 hf)
          · refine z_iconst (v := 1) F dX7_nearly_157 (by decide +kernel) ?_
            refine z_goto (tgt := 162) F dX7_nearly_158 (by decide) ?_
            exact z_sub [0, 1, 2, 3, 4, 5] rfl (z_X7_nearly_162 F n ih X_6 1 v1 v2 v3 v4 v5 hf)
set_option maxHeartbeats 4000000 in
set_option maxRecDepth 100000 in
theorem z_X7_nearly_63 {z : ZC} {D : va_G} {cI cZ : ClassId} {ad : Nat → Nat} {R : Int32 × KX} (F : ZF z (yM D cI cZ ad) cX7_nearly RX7 7 (some .int) 3) (n : Nat) : ∀ (t : Nat) (X : KX) (v1 : Int32) (v2 : Int32) (v3 : Int32) (v4 : Int32), f_X7_nearly_63 n t X v1 v2 v3 v4 = some R → Z z (yM D cI cZ ad) 7 (zQI z (yM D cI cZ ad) R) X 63 [(0, .ref (ad 0)), (1, .int v1), (2, .int v2), (3, .int v3), (4, .int v4)] [] := by
  intro t
  induction t with
  | zero => intro X v1 v2 v3 v4 hf; rw [f_X7_nearly_63] at hf; exact zNone hf
  | succ t ih =>
    intro X v1 v2 v3 v4 hf
    rw [f_X7_nearly_63] at hf
    refine z_iload F dX7_nearly_63 4 rfl ?_
    refine z_iload_n F dX7_nearly_65 3 rfl rfl ?_
    refine z_icmp_ge (tgt := 99) F hf dX7_nearly_66 (by decide) (fun hf => ?_) (fun hf => ?_)
    · refine z_iconst (v := 0) F dX7_nearly_99 (by decide +kernel) ?_
      refine z_istore (L' := [(4, .int 0), (0, .ref (ad 0)), (1, .int v1), (2, .int v2), (3, .int v3)]) F dX7_nearly_100 (Nat.le_of_ble_eq_true rfl) rfl ?_
      refine z_iconst (v := 0) F dX7_nearly_102 (by decide +kernel) ?_
      refine z_istore (L' := [(5, .int 0), (4, .int 0), (0, .ref (ad 0)), (1, .int v1), (2, .int v2), (3, .int v3)]) F dX7_nearly_103 (Nat.le_of_ble_eq_true rfl) rfl ?_
      exact z_sub [2, 3, 4, 5, 1, 0] rfl (z_X7_nearly_105 F n n X v1 v2 v3 0 0 hf)
    · refine z_aload_n F dX7_nearly_69 0 rfl rfl ?_
      refine z_aload_n F dX7_nearly_70 0 rfl rfl ?_
      refine gM_0_2 F wm_764 dX7_nearly_71 ?_
      refine z_bipush (v := 40) F dX7_nearly_74 (by decide +kernel) ?_
      refine z_iload_n F dX7_nearly_76 1 rfl rfl ?_
      refine z_imul F dX7_nearly_77 ?_
      refine z_iload_n F dX7_nearly_78 2 rfl rfl ?_
      refine z_iadd F dX7_nearly_79 ?_
      refine z_iload F dX7_nearly_80 4 rfl ?_
      refine z_iadd F dX7_nearly_82 ?_
      refine lM_3 F hf dX7_nearly_83 (fun hf => ?_)
      refine k_X7_isHint F (by decide) wm_956 (Nat.le_of_ble_eq_true rfl) hf dX7_nearly_84 (fun r_1 hf => ?_)
      refine z_if_ne (tgt := 93) F hf dX7_nearly_87 (by decide) (fun hf => ?_) (fun hf => ?_)
      · refine z_iinc (w := 1) (L' := fun v4_2 => [(4, .int v4_2), (0, .ref (ad 0)), (1, .int v1), (2, .int v2), (3, .int v3)]) F hf dX7_nearly_93 4 rfl (by decide +kernel) (Nat.le_of_ble_eq_true rfl) (fun _ => rfl) (fun v4_2 hf => ?_)
        refine z_goto (tgt := 63) F dX7_nearly_96 (by decide) ?_
        exact z_sub [1, 2, 3, 4, 0] rfl (ih X v1 v2 v3 v4_2 hf)
      · refine z_ldc F wm_846 dX7_nearly_90 ?_
        exact z_iret F dX7_nearly_92 (Option.some.inj hf)
set_option maxHeartbeats 4000000 in
set_option maxRecDepth 100000 in
theorem z_X7_nearly {z : ZC} {D : va_G} {cI cZ : ClassId} {ad : Nat → Nat} {R : Int32 × KX} (F : ZF z (yM D cI cZ ad) cX7_nearly RX7 7 (some .int) 3) (n : Nat) (X : KX) (a1 : Int32) (a2 : Int32) (a3 : Int32) (hf : f_X7_nearly n X a1 a2 a3 = some R) : Z z (yM D cI cZ ad) 7 (zQI z (yM D cI cZ ad) R) X 0 [(0, .ref (ad 0)), (1, .int a1), (2, .int a2), (3, .int a3)] [] := by
  unfold f_X7_nearly at hf
  refine z_aload_n F dX7_nearly_0 0 rfl rfl ?_
  refine k_X7_isCastle F (by decide) wm_1045 (Nat.le_of_ble_eq_true rfl) hf dX7_nearly_1 (fun r_1 hf => ?_)
  refine z_if_ne (tgt := 10) F hf dX7_nearly_4 (by decide) (fun hf => ?_) (fun hf => ?_)
  · refine z_iload_n F dX7_nearly_10 1 rfl rfl ?_
    refine k_X7_isRow F (by decide) wm_840 (Nat.le_of_ble_eq_true rfl) dX7_nearly_11 ?_
    refine z_if_eq (tgt := 27) F hf dX7_nearly_14 (by decide) (fun hf => ?_) (fun hf => ?_)
    · refine z_ldc F wm_846 dX7_nearly_27 ?_
      exact z_iret F dX7_nearly_29 (Option.some.inj hf)
    · refine z_iload_n F dX7_nearly_17 3 rfl rfl ?_
      refine z_iconst (v := 0) F dX7_nearly_18 (by decide +kernel) ?_
      refine z_bipush (v := 8) F dX7_nearly_19 (by decide +kernel) ?_
      refine k_X7_in F (by decide) wm_843 (Nat.le_of_ble_eq_true rfl) dX7_nearly_21 ?_
      refine z_if_ne (tgt := 30) F hf dX7_nearly_24 (by decide) (fun hf => ?_) (fun hf => ?_)
      · refine z_aload_n F dX7_nearly_30 0 rfl rfl ?_
        refine z_iload_n F dX7_nearly_31 1 rfl rfl ?_
        refine k_X7_isMissing F (by decide) wm_860 (Nat.le_of_ble_eq_true rfl) hf dX7_nearly_32 (fun r_2 hf => ?_)
        refine z_if_eq (tgt := 44) F hf dX7_nearly_35 (by decide) (fun hf => ?_) (fun hf => ?_)
        · refine z_aload_n F dX7_nearly_44 0 rfl rfl ?_
          refine z_iload_n F dX7_nearly_45 1 rfl rfl ?_
          refine z_iload_n F dX7_nearly_46 2 rfl rfl ?_
          refine z_iload_n F dX7_nearly_47 3 rfl rfl ?_
          refine k_X7_isPart F (by decide) wm_871 (Nat.le_of_ble_eq_true rfl) hf dX7_nearly_48 (fun r_3 hf => ?_)
          refine z_if_ne (tgt := 60) F hf dX7_nearly_51 (by decide) (fun hf => ?_) (fun hf => ?_)
          · refine z_iconst (v := 0) F dX7_nearly_60 (by decide +kernel) ?_
            refine z_istore (L' := [(4, .int 0), (0, .ref (ad 0)), (1, .int a1), (2, .int a2), (3, .int a3)]) F dX7_nearly_61 (Nat.le_of_ble_eq_true rfl) rfl ?_
            exact z_sub [1, 2, 3, 4, 0] rfl (z_X7_nearly_63 F n n X a1 a2 a3 0 hf)
          · refine z_aload_n F dX7_nearly_54 0 rfl rfl ?_
            refine z_iconst (v := 2) F dX7_nearly_55 (by decide +kernel) ?_
            refine k_X7_found F (by decide) wm_847 (Nat.le_of_ble_eq_true rfl) hf dX7_nearly_56 (fun r_4 X_5 hf => ?_)
            exact z_iret F dX7_nearly_59 (Option.some.inj hf)
        · refine z_aload_n F dX7_nearly_38 0 rfl rfl ?_
          refine z_iconst (v := 1) F dX7_nearly_39 (by decide +kernel) ?_
          refine k_X7_found F (by decide) wm_847 (Nat.le_of_ble_eq_true rfl) hf dX7_nearly_40 (fun r_6 X_7 hf => ?_)
          exact z_iret F dX7_nearly_43 (Option.some.inj hf)
      · refine z_ldc F wm_846 dX7_nearly_27 ?_
        exact z_iret F dX7_nearly_29 (Option.some.inj hf)
  · refine z_ldc F wm_947 dX7_nearly_7 ?_
    exact z_iret F dX7_nearly_9 (Option.some.inj hf)
theorem c_X7_nearly {D : va_G} {cI cZ : ClassId} {ad : Nat → Nat} {R : Int32 × KX} (n : Nat) (X : KX) (a1 : Int32) (a2 : Int32) (a3 : Int32) (hf : f_X7_nearly n X a1 a2 a3 = some R) : zMI (yM D cI cZ ad) yX7_nearly cX7_nearly 7 (some .int) 3 [.ref (ad 0), .int a1, .int a2, .int a3] X R := zMI_of (by decide +kernel) (Nat.le_of_ble_eq_true rfl) (fun z F => z_sub [0, 1, 2, 3] rfl (z_X7_nearly F n X a1 a2 a3 hf))
theorem k_X7_nearly {z : ZC} {D : va_G} {cI cZ : ClassId} {ad : Nat → Nat} {cc : ByteArray} {own : String} {nL d pc index : Nat} {ret : Option FieldType} {Q : State → Prop} {X : KX} {L : List (Nat × Value)} {rest : List Value} {n : Nat} {a1 a2 a3 : Int32} (F : ZF z (yM D cI cZ ad) cc own nL ret d) (hd : 3 + 1 ≤ d) (hw : Cond.methodLink own index yX7_nearly ∈ wsA) (hst : (rest.map fun v => v.category).sum ≤ 8) {β : Type} {e : Int32 → KX → Option β} {r : β} (hf : zB2 (f_X7_nearly n X a1 a2 a3) e = some r) (hdg : decode cc pc = .ok (.invokevirtual index, 3)) (kk : ∀ (v : Int32) (X2 : KX), e v X2 = some r → Z z (yM D cI cZ ad) nL Q X2 (pc + 3) L (.int v :: rest)) : Z z (yM D cI cZ ad) nL Q X pc L (.int a3 :: .int a2 :: .int a1 :: .ref (ad 0) :: rest) := by
  obtain ⟨v, X2, h1, h2⟩ := zB2_some hf
  exact z_cVI (As := [.int a1, .int a2, .int a3]) F (c_X7_nearly n X a1 a2 a3 h1) kn_X7_nearly kv_X7_nearly hw (q0 := 0) rfl rfl hd rfl hst hdg rfl (kk v X2 h2)
theorem kv_X7_copies_6_9 : Cond.static yX7_copies ∈ wsA := wm_925
theorem kn_X7_copies_6_9 : zKn yX7_copies cX7_copies 5 none 4 := ⟨wm_926, wm_62, by decide +kernel, by decide⟩
set_option maxHeartbeats 4000000 in
set_option maxRecDepth 100000 in
theorem z_X7_copies_6_9_3 {z : ZC} {D : va_G} {cI cZ : ClassId} {ad : Nat → Nat} {R : KX} (F : ZF z (yM D cI cZ ad) cX7_copies RX7 5 none 1) (n : Nat) : ∀ (t : Nat) (X : KX) (v1 : Int32) (v3 : Int32) (v4 : Int32), f_X7_copies_6_9_3 n t X v1 v3 v4 = some R → Z z (yM D cI cZ ad) 5 (zQV z (yM D cI cZ ad) R) X 3 [(0, .ref (ad 6)), (1, .int v1), (2, .ref (ad 9)), (3, .int v3), (4, .int v4)] [] := by
  intro t
  induction t with
  | zero => intro X v1 v3 v4 hf; rw [f_X7_copies_6_9_3] at hf; exact zNone hf
  | succ t ih =>
    intro X v1 v3 v4 hf
    rw [f_X7_copies_6_9_3] at hf
    refine z_iload F dX7_copies_3 4 rfl ?_
    refine z_bipush (v := 71) F dX7_copies_5 (by decide +kernel) ?_
    refine z_icmp_ge (tgt := 28) F hf dX7_copies_7 (by decide) (fun hf => ?_) (fun hf => ?_)
    · exact z_vret F dX7_copies_28 (Option.some.inj hf)
    · refine z_aload_n F dX7_copies_10 2 rfl rfl ?_
      refine z_iload_n F dX7_copies_11 3 rfl rfl ?_
      refine z_iload F dX7_copies_12 4 rfl ?_
      refine z_iadd F dX7_copies_14 ?_
      refine z_aload_n F dX7_copies_15 0 rfl rfl ?_
      refine z_iload_n F dX7_copies_16 1 rfl rfl ?_
      refine z_iload F dX7_copies_17 4 rfl ?_
      refine z_iadd F dX7_copies_19 ?_
      refine lM_6 F hf dX7_copies_20 (fun hf => ?_)
      refine sM_9 F hf dX7_copies_21 (fun X_1 hf => ?_)
      refine z_iinc (w := 1) (L' := fun v4_2 => [(4, .int v4_2), (0, .ref (ad 6)), (1, .int v1), (2, .ref (ad 9)), (3, .int v3)]) F hf dX7_copies_22 4 rfl (by decide +kernel) (Nat.le_of_ble_eq_true rfl) (fun _ => rfl) (fun v4_2 hf => ?_)
      refine z_goto (tgt := 3) F dX7_copies_25 (by decide) ?_
      exact z_sub [1, 2, 3, 4, 0] rfl (ih X_1 v1 v3 v4_2 hf)
set_option maxHeartbeats 4000000 in
set_option maxRecDepth 100000 in
theorem z_X7_copies_6_9 {z : ZC} {D : va_G} {cI cZ : ClassId} {ad : Nat → Nat} {R : KX} (F : ZF z (yM D cI cZ ad) cX7_copies RX7 5 none 1) (n : Nat) (X : KX) (a1 : Int32) (a3 : Int32) (hf : f_X7_copies_6_9 n X a1 a3 = some R) : Z z (yM D cI cZ ad) 5 (zQV z (yM D cI cZ ad) R) X 0 [(0, .ref (ad 6)), (1, .int a1), (2, .ref (ad 9)), (3, .int a3)] [] := by
  unfold f_X7_copies_6_9 at hf
  refine z_iconst (v := 0) F dX7_copies_0 (by decide +kernel) ?_
  refine z_istore (L' := [(4, .int 0), (0, .ref (ad 6)), (1, .int a1), (2, .ref (ad 9)), (3, .int a3)]) F dX7_copies_1 (Nat.le_of_ble_eq_true rfl) rfl ?_
  exact z_sub [1, 2, 3, 4, 0] rfl (z_X7_copies_6_9_3 F n n X a1 a3 0 hf)
theorem c_X7_copies_6_9 {D : va_G} {cI cZ : ClassId} {ad : Nat → Nat} {R : KX} (n : Nat) (X : KX) (a1 : Int32) (a3 : Int32) (hf : f_X7_copies_6_9 n X a1 a3 = some R) : zMV (yM D cI cZ ad) yX7_copies cX7_copies 5 none 1 [.ref (ad 6), .int a1, .ref (ad 9), .int a3] X R := zMV_of (by decide +kernel) (Nat.le_of_ble_eq_true rfl) (fun z F => z_sub [0, 1, 2, 3] rfl (z_X7_copies_6_9 F n X a1 a3 hf))
theorem k_X7_copies_6_9 {z : ZC} {D : va_G} {cI cZ : ClassId} {ad : Nat → Nat} {cc : ByteArray} {own : String} {nL d pc index : Nat} {ret : Option FieldType} {Q : State → Prop} {X : KX} {L : List (Nat × Value)} {rest : List Value} {n : Nat} {a1 a3 : Int32} (F : ZF z (yM D cI cZ ad) cc own nL ret d) (hd : 1 + 1 ≤ d) (hw : Cond.methodLink own index yX7_copies ∈ wsA) (hst : (rest.map fun v => v.category).sum ≤ 8) {β : Type} {e : KX → Option β} {r : β} (hf : zB1 (f_X7_copies_6_9 n X a1 a3) e = some r) (hdg : decode cc pc = .ok (.invokestatic index, 3)) (kk : ∀ X2 : KX, e X2 = some r → Z z (yM D cI cZ ad) nL Q X2 (pc + 3) L rest) : Z z (yM D cI cZ ad) nL Q X pc L (.int a3 :: .ref (ad 9) :: .int a1 :: .ref (ad 6) :: rest) := by
  obtain ⟨v, h1, h2⟩ := zB1_some hf
  exact z_cSV (As := [.ref (ad 6), .int a1, .ref (ad 9), .int a3]) F (c_X7_copies_6_9 n X a1 a3 h1) kn_X7_copies_6_9 kv_X7_copies_6_9 hw hd rfl hst hdg rfl (kk v h2)
theorem kv_X7_image : zKv yX7_image := ⟨wm_1078, wm_1079⟩
theorem kn_X7_image : zKn yX7_image cX7_image 2 (some .int) 1 := ⟨wm_1080, wm_62, by decide +kernel, by decide⟩
set_option maxHeartbeats 4000000 in
set_option maxRecDepth 100000 in
theorem z_X7_image {z : ZC} {D : va_G} {cI cZ : ClassId} {ad : Nat → Nat} {R : Int32 × KX} (F : ZF z (yM D cI cZ ad) cX7_image RX7 2 (some .int) 2) (n : Nat) (X : KX) (a1 : Int32) (hf : f_X7_image n X a1 = some R) : Z z (yM D cI cZ ad) 2 (zQI z (yM D cI cZ ad) R) X 0 [(0, .ref (ad 0)), (1, .int a1)] [] := by
  unfold f_X7_image at hf
  refine z_iload_n F dX7_image_0 1 rfl rfl ?_
  refine z_iconst (v := 0) F dX7_image_1 (by decide +kernel) ?_
  refine z_iconst (v := 1) F dX7_image_2 (by decide +kernel) ?_
  refine k_X7_in F (by decide) wm_843 (Nat.le_of_ble_eq_true rfl) dX7_image_3 ?_
  refine z_if_ne (tgt := 12) F hf dX7_image_6 (by decide) (fun hf => ?_) (fun hf => ?_)
  · refine z_aload_n F dX7_image_12 0 rfl rfl ?_
    refine k_X7_isCastle F (by decide) wm_1045 (Nat.le_of_ble_eq_true rfl) hf dX7_image_13 (fun r_1 hf => ?_)
    refine z_if_ne (tgt := 22) F hf dX7_image_16 (by decide) (fun hf => ?_) (fun hf => ?_)
    · refine z_aload_n F dX7_image_22 0 rfl rfl ?_
      refine gM_0_13 F wm_775 dX7_image_23 ?_
      refine z_iconst (v := 0) F dX7_image_26 (by decide +kernel) ?_
      refine z_aload_n F dX7_image_27 0 rfl rfl ?_
      refine gM_0_17 F wm_779 dX7_image_28 ?_
      refine z_bipush (v := 71) F dX7_image_31 (by decide +kernel) ?_
      refine z_iload_n F dX7_image_33 1 rfl rfl ?_
      refine z_imul F dX7_image_34 ?_
      refine k_X7_copies_6_9 F (by decide) wm_924 (Nat.le_of_ble_eq_true rfl) hf dX7_image_35 (fun X_2 hf => ?_)
      refine z_aload_n F dX7_image_38 0 rfl rfl ?_
      refine gM_0_18 F wm_780 dX7_image_39 ?_
      refine z_iload_n F dX7_image_42 1 rfl rfl ?_
      refine z_iconst (v := 1) F dX7_image_43 (by decide +kernel) ?_
      refine sM_10 F hf dX7_image_44 (fun X_3 hf => ?_)
      refine z_iconst (v := 1) F dX7_image_45 (by decide +kernel) ?_
      exact z_iret F dX7_image_46 (Option.some.inj hf)
    · refine z_ldc F wm_947 dX7_image_19 ?_
      exact z_iret F dX7_image_21 (Option.some.inj hf)
  · refine z_ldc F wm_846 dX7_image_9 ?_
    exact z_iret F dX7_image_11 (Option.some.inj hf)
theorem c_X7_image {D : va_G} {cI cZ : ClassId} {ad : Nat → Nat} {R : Int32 × KX} (n : Nat) (X : KX) (a1 : Int32) (hf : f_X7_image n X a1 = some R) : zMI (yM D cI cZ ad) yX7_image cX7_image 2 (some .int) 2 [.ref (ad 0), .int a1] X R := zMI_of (by decide +kernel) (Nat.le_of_ble_eq_true rfl) (fun z F => z_sub [0, 1] rfl (z_X7_image F n X a1 hf))
theorem k_X7_image {z : ZC} {D : va_G} {cI cZ : ClassId} {ad : Nat → Nat} {cc : ByteArray} {own : String} {nL d pc index : Nat} {ret : Option FieldType} {Q : State → Prop} {X : KX} {L : List (Nat × Value)} {rest : List Value} {n : Nat} {a1 : Int32} (F : ZF z (yM D cI cZ ad) cc own nL ret d) (hd : 2 + 1 ≤ d) (hw : Cond.methodLink own index yX7_image ∈ wsA) (hst : (rest.map fun v => v.category).sum ≤ 8) {β : Type} {e : Int32 → KX → Option β} {r : β} (hf : zB2 (f_X7_image n X a1) e = some r) (hdg : decode cc pc = .ok (.invokevirtual index, 3)) (kk : ∀ (v : Int32) (X2 : KX), e v X2 = some r → Z z (yM D cI cZ ad) nL Q X2 (pc + 3) L (.int v :: rest)) : Z z (yM D cI cZ ad) nL Q X pc L (.int a1 :: .ref (ad 0) :: rest) := by
  obtain ⟨v, X2, h1, h2⟩ := zB2_some hf
  exact z_cVI (As := [.int a1]) F (c_X7_image n X a1 h1) kn_X7_image kv_X7_image hw (q0 := 0) rfl rfl hd rfl hst hdg rfl (kk v X2 h2)
theorem kv_X7_copies_9_6 : Cond.static yX7_copies ∈ wsA := wm_925
theorem kn_X7_copies_9_6 : zKn yX7_copies cX7_copies 5 none 4 := ⟨wm_926, wm_62, by decide +kernel, by decide⟩
set_option maxHeartbeats 4000000 in
set_option maxRecDepth 100000 in
theorem z_X7_copies_9_6_3 {z : ZC} {D : va_G} {cI cZ : ClassId} {ad : Nat → Nat} {R : KX} (F : ZF z (yM D cI cZ ad) cX7_copies RX7 5 none 1) (n : Nat) : ∀ (t : Nat) (X : KX) (v1 : Int32) (v3 : Int32) (v4 : Int32), f_X7_copies_9_6_3 n t X v1 v3 v4 = some R → Z z (yM D cI cZ ad) 5 (zQV z (yM D cI cZ ad) R) X 3 [(0, .ref (ad 9)), (1, .int v1), (2, .ref (ad 6)), (3, .int v3), (4, .int v4)] [] := by
  intro t
  induction t with
  | zero => intro X v1 v3 v4 hf; rw [f_X7_copies_9_6_3] at hf; exact zNone hf
  | succ t ih =>
    intro X v1 v3 v4 hf
    rw [f_X7_copies_9_6_3] at hf
    refine z_iload F dX7_copies_3 4 rfl ?_
    refine z_bipush (v := 71) F dX7_copies_5 (by decide +kernel) ?_
    refine z_icmp_ge (tgt := 28) F hf dX7_copies_7 (by decide) (fun hf => ?_) (fun hf => ?_)
    · exact z_vret F dX7_copies_28 (Option.some.inj hf)
    · refine z_aload_n F dX7_copies_10 2 rfl rfl ?_
      refine z_iload_n F dX7_copies_11 3 rfl rfl ?_
      refine z_iload F dX7_copies_12 4 rfl ?_
      refine z_iadd F dX7_copies_14 ?_
      refine z_aload_n F dX7_copies_15 0 rfl rfl ?_
      refine z_iload_n F dX7_copies_16 1 rfl rfl ?_
      refine z_iload F dX7_copies_17 4 rfl ?_
      refine z_iadd F dX7_copies_19 ?_
      refine lM_9 F hf dX7_copies_20 (fun hf => ?_)
      refine sM_6 F hf dX7_copies_21 (fun X_1 hf => ?_)
      refine z_iinc (w := 1) (L' := fun v4_2 => [(4, .int v4_2), (0, .ref (ad 9)), (1, .int v1), (2, .ref (ad 6)), (3, .int v3)]) F hf dX7_copies_22 4 rfl (by decide +kernel) (Nat.le_of_ble_eq_true rfl) (fun _ => rfl) (fun v4_2 hf => ?_)
      refine z_goto (tgt := 3) F dX7_copies_25 (by decide) ?_
      exact z_sub [1, 2, 3, 4, 0] rfl (ih X_1 v1 v3 v4_2 hf)
set_option maxHeartbeats 4000000 in
set_option maxRecDepth 100000 in
theorem z_X7_copies_9_6 {z : ZC} {D : va_G} {cI cZ : ClassId} {ad : Nat → Nat} {R : KX} (F : ZF z (yM D cI cZ ad) cX7_copies RX7 5 none 1) (n : Nat) (X : KX) (a1 : Int32) (a3 : Int32) (hf : f_X7_copies_9_6 n X a1 a3 = some R) : Z z (yM D cI cZ ad) 5 (zQV z (yM D cI cZ ad) R) X 0 [(0, .ref (ad 9)), (1, .int a1), (2, .ref (ad 6)), (3, .int a3)] [] := by
  unfold f_X7_copies_9_6 at hf
  refine z_iconst (v := 0) F dX7_copies_0 (by decide +kernel) ?_
  refine z_istore (L' := [(4, .int 0), (0, .ref (ad 9)), (1, .int a1), (2, .ref (ad 6)), (3, .int a3)]) F dX7_copies_1 (Nat.le_of_ble_eq_true rfl) rfl ?_
  exact z_sub [1, 2, 3, 4, 0] rfl (z_X7_copies_9_6_3 F n n X a1 a3 0 hf)
theorem c_X7_copies_9_6 {D : va_G} {cI cZ : ClassId} {ad : Nat → Nat} {R : KX} (n : Nat) (X : KX) (a1 : Int32) (a3 : Int32) (hf : f_X7_copies_9_6 n X a1 a3 = some R) : zMV (yM D cI cZ ad) yX7_copies cX7_copies 5 none 1 [.ref (ad 9), .int a1, .ref (ad 6), .int a3] X R := zMV_of (by decide +kernel) (Nat.le_of_ble_eq_true rfl) (fun z F => z_sub [0, 1, 2, 3] rfl (z_X7_copies_9_6 F n X a1 a3 hf))
theorem k_X7_copies_9_6 {z : ZC} {D : va_G} {cI cZ : ClassId} {ad : Nat → Nat} {cc : ByteArray} {own : String} {nL d pc index : Nat} {ret : Option FieldType} {Q : State → Prop} {X : KX} {L : List (Nat × Value)} {rest : List Value} {n : Nat} {a1 a3 : Int32} (F : ZF z (yM D cI cZ ad) cc own nL ret d) (hd : 1 + 1 ≤ d) (hw : Cond.methodLink own index yX7_copies ∈ wsA) (hst : (rest.map fun v => v.category).sum ≤ 8) {β : Type} {e : KX → Option β} {r : β} (hf : zB1 (f_X7_copies_9_6 n X a1 a3) e = some r) (hdg : decode cc pc = .ok (.invokestatic index, 3)) (kk : ∀ X2 : KX, e X2 = some r → Z z (yM D cI cZ ad) nL Q X2 (pc + 3) L rest) : Z z (yM D cI cZ ad) nL Q X pc L (.int a3 :: .ref (ad 6) :: .int a1 :: .ref (ad 9) :: rest) := by
  obtain ⟨v, h1, h2⟩ := zB1_some hf
  exact z_cSV (As := [.ref (ad 9), .int a1, .ref (ad 6), .int a3]) F (c_X7_copies_9_6 n X a1 a3 h1) kn_X7_copies_9_6 kv_X7_copies_9_6 hw hd rfl hst hdg rfl (kk v h2)
theorem kv_X7_restore : zKv yX7_restore := ⟨wm_1082, wm_1083⟩
theorem kn_X7_restore : zKn yX7_restore cX7_restore 2 (some .int) 1 := ⟨wm_1084, wm_62, by decide +kernel, by decide⟩
set_option maxHeartbeats 4000000 in
set_option maxRecDepth 100000 in
theorem z_X7_restore {z : ZC} {D : va_G} {cI cZ : ClassId} {ad : Nat → Nat} {R : Int32 × KX} (F : ZF z (yM D cI cZ ad) cX7_restore RX7 2 (some .int) 2) (n : Nat) (X : KX) (a1 : Int32) (hf : f_X7_restore n X a1 = some R) : Z z (yM D cI cZ ad) 2 (zQI z (yM D cI cZ ad) R) X 0 [(0, .ref (ad 0)), (1, .int a1)] [] := by
  unfold f_X7_restore at hf
  refine z_iload_n F dX7_restore_0 1 rfl rfl ?_
  refine z_iconst (v := 0) F dX7_restore_1 (by decide +kernel) ?_
  refine z_iconst (v := 1) F dX7_restore_2 (by decide +kernel) ?_
  refine k_X7_in F (by decide) wm_843 (Nat.le_of_ble_eq_true rfl) dX7_restore_3 ?_
  refine z_if_ne (tgt := 12) F hf dX7_restore_6 (by decide) (fun hf => ?_) (fun hf => ?_)
  · refine z_aload_n F dX7_restore_12 0 rfl rfl ?_
    refine gM_0_18 F wm_780 dX7_restore_13 ?_
    refine z_iload_n F dX7_restore_16 1 rfl rfl ?_
    refine lM_10 F hf dX7_restore_17 (fun hf => ?_)
    refine z_if_ne (tgt := 24) F hf dX7_restore_18 (by decide) (fun hf => ?_) (fun hf => ?_)
    · refine z_aload_n F dX7_restore_24 0 rfl rfl ?_
      refine gM_0_17 F wm_779 dX7_restore_25 ?_
      refine z_bipush (v := 71) F dX7_restore_28 (by decide +kernel) ?_
      refine z_iload_n F dX7_restore_30 1 rfl rfl ?_
      refine z_imul F dX7_restore_31 ?_
      refine z_aload_n F dX7_restore_32 0 rfl rfl ?_
      refine gM_0_13 F wm_775 dX7_restore_33 ?_
      refine z_iconst (v := 0) F dX7_restore_36 (by decide +kernel) ?_
      refine k_X7_copies_9_6 F (by decide) wm_924 (Nat.le_of_ble_eq_true rfl) hf dX7_restore_37 (fun X_1 hf => ?_)
      refine z_aload_n F dX7_restore_40 0 rfl rfl ?_
      refine z_iconst (v := 0) F dX7_restore_41 (by decide +kernel) ?_
      refine pM_0_16 F hf wm_778 dX7_restore_42 (fun X_2 hf => ?_)
      refine z_iconst (v := 1) F dX7_restore_45 (by decide +kernel) ?_
      exact z_iret F dX7_restore_46 (Option.some.inj hf)
    · refine z_ldc F wm_947 dX7_restore_21 ?_
      exact z_iret F dX7_restore_23 (Option.some.inj hf)
  · refine z_ldc F wm_846 dX7_restore_9 ?_
    exact z_iret F dX7_restore_11 (Option.some.inj hf)
theorem c_X7_restore {D : va_G} {cI cZ : ClassId} {ad : Nat → Nat} {R : Int32 × KX} (n : Nat) (X : KX) (a1 : Int32) (hf : f_X7_restore n X a1 = some R) : zMI (yM D cI cZ ad) yX7_restore cX7_restore 2 (some .int) 2 [.ref (ad 0), .int a1] X R := zMI_of (by decide +kernel) (Nat.le_of_ble_eq_true rfl) (fun z F => z_sub [0, 1] rfl (z_X7_restore F n X a1 hf))
theorem k_X7_restore {z : ZC} {D : va_G} {cI cZ : ClassId} {ad : Nat → Nat} {cc : ByteArray} {own : String} {nL d pc index : Nat} {ret : Option FieldType} {Q : State → Prop} {X : KX} {L : List (Nat × Value)} {rest : List Value} {n : Nat} {a1 : Int32} (F : ZF z (yM D cI cZ ad) cc own nL ret d) (hd : 2 + 1 ≤ d) (hw : Cond.methodLink own index yX7_restore ∈ wsA) (hst : (rest.map fun v => v.category).sum ≤ 8) {β : Type} {e : Int32 → KX → Option β} {r : β} (hf : zB2 (f_X7_restore n X a1) e = some r) (hdg : decode cc pc = .ok (.invokevirtual index, 3)) (kk : ∀ (v : Int32) (X2 : KX), e v X2 = some r → Z z (yM D cI cZ ad) nL Q X2 (pc + 3) L (.int v :: rest)) : Z z (yM D cI cZ ad) nL Q X pc L (.int a1 :: .ref (ad 0) :: rest) := by
  obtain ⟨v, X2, h1, h2⟩ := zB2_some hf
  exact z_cVI (As := [.int a1]) F (c_X7_restore n X a1 h1) kn_X7_restore kv_X7_restore hw (q0 := 0) rfl rfl hd rfl hst hdg rfl (kk v X2 h2)
theorem kv_X7_kindIn : zKv yX7_kindIn := ⟨wm_1091, wm_48⟩
theorem kn_X7_kindIn : zKn yX7_kindIn cX7_kindIn 2 (some .int) 1 := ⟨wm_1092, wm_62, by decide +kernel, by decide⟩
set_option maxHeartbeats 4000000 in
set_option maxRecDepth 100000 in
theorem z_X7_kindIn {z : ZC} {D : va_G} {cI cZ : ClassId} {ad : Nat → Nat} {r : Int32} (F : ZF z (yM D cI cZ ad) cX7_kindIn RX7 2 (some .int) 1) (X : KX) (a1 : Int32) (hf : f_X7_kindIn X a1 = some r) : Z z (yM D cI cZ ad) 2 (zQI z (yM D cI cZ ad) (r, X)) X 0 [(0, .ref (ad 0)), (1, .int a1)] [] := by
  unfold f_X7_kindIn at hf
  refine z_aload_n F dX7_kindIn_0 0 rfl rfl ?_
  refine gM_0_13 F wm_775 dX7_kindIn_1 ?_
  refine z_bipush (v := 9) F dX7_kindIn_4 (by decide +kernel) ?_
  refine z_iconst (v := 4) F dX7_kindIn_6 (by decide +kernel) ?_
  refine z_iload_n F dX7_kindIn_7 1 rfl rfl ?_
  refine z_imul F dX7_kindIn_8 ?_
  refine z_iadd F dX7_kindIn_9 ?_
  refine lM_6 F hf dX7_kindIn_10 (fun hf => ?_)
  exact z_iret F dX7_kindIn_11 (Prod.ext (Option.some.inj hf) rfl)
theorem c_X7_kindIn {D : va_G} {cI cZ : ClassId} {ad : Nat → Nat} {r : Int32} (X : KX) (a1 : Int32) (hf : f_X7_kindIn X a1 = some r) : zMI (yM D cI cZ ad) yX7_kindIn cX7_kindIn 2 (some .int) 1 [.ref (ad 0), .int a1] X (r, X) := zMI_of (by decide +kernel) (Nat.le_of_ble_eq_true rfl) (fun z F => z_sub [0, 1] rfl (z_X7_kindIn F X a1 hf))
theorem k_X7_kindIn {z : ZC} {D : va_G} {cI cZ : ClassId} {ad : Nat → Nat} {cc : ByteArray} {own : String} {nL d pc index : Nat} {ret : Option FieldType} {Q : State → Prop} {X : KX} {L : List (Nat × Value)} {rest : List Value} {a1 : Int32} (F : ZF z (yM D cI cZ ad) cc own nL ret d) (hd : 1 + 1 ≤ d) (hw : Cond.methodLink own index yX7_kindIn ∈ wsA) (hst : (rest.map fun v => v.category).sum ≤ 8) {β : Type} {e : Int32 → Option β} {r : β} (hf : zB1 (f_X7_kindIn X a1) e = some r) (hdg : decode cc pc = .ok (.invokevirtual index, 3)) (kk : ∀ v : Int32, e v = some r → Z z (yM D cI cZ ad) nL Q X (pc + 3) L (.int v :: rest)) : Z z (yM D cI cZ ad) nL Q X pc L (.int a1 :: .ref (ad 0) :: rest) := by
  obtain ⟨v, h1, h2⟩ := zB1_some hf
  exact z_cVI (As := [.int a1]) F (c_X7_kindIn X a1 h1) kn_X7_kindIn kv_X7_kindIn hw (q0 := 0) rfl rfl hd rfl hst hdg rfl (kk v h2)
theorem kv_X7_kind : zKv yX7_kind := ⟨wm_1086, wm_1087⟩
theorem kn_X7_kind : zKn yX7_kind cX7_kind 2 (some .int) 1 := ⟨wm_1088, wm_62, by decide +kernel, by decide⟩
set_option maxHeartbeats 4000000 in
set_option maxRecDepth 100000 in
theorem z_X7_kind {z : ZC} {D : va_G} {cI cZ : ClassId} {ad : Nat → Nat} {r : Int32} (F : ZF z (yM D cI cZ ad) cX7_kind RX7 2 (some .int) 3) (X : KX) (a1 : Int32) (hf : f_X7_kind X a1 = some r) : Z z (yM D cI cZ ad) 2 (zQI z (yM D cI cZ ad) (r, X)) X 0 [(0, .ref (ad 0)), (1, .int a1)] [] := by
  unfold f_X7_kind at hf
  refine z_aload_n F dX7_kind_0 0 rfl rfl ?_
  refine z_iload_n F dX7_kind_1 1 rfl rfl ?_
  refine k_X7_isHint F (by decide) wm_956 (Nat.le_of_ble_eq_true rfl) hf dX7_kind_2 (fun r_1 hf => ?_)
  refine z_if_eq (tgt := 16) F hf dX7_kind_5 (by decide) (fun hf => ?_) (fun hf => ?_)
  · refine z_ldc F wm_846 dX7_kind_16 ?_
    exact z_iret F dX7_kind_18 (Prod.ext (Option.some.inj hf) rfl)
  · refine z_aload_n F dX7_kind_8 0 rfl rfl ?_
    refine z_iload_n F dX7_kind_9 1 rfl rfl ?_
    refine k_X7_kindIn F (by decide) wm_1089 (Nat.le_of_ble_eq_true rfl) hf dX7_kind_10 (fun r_2 hf => ?_)
    refine z_goto (tgt := 18) F dX7_kind_13 (by decide) ?_
    exact z_iret F dX7_kind_18 (Prod.ext (Option.some.inj hf) rfl)
theorem c_X7_kind {D : va_G} {cI cZ : ClassId} {ad : Nat → Nat} {r : Int32} (X : KX) (a1 : Int32) (hf : f_X7_kind X a1 = some r) : zMI (yM D cI cZ ad) yX7_kind cX7_kind 2 (some .int) 3 [.ref (ad 0), .int a1] X (r, X) := zMI_of (by decide +kernel) (Nat.le_of_ble_eq_true rfl) (fun z F => z_sub [0, 1] rfl (z_X7_kind F X a1 hf))
theorem k_X7_kind {z : ZC} {D : va_G} {cI cZ : ClassId} {ad : Nat → Nat} {cc : ByteArray} {own : String} {nL d pc index : Nat} {ret : Option FieldType} {Q : State → Prop} {X : KX} {L : List (Nat × Value)} {rest : List Value} {a1 : Int32} (F : ZF z (yM D cI cZ ad) cc own nL ret d) (hd : 3 + 1 ≤ d) (hw : Cond.methodLink own index yX7_kind ∈ wsA) (hst : (rest.map fun v => v.category).sum ≤ 8) {β : Type} {e : Int32 → Option β} {r : β} (hf : zB1 (f_X7_kind X a1) e = some r) (hdg : decode cc pc = .ok (.invokevirtual index, 3)) (kk : ∀ v : Int32, e v = some r → Z z (yM D cI cZ ad) nL Q X (pc + 3) L (.int v :: rest)) : Z z (yM D cI cZ ad) nL Q X pc L (.int a1 :: .ref (ad 0) :: rest) := by
  obtain ⟨v, h1, h2⟩ := zB1_some hf
  exact z_cVI (As := [.int a1]) F (c_X7_kind X a1 h1) kn_X7_kind kv_X7_kind hw (q0 := 0) rfl rfl hd rfl hst hdg rfl (kk v h2)
theorem kv_X7_as : zKv yX7_as := ⟨wm_1094, wm_1095⟩
theorem kn_X7_as : zKn yX7_as cX7_as 5 (some .int) 2 := ⟨wm_1096, wm_62, by decide +kernel, by decide⟩
set_option maxHeartbeats 4000000 in
set_option maxRecDepth 100000 in
theorem z_X7_as_60 {z : ZC} {D : va_G} {cI cZ : ClassId} {ad : Nat → Nat} {R : Int32 × KX} (F : ZF z (yM D cI cZ ad) cX7_as RX7 5 (some .int) 3)  (X : KX) (s0 : Int32) (v1 : Int32) (hf : f_X7_as_60 X s0 v1 = some R) : Z z (yM D cI cZ ad) 5 (zQI z (yM D cI cZ ad) R) X 60 [(0, .ref (ad 0)), (1, .int v1)] [.int s0] := by
  unfold f_X7_as_60 at hf
  refine z_istore (L' := [(4, .int s0), (0, .ref (ad 0)), (1, .int v1)]) F dX7_as_60 (Nat.le_of_ble_eq_true rfl) rfl ?_
  refine z_iload F dX7_as_62 0 rfl ?_
  refine z_if_eq (tgt := 75) F hf dX7_as_64 (by decide) (fun hf => ?_) (fun hf => ?_)
  · refine z_aload_n F dX7_as_75 1 rfl rfl ?_
    refine z_iconst (v := 3) F dX7_as_76 (by decide +kernel) ?_
    refine k_X7_found F (by decide) wm_847 (Nat.le_of_ble_eq_true rfl) hf dX7_as_77 (fun r_1 X_2 hf => ?_)
    exact z_iret F dX7_as_80 (Option.some.inj hf)
  · refine z_aload_n F dX7_as_67 1 rfl rfl ?_
    refine z_iload_n F dX7_as_68 2 rfl rfl ?_
    refine k_X7_well F (by decide) wm_852 (Nat.le_of_ble_eq_true rfl) hf dX7_as_69 (fun r_3 X_4 hf => ?_)
    refine z_goto (tgt := 80) F dX7_as_72 (by decide) ?_
    exact z_iret F dX7_as_80 (Option.some.inj hf)
set_option maxHeartbeats 4000000 in
set_option maxRecDepth 100000 in
theorem z_X7_as_59 {z : ZC} {D : va_G} {cI cZ : ClassId} {ad : Nat → Nat} {R : Int32 × KX} (F : ZF z (yM D cI cZ ad) cX7_as RX7 5 (some .int) 3)  (X : KX) (v1 : Int32) (hf : f_X7_as_59 X v1 = some R) : Z z (yM D cI cZ ad) 5 (zQI z (yM D cI cZ ad) R) X 59 [(0, .ref (ad 0)), (1, .int v1)] [] := by
  unfold f_X7_as_59 at hf
  refine z_iconst (v := 0) F dX7_as_59 (by decide +kernel) ?_
  exact z_sub [0, 1] rfl (z_X7_as_60 F X 0 v1 hf)
set_option maxHeartbeats 4000000 in
set_option maxRecDepth 100000 in
theorem z_X7_as_55 {z : ZC} {D : va_G} {cI cZ : ClassId} {ad : Nat → Nat} {R : Int32 × KX} (F : ZF z (yM D cI cZ ad) cX7_as RX7 5 (some .int) 3)  (X : KX) (v1 : Int32) (hf : f_X7_as_55 X v1 = some R) : Z z (yM D cI cZ ad) 5 (zQI z (yM D cI cZ ad) R) X 55 [(0, .ref (ad 0)), (1, .int v1)] [] := by
  unfold f_X7_as_55 at hf
  refine z_iconst (v := 1) F dX7_as_55 (by decide +kernel) ?_
  refine z_goto (tgt := 60) F dX7_as_56 (by decide) ?_
  exact z_sub [0, 1] rfl (z_X7_as_60 F X 1 v1 hf)
set_option maxHeartbeats 4000000 in
set_option maxRecDepth 100000 in
theorem z_X7_as_45 {z : ZC} {D : va_G} {cI cZ : ClassId} {ad : Nat → Nat} {R : Int32 × KX} (F : ZF z (yM D cI cZ ad) cX7_as RX7 5 (some .int) 3)  (X : KX) (v1 : Int32) (v2 : Int32) (v3 : Int32) (hf : f_X7_as_45 X v1 v2 v3 = some R) : Z z (yM D cI cZ ad) 5 (zQI z (yM D cI cZ ad) R) X 45 [(0, .ref (ad 0)), (1, .int v1), (2, .int v2), (3, .int v3)] [] := by
  unfold f_X7_as_45 at hf
  refine z_iload_n F dX7_as_45 2 rfl rfl ?_
  refine z_iconst (v := 4) F dX7_as_46 (by decide +kernel) ?_
  refine z_icmp_ne (tgt := 59) F hf dX7_as_47 (by decide) (fun hf => ?_) (fun hf => ?_)
  · exact z_sub [0, 1] rfl (z_X7_as_59 F X v1 hf)
  · refine z_iload_n F dX7_as_50 3 rfl rfl ?_
    refine z_iconst (v := 5) F dX7_as_51 (by decide +kernel) ?_
    refine z_icmp_ne (tgt := 59) F hf dX7_as_52 (by decide) (fun hf => ?_) (fun hf => ?_)
    · exact z_sub [0, 1] rfl (z_X7_as_59 F X v1 hf)
    · exact z_sub [0, 1] rfl (z_X7_as_55 F X v1 hf)
set_option maxHeartbeats 4000000 in
set_option maxRecDepth 100000 in
theorem z_X7_as {z : ZC} {D : va_G} {cI cZ : ClassId} {ad : Nat → Nat} {R : Int32 × KX} (F : ZF z (yM D cI cZ ad) cX7_as RX7 5 (some .int) 3) (X : KX) (a1 : Int32) (a2 : Int32) (hf : f_X7_as X a1 a2 = some R) : Z z (yM D cI cZ ad) 5 (zQI z (yM D cI cZ ad) R) X 0 [(0, .ref (ad 0)), (1, .int a1), (2, .int a2)] [] := by
  unfold f_X7_as at hf
  refine z_aload_n F dX7_as_0 0 rfl rfl ?_
  refine z_iload_n F dX7_as_1 1 rfl rfl ?_
  refine k_X7_isHint F (by decide) wm_956 (Nat.le_of_ble_eq_true rfl) hf dX7_as_2 (fun r_1 hf => ?_)
  refine z_if_eq (tgt := 17) F hf dX7_as_5 (by decide) (fun hf => ?_) (fun hf => ?_)
  · refine z_ldc F wm_846 dX7_as_17 ?_
    exact z_iret F dX7_as_19 (Option.some.inj hf)
  · refine z_iload_n F dX7_as_8 2 rfl rfl ?_
    refine z_iconst (v := 0) F dX7_as_9 (by decide +kernel) ?_
    refine z_iconst (v := 5) F dX7_as_10 (by decide +kernel) ?_
    refine k_X7_in F (by decide) wm_843 (Nat.le_of_ble_eq_true rfl) dX7_as_11 ?_
    refine z_if_ne (tgt := 20) F hf dX7_as_14 (by decide) (fun hf => ?_) (fun hf => ?_)
    · refine z_aload_n F dX7_as_20 0 rfl rfl ?_
      refine z_iload_n F dX7_as_21 1 rfl rfl ?_
      refine k_X7_kindIn F (by decide) wm_1089 (Nat.le_of_ble_eq_true rfl) hf dX7_as_22 (fun r_2 hf => ?_)
      refine z_istore_n (L' := [(3, .int r_2), (0, .ref (ad 0)), (1, .int a1), (2, .int a2)]) F dX7_as_25 rfl (Nat.le_of_ble_eq_true rfl) rfl ?_
      refine z_iload_n F dX7_as_26 3 rfl rfl ?_
      refine z_if_eq (tgt := 55) F hf dX7_as_27 (by decide) (fun hf => ?_) (fun hf => ?_)
      · exact z_sub [1, 2] rfl (z_X7_as_55 F X a1 hf)
      · refine z_iload_n F dX7_as_30 3 rfl rfl ?_
        refine z_iload_n F dX7_as_31 0 rfl rfl ?_
        refine z_icmp_eq (tgt := 55) F hf dX7_as_32 (by decide) (fun hf => ?_) (fun hf => ?_)
        · exact z_sub [1, 2] rfl (z_X7_as_55 F X a1 hf)
        · refine z_iload_n F dX7_as_35 3 rfl rfl ?_
          refine z_iconst (v := 1) F dX7_as_36 (by decide +kernel) ?_
          refine z_icmp_ne (tgt := 45) F hf dX7_as_37 (by decide) (fun hf => ?_) (fun hf => ?_)
          · exact z_sub [1, 2, 3, 0] rfl (z_X7_as_45 F X a1 a2 r_2 hf)
          · refine z_iload_n F dX7_as_40 0 rfl rfl ?_
            refine z_iconst (v := 4) F dX7_as_41 (by decide +kernel) ?_
            refine z_icmp_lt (tgt := 55) F hf dX7_as_42 (by decide) (fun hf => ?_) (fun hf => ?_)
            · exact z_sub [1, 2] rfl (z_X7_as_55 F X a1 hf)
            · exact z_sub [1, 2, 3, 0] rfl (z_X7_as_45 F X a1 a2 r_2 hf)
    · refine z_ldc F wm_846 dX7_as_17 ?_
      exact z_iret F dX7_as_19 (Option.some.inj hf)
theorem c_X7_as {D : va_G} {cI cZ : ClassId} {ad : Nat → Nat} {R : Int32 × KX} (X : KX) (a1 : Int32) (a2 : Int32) (hf : f_X7_as X a1 a2 = some R) : zMI (yM D cI cZ ad) yX7_as cX7_as 5 (some .int) 3 [.ref (ad 0), .int a1, .int a2] X R := zMI_of (by decide +kernel) (Nat.le_of_ble_eq_true rfl) (fun z F => z_sub [0, 1, 2] rfl (z_X7_as F X a1 a2 hf))
theorem k_X7_as {z : ZC} {D : va_G} {cI cZ : ClassId} {ad : Nat → Nat} {cc : ByteArray} {own : String} {nL d pc index : Nat} {ret : Option FieldType} {Q : State → Prop} {X : KX} {L : List (Nat × Value)} {rest : List Value} {a1 a2 : Int32} (F : ZF z (yM D cI cZ ad) cc own nL ret d) (hd : 3 + 1 ≤ d) (hw : Cond.methodLink own index yX7_as ∈ wsA) (hst : (rest.map fun v => v.category).sum ≤ 8) {β : Type} {e : Int32 → KX → Option β} {r : β} (hf : zB2 (f_X7_as X a1 a2) e = some r) (hdg : decode cc pc = .ok (.invokevirtual index, 3)) (kk : ∀ (v : Int32) (X2 : KX), e v X2 = some r → Z z (yM D cI cZ ad) nL Q X2 (pc + 3) L (.int v :: rest)) : Z z (yM D cI cZ ad) nL Q X pc L (.int a2 :: .int a1 :: .ref (ad 0) :: rest) := by
  obtain ⟨v, X2, h1, h2⟩ := zB2_some hf
  exact z_cVI (As := [.int a1, .int a2]) F (c_X7_as X a1 a2 h1) kn_X7_as kv_X7_as hw (q0 := 0) rfl rfl hd rfl hst hdg rfl (kk v X2 h2)
theorem kv_X7_begins : zKv yX7_begins := ⟨wm_1107, wm_50⟩
theorem kn_X7_begins : zKn yX7_begins cX7_begins 2 none 1 := ⟨wm_1108, wm_62, by decide +kernel, by decide⟩
set_option maxHeartbeats 4000000 in
set_option maxRecDepth 100000 in
theorem z_X7_begins {z : ZC} {D : va_G} {cI cZ : ClassId} {ad : Nat → Nat} {R : KX} (F : ZF z (yM D cI cZ ad) cX7_begins RX7 2 none 1) (X : KX) (a1 : Int32) (hf : f_X7_begins X a1 = some R) : Z z (yM D cI cZ ad) 2 (zQV z (yM D cI cZ ad) R) X 0 [(0, .ref (ad 0)), (1, .int a1)] [] := by
  unfold f_X7_begins at hf
  refine z_aload_n F dX7_begins_0 0 rfl rfl ?_
  refine gM_0_20 F wm_782 dX7_begins_1 ?_
  refine z_bipush (v := 16) F dX7_begins_4 (by decide +kernel) ?_
  refine z_icmp_ge (tgt := 29) F hf dX7_begins_6 (by decide) (fun hf => ?_) (fun hf => ?_)
  · exact z_vret F dX7_begins_29 (Option.some.inj hf)
  · refine z_aload_n F dX7_begins_9 0 rfl rfl ?_
    refine gM_0_19 F wm_781 dX7_begins_10 ?_
    refine z_aload_n F dX7_begins_13 0 rfl rfl ?_
    refine gM_0_20 F wm_782 dX7_begins_14 ?_
    refine z_iload_n F dX7_begins_17 1 rfl rfl ?_
    refine sM_11 F hf dX7_begins_18 (fun X_1 hf => ?_)
    refine z_aload_n F dX7_begins_19 0 rfl rfl ?_
    refine z_dup F dX7_begins_20 rfl ?_
    refine gM_0_20 F wm_782 dX7_begins_21 ?_
    refine z_iconst (v := 1) F dX7_begins_24 (by decide +kernel) ?_
    refine z_iadd F dX7_begins_25 ?_
    refine pM_0_20 F hf wm_782 dX7_begins_26 (fun X_2 hf => ?_)
    exact z_vret F dX7_begins_29 (Option.some.inj hf)
theorem c_X7_begins {D : va_G} {cI cZ : ClassId} {ad : Nat → Nat} {R : KX} (X : KX) (a1 : Int32) (hf : f_X7_begins X a1 = some R) : zMV (yM D cI cZ ad) yX7_begins cX7_begins 2 none 1 [.ref (ad 0), .int a1] X R := zMV_of (by decide +kernel) (Nat.le_of_ble_eq_true rfl) (fun z F => z_sub [0, 1] rfl (z_X7_begins F X a1 hf))
theorem k_X7_begins {z : ZC} {D : va_G} {cI cZ : ClassId} {ad : Nat → Nat} {cc : ByteArray} {own : String} {nL d pc index : Nat} {ret : Option FieldType} {Q : State → Prop} {X : KX} {L : List (Nat × Value)} {rest : List Value} {a1 : Int32} (F : ZF z (yM D cI cZ ad) cc own nL ret d) (hd : 1 + 1 ≤ d) (hw : Cond.methodLink own index yX7_begins ∈ wsA) (hst : (rest.map fun v => v.category).sum ≤ 8) {β : Type} {e : KX → Option β} {r : β} (hf : zB1 (f_X7_begins X a1) e = some r) (hdg : decode cc pc = .ok (.invokevirtual index, 3)) (kk : ∀ X2 : KX, e X2 = some r → Z z (yM D cI cZ ad) nL Q X2 (pc + 3) L rest) : Z z (yM D cI cZ ad) nL Q X pc L (.int a1 :: .ref (ad 0) :: rest) := by
  obtain ⟨v, h1, h2⟩ := zB1_some hf
  exact z_cVV (As := [.int a1]) F (c_X7_begins X a1 h1) kn_X7_begins kv_X7_begins hw (q0 := 0) rfl rfl hd rfl hst hdg rfl (kk v h2)
theorem kv_X7_silentMark : zKv yX7_silentMark := ⟨wm_1115, wm_52⟩
theorem kn_X7_silentMark : zKn yX7_silentMark cX7_silentMark 4 (some .int) 1 := ⟨wm_1116, wm_62, by decide +kernel, by decide⟩
set_option maxHeartbeats 4000000 in
set_option maxRecDepth 100000 in
theorem z_X7_silentMark_27 {z : ZC} {D : va_G} {cI cZ : ClassId} {ad : Nat → Nat} {R : Int32 × KX} (F : ZF z (yM D cI cZ ad) cX7_silentMark RX7 4 (some .int) 2)  (X : KX) (v1 : Int32) (v2 : Int32) (hf : f_X7_silentMark_27 X v1 v2 = some R) : Z z (yM D cI cZ ad) 4 (zQI z (yM D cI cZ ad) R) X 27 [(0, .ref (ad 0)), (1, .int v1), (2, .int v2)] [] := by
  unfold f_X7_silentMark_27 at hf
  refine z_aload_n F dX7_silentMark_27 0 rfl rfl ?_
  refine z_bipush (v := 21) F dX7_silentMark_28 (by decide +kernel) ?_
  refine k_X7_begins F (by decide) wm_1105 (Nat.le_of_ble_eq_true rfl) hf dX7_silentMark_30 (fun X_1 hf => ?_)
  refine z_aload_n F dX7_silentMark_33 0 rfl rfl ?_
  refine z_bipush (v := 20) F dX7_silentMark_34 (by decide +kernel) ?_
  refine k_X7_begins F (by decide) wm_1105 (Nat.le_of_ble_eq_true rfl) hf dX7_silentMark_36 (fun X_2 hf => ?_)
  refine z_iload_n F dX7_silentMark_39 1 rfl rfl ?_
  refine z_aload_n F dX7_silentMark_40 0 rfl rfl ?_
  refine gM_0_13 F wm_775 dX7_silentMark_41 ?_
  refine z_bipush (v := 9) F dX7_silentMark_44 (by decide +kernel) ?_
  refine z_iconst (v := 4) F dX7_silentMark_46 (by decide +kernel) ?_
  refine z_iload_n F dX7_silentMark_47 1 rfl rfl ?_
  refine z_imul F dX7_silentMark_48 ?_
  refine z_iadd F dX7_silentMark_49 ?_
  refine z_iconst (v := 1) F dX7_silentMark_50 (by decide +kernel) ?_
  refine z_iadd F dX7_silentMark_51 ?_
  refine lM_6 F hf dX7_silentMark_52 (fun hf => ?_)
  refine z_iadd F dX7_silentMark_53 ?_
  refine z_top hf (fun v3_3 hf => ?_)
  refine z_istore_n (L' := [(3, .int v3_3), (0, .ref (ad 0)), (1, .int v1), (2, .int v2)]) F dX7_silentMark_54 rfl (Nat.le_of_ble_eq_true rfl) rfl ?_
  refine z_iload_n F dX7_silentMark_55 3 rfl rfl ?_
  refine z_iconst (v := 2) F dX7_silentMark_56 (by decide +kernel) ?_
  refine z_icmp_ne (tgt := 66) F hf dX7_silentMark_57 (by decide) (fun hf => ?_) (fun hf => ?_)
  · refine z_iload_n F dX7_silentMark_66 3 rfl rfl ?_
    refine z_iconst (v := 3) F dX7_silentMark_67 (by decide +kernel) ?_
    refine z_icmp_ne (tgt := 79) F hf dX7_silentMark_68 (by decide) (fun hf => ?_) (fun hf => ?_)
    · refine z_iload_n F dX7_silentMark_79 0 rfl rfl ?_
      exact z_iret F dX7_silentMark_80 (Option.some.inj hf)
    · refine z_iload_n F dX7_silentMark_71 0 rfl rfl ?_
      refine z_sipush (v := 1000) F dX7_silentMark_72 (by decide +kernel) ?_
      refine z_isub F dX7_silentMark_75 ?_
      refine z_goto (tgt := 80) F dX7_silentMark_76 (by decide) ?_
      exact z_iret F dX7_silentMark_80 (Option.some.inj hf)
  · refine z_iconst (v := 2) F dX7_silentMark_60 (by decide +kernel) ?_
    refine z_iload_n F dX7_silentMark_61 0 rfl rfl ?_
    refine z_imul F dX7_silentMark_62 ?_
    refine z_goto (tgt := 80) F dX7_silentMark_63 (by decide) ?_
    exact z_iret F dX7_silentMark_80 (Option.some.inj hf)
set_option maxHeartbeats 4000000 in
set_option maxRecDepth 100000 in
theorem z_X7_silentMark_24 {z : ZC} {D : va_G} {cI cZ : ClassId} {ad : Nat → Nat} {R : Int32 × KX} (F : ZF z (yM D cI cZ ad) cX7_silentMark RX7 4 (some .int) 2)  (X : KX) (s0 : Int32) (v1 : Int32) (v2 : Int32) (hf : f_X7_silentMark_24 X s0 v1 v2 = some R) : Z z (yM D cI cZ ad) 4 (zQI z (yM D cI cZ ad) R) X 24 [(0, .ref (ad 0)), (1, .int v1), (2, .int v2)] [.int s0, .ref (ad 0)] := by
  unfold f_X7_silentMark_24 at hf
  refine k_X7_begins F (by decide) wm_1105 (Nat.le_of_ble_eq_true rfl) hf dX7_silentMark_24 (fun X_1 hf => ?_)
  exact z_sub [0, 1, 2] rfl (z_X7_silentMark_27 F X_1 v1 v2 hf)
set_option maxHeartbeats 4000000 in
set_option maxRecDepth 100000 in
theorem z_X7_silentMark {z : ZC} {D : va_G} {cI cZ : ClassId} {ad : Nat → Nat} {R : Int32 × KX} (F : ZF z (yM D cI cZ ad) cX7_silentMark RX7 4 (some .int) 2) (X : KX) (a1 : Int32) (hf : f_X7_silentMark X a1 = some R) : Z z (yM D cI cZ ad) 4 (zQI z (yM D cI cZ ad) R) X 0 [(0, .ref (ad 0)), (1, .int a1)] [] := by
  unfold f_X7_silentMark at hf
  refine z_aload_n F dX7_silentMark_0 0 rfl rfl ?_
  refine z_iload_n F dX7_silentMark_1 1 rfl rfl ?_
  refine k_X7_kindIn F (by decide) wm_1089 (Nat.le_of_ble_eq_true rfl) hf dX7_silentMark_2 (fun r_1 hf => ?_)
  refine z_istore_n (L' := [(2, .int r_1), (0, .ref (ad 0)), (1, .int a1)]) F dX7_silentMark_5 rfl (Nat.le_of_ble_eq_true rfl) rfl ?_
  refine z_iload_n F dX7_silentMark_6 0 rfl rfl ?_
  refine z_iconst (v := 1) F dX7_silentMark_7 (by decide +kernel) ?_
  refine z_icmp_eq (tgt := 27) F hf dX7_silentMark_8 (by decide) (fun hf => ?_) (fun hf => ?_)
  · exact z_sub [1, 2, 0] rfl (z_X7_silentMark_27 F X a1 r_1 hf)
  · refine z_aload_n F dX7_silentMark_11 1 rfl rfl ?_
    refine z_iload_n F dX7_silentMark_12 0 rfl rfl ?_
    refine z_iconst (v := 2) F dX7_silentMark_13 (by decide +kernel) ?_
    refine z_icmp_ne (tgt := 22) F hf dX7_silentMark_14 (by decide) (fun hf => ?_) (fun hf => ?_)
    · refine z_bipush (v := 22) F dX7_silentMark_22 (by decide +kernel) ?_
      exact z_sub [1, 2, 0] rfl (z_X7_silentMark_24 F X 22 a1 r_1 hf)
    · refine z_bipush (v := 24) F dX7_silentMark_17 (by decide +kernel) ?_
      refine z_goto (tgt := 24) F dX7_silentMark_19 (by decide) ?_
      exact z_sub [1, 2, 0] rfl (z_X7_silentMark_24 F X 24 a1 r_1 hf)
theorem c_X7_silentMark {D : va_G} {cI cZ : ClassId} {ad : Nat → Nat} {R : Int32 × KX} (X : KX) (a1 : Int32) (hf : f_X7_silentMark X a1 = some R) : zMI (yM D cI cZ ad) yX7_silentMark cX7_silentMark 4 (some .int) 2 [.ref (ad 0), .int a1] X R := zMI_of (by decide +kernel) (Nat.le_of_ble_eq_true rfl) (fun z F => z_sub [0, 1] rfl (z_X7_silentMark F X a1 hf))
theorem k_X7_silentMark {z : ZC} {D : va_G} {cI cZ : ClassId} {ad : Nat → Nat} {cc : ByteArray} {own : String} {nL d pc index : Nat} {ret : Option FieldType} {Q : State → Prop} {X : KX} {L : List (Nat × Value)} {rest : List Value} {a1 : Int32} (F : ZF z (yM D cI cZ ad) cc own nL ret d) (hd : 2 + 1 ≤ d) (hw : Cond.methodLink own index yX7_silentMark ∈ wsA) (hst : (rest.map fun v => v.category).sum ≤ 8) {β : Type} {e : Int32 → KX → Option β} {r : β} (hf : zB2 (f_X7_silentMark X a1) e = some r) (hdg : decode cc pc = .ok (.invokevirtual index, 3)) (kk : ∀ (v : Int32) (X2 : KX), e v X2 = some r → Z z (yM D cI cZ ad) nL Q X2 (pc + 3) L (.int v :: rest)) : Z z (yM D cI cZ ad) nL Q X pc L (.int a1 :: .ref (ad 0) :: rest) := by
  obtain ⟨v, X2, h1, h2⟩ := zB2_some hf
  exact z_cVI (As := [.int a1]) F (c_X7_silentMark X a1 h1) kn_X7_silentMark kv_X7_silentMark hw (q0 := 0) rfl rfl hd rfl hst hdg rfl (kk v X2 h2)
theorem kv_X7_mistakenSize : zKv yX7_mistakenSize := ⟨wm_1103, wm_49⟩
theorem kn_X7_mistakenSize : zKn yX7_mistakenSize cX7_mistakenSize 4 (some .int) 1 := ⟨wm_1104, wm_62, by decide +kernel, by decide⟩
set_option maxHeartbeats 4000000 in
set_option maxRecDepth 100000 in
theorem z_X7_mistakenSize_25 {z : ZC} {D : va_G} {cI cZ : ClassId} {ad : Nat → Nat} {R : Int32 × KX} (F : ZF z (yM D cI cZ ad) cX7_mistakenSize RX7 4 (some .int) 2)  (X : KX) (v1 : Int32) (v2 : Int32) (hf : f_X7_mistakenSize_25 X v1 v2 = some R) : Z z (yM D cI cZ ad) 4 (zQI z (yM D cI cZ ad) R) X 25 [(0, .ref (ad 0)), (1, .int v1), (2, .int v2)] [] := by
  unfold f_X7_mistakenSize_25 at hf
  refine z_aload_n F dX7_mistakenSize_25 0 rfl rfl ?_
  refine z_bipush (v := 13) F dX7_mistakenSize_26 (by decide +kernel) ?_
  refine k_X7_begins F (by decide) wm_1105 (Nat.le_of_ble_eq_true rfl) hf dX7_mistakenSize_28 (fun X_1 hf => ?_)
  refine z_aload_n F dX7_mistakenSize_31 0 rfl rfl ?_
  refine z_bipush (v := 10) F dX7_mistakenSize_32 (by decide +kernel) ?_
  refine k_X7_begins F (by decide) wm_1105 (Nat.le_of_ble_eq_true rfl) hf dX7_mistakenSize_34 (fun X_2 hf => ?_)
  refine z_aload_n F dX7_mistakenSize_37 0 rfl rfl ?_
  refine gM_0_13 F wm_775 dX7_mistakenSize_38 ?_
  refine z_bipush (v := 9) F dX7_mistakenSize_41 (by decide +kernel) ?_
  refine z_iconst (v := 4) F dX7_mistakenSize_43 (by decide +kernel) ?_
  refine z_iload_n F dX7_mistakenSize_44 1 rfl rfl ?_
  refine z_imul F dX7_mistakenSize_45 ?_
  refine z_iadd F dX7_mistakenSize_46 ?_
  refine z_iconst (v := 3) F dX7_mistakenSize_47 (by decide +kernel) ?_
  refine z_iadd F dX7_mistakenSize_48 ?_
  refine lM_6 F hf dX7_mistakenSize_49 (fun hf => ?_)
  refine z_bipush (v := 100) F dX7_mistakenSize_50 (by decide +kernel) ?_
  refine z_isub F dX7_mistakenSize_52 ?_
  refine z_top hf (fun v3_3 hf => ?_)
  refine z_istore_n (L' := [(3, .int v3_3), (0, .ref (ad 0)), (1, .int v1), (2, .int v2)]) F dX7_mistakenSize_53 rfl (Nat.le_of_ble_eq_true rfl) rfl ?_
  refine z_iload_n F dX7_mistakenSize_54 3 rfl rfl ?_
  refine z_if_eq (tgt := 64) F hf dX7_mistakenSize_55 (by decide) (fun hf => ?_) (fun hf => ?_)
  · refine z_iload_n F dX7_mistakenSize_64 0 rfl rfl ?_
    exact z_iret F dX7_mistakenSize_65 (Option.some.inj hf)
  · refine z_iconst (v := 2) F dX7_mistakenSize_58 (by decide +kernel) ?_
    refine z_iload_n F dX7_mistakenSize_59 0 rfl rfl ?_
    refine z_imul F dX7_mistakenSize_60 ?_
    refine z_goto (tgt := 65) F dX7_mistakenSize_61 (by decide) ?_
    exact z_iret F dX7_mistakenSize_65 (Option.some.inj hf)
set_option maxHeartbeats 4000000 in
set_option maxRecDepth 100000 in
theorem z_X7_mistakenSize_14 {z : ZC} {D : va_G} {cI cZ : ClassId} {ad : Nat → Nat} {R : Int32 × KX} (F : ZF z (yM D cI cZ ad) cX7_mistakenSize RX7 4 (some .int) 2)  (X : KX) (s0 : Int32) (v1 : Int32) (hf : f_X7_mistakenSize_14 X s0 v1 = some R) : Z z (yM D cI cZ ad) 4 (zQI z (yM D cI cZ ad) R) X 14 [(0, .ref (ad 0)), (1, .int v1)] [.int s0] := by
  unfold f_X7_mistakenSize_14 at hf
  refine z_istore_n (L' := [(2, .int s0), (0, .ref (ad 0)), (1, .int v1)]) F dX7_mistakenSize_14 rfl (Nat.le_of_ble_eq_true rfl) rfl ?_
  refine z_iload_n F dX7_mistakenSize_15 0 rfl rfl ?_
  refine z_if_eq (tgt := 25) F hf dX7_mistakenSize_16 (by decide) (fun hf => ?_) (fun hf => ?_)
  · exact z_sub [1, 2, 0] rfl (z_X7_mistakenSize_25 F X v1 s0 hf)
  · refine z_aload_n F dX7_mistakenSize_19 1 rfl rfl ?_
    refine z_bipush (v := 14) F dX7_mistakenSize_20 (by decide +kernel) ?_
    refine k_X7_begins F (by decide) wm_1105 (Nat.le_of_ble_eq_true rfl) hf dX7_mistakenSize_22 (fun X_1 hf => ?_)
    exact z_sub [1, 2, 0] rfl (z_X7_mistakenSize_25 F X_1 v1 s0 hf)
set_option maxHeartbeats 4000000 in
set_option maxRecDepth 100000 in
theorem z_X7_mistakenSize {z : ZC} {D : va_G} {cI cZ : ClassId} {ad : Nat → Nat} {R : Int32 × KX} (F : ZF z (yM D cI cZ ad) cX7_mistakenSize RX7 4 (some .int) 2) (X : KX) (a1 : Int32) (hf : f_X7_mistakenSize X a1 = some R) : Z z (yM D cI cZ ad) 4 (zQI z (yM D cI cZ ad) R) X 0 [(0, .ref (ad 0)), (1, .int a1)] [] := by
  unfold f_X7_mistakenSize at hf
  refine z_aload_n F dX7_mistakenSize_0 0 rfl rfl ?_
  refine z_iload_n F dX7_mistakenSize_1 1 rfl rfl ?_
  refine k_X7_kindIn F (by decide) wm_1089 (Nat.le_of_ble_eq_true rfl) hf dX7_mistakenSize_2 (fun r_1 hf => ?_)
  refine z_iconst (v := 5) F dX7_mistakenSize_5 (by decide +kernel) ?_
  refine z_icmp_ne (tgt := 13) F hf dX7_mistakenSize_6 (by decide) (fun hf => ?_) (fun hf => ?_)
  · refine z_iconst (v := 0) F dX7_mistakenSize_13 (by decide +kernel) ?_
    exact z_sub [0, 1] rfl (z_X7_mistakenSize_14 F X 0 a1 hf)
  · refine z_iconst (v := 1) F dX7_mistakenSize_9 (by decide +kernel) ?_
    refine z_goto (tgt := 14) F dX7_mistakenSize_10 (by decide) ?_
    exact z_sub [0, 1] rfl (z_X7_mistakenSize_14 F X 1 a1 hf)
theorem c_X7_mistakenSize {D : va_G} {cI cZ : ClassId} {ad : Nat → Nat} {R : Int32 × KX} (X : KX) (a1 : Int32) (hf : f_X7_mistakenSize X a1 = some R) : zMI (yM D cI cZ ad) yX7_mistakenSize cX7_mistakenSize 4 (some .int) 2 [.ref (ad 0), .int a1] X R := zMI_of (by decide +kernel) (Nat.le_of_ble_eq_true rfl) (fun z F => z_sub [0, 1] rfl (z_X7_mistakenSize F X a1 hf))
theorem k_X7_mistakenSize {z : ZC} {D : va_G} {cI cZ : ClassId} {ad : Nat → Nat} {cc : ByteArray} {own : String} {nL d pc index : Nat} {ret : Option FieldType} {Q : State → Prop} {X : KX} {L : List (Nat × Value)} {rest : List Value} {a1 : Int32} (F : ZF z (yM D cI cZ ad) cc own nL ret d) (hd : 2 + 1 ≤ d) (hw : Cond.methodLink own index yX7_mistakenSize ∈ wsA) (hst : (rest.map fun v => v.category).sum ≤ 8) {β : Type} {e : Int32 → KX → Option β} {r : β} (hf : zB2 (f_X7_mistakenSize X a1) e = some r) (hdg : decode cc pc = .ok (.invokevirtual index, 3)) (kk : ∀ (v : Int32) (X2 : KX), e v X2 = some r → Z z (yM D cI cZ ad) nL Q X2 (pc + 3) L (.int v :: rest)) : Z z (yM D cI cZ ad) nL Q X pc L (.int a1 :: .ref (ad 0) :: rest) := by
  obtain ⟨v, X2, h1, h2⟩ := zB2_some hf
  exact z_cVI (As := [.int a1]) F (c_X7_mistakenSize X a1 h1) kn_X7_mistakenSize kv_X7_mistakenSize hw (q0 := 0) rfl rfl hd rfl hst hdg rfl (kk v X2 h2)
theorem kv_X7_mistakenMark : zKv yX7_mistakenMark := ⟨wm_1119, wm_53⟩
theorem kn_X7_mistakenMark : zKn yX7_mistakenMark cX7_mistakenMark 2 (some .int) 1 := ⟨wm_1120, wm_62, by decide +kernel, by decide⟩
set_option maxHeartbeats 4000000 in
set_option maxRecDepth 100000 in
theorem z_X7_mistakenMark {z : ZC} {D : va_G} {cI cZ : ClassId} {ad : Nat → Nat} {R : Int32 × KX} (F : ZF z (yM D cI cZ ad) cX7_mistakenMark RX7 2 (some .int) 3) (X : KX) (a1 : Int32) (hf : f_X7_mistakenMark X a1 = some R) : Z z (yM D cI cZ ad) 2 (zQI z (yM D cI cZ ad) R) X 0 [(0, .ref (ad 0)), (1, .int a1)] [] := by
  unfold f_X7_mistakenMark at hf
  refine z_aload_n F dX7_mistakenMark_0 0 rfl rfl ?_
  refine z_bipush (v := 23) F dX7_mistakenMark_1 (by decide +kernel) ?_
  refine k_X7_begins F (by decide) wm_1105 (Nat.le_of_ble_eq_true rfl) hf dX7_mistakenMark_3 (fun X_1 hf => ?_)
  refine z_aload_n F dX7_mistakenMark_6 0 rfl rfl ?_
  refine z_bipush (v := 20) F dX7_mistakenMark_7 (by decide +kernel) ?_
  refine k_X7_begins F (by decide) wm_1105 (Nat.le_of_ble_eq_true rfl) hf dX7_mistakenMark_9 (fun X_2 hf => ?_)
  refine z_iload_n F dX7_mistakenMark_12 1 rfl rfl ?_
  refine z_aload_n F dX7_mistakenMark_13 0 rfl rfl ?_
  refine z_iload_n F dX7_mistakenMark_14 1 rfl rfl ?_
  refine k_X7_mistakenSize F (by decide) wm_1101 (Nat.le_of_ble_eq_true rfl) hf dX7_mistakenMark_15 (fun r_3 X_4 hf => ?_)
  refine z_isub F dX7_mistakenMark_18 ?_
  exact z_iret F dX7_mistakenMark_19 (Option.some.inj hf)
theorem c_X7_mistakenMark {D : va_G} {cI cZ : ClassId} {ad : Nat → Nat} {R : Int32 × KX} (X : KX) (a1 : Int32) (hf : f_X7_mistakenMark X a1 = some R) : zMI (yM D cI cZ ad) yX7_mistakenMark cX7_mistakenMark 2 (some .int) 3 [.ref (ad 0), .int a1] X R := zMI_of (by decide +kernel) (Nat.le_of_ble_eq_true rfl) (fun z F => z_sub [0, 1] rfl (z_X7_mistakenMark F X a1 hf))
theorem k_X7_mistakenMark {z : ZC} {D : va_G} {cI cZ : ClassId} {ad : Nat → Nat} {cc : ByteArray} {own : String} {nL d pc index : Nat} {ret : Option FieldType} {Q : State → Prop} {X : KX} {L : List (Nat × Value)} {rest : List Value} {a1 : Int32} (F : ZF z (yM D cI cZ ad) cc own nL ret d) (hd : 3 + 1 ≤ d) (hw : Cond.methodLink own index yX7_mistakenMark ∈ wsA) (hst : (rest.map fun v => v.category).sum ≤ 8) {β : Type} {e : Int32 → KX → Option β} {r : β} (hf : zB2 (f_X7_mistakenMark X a1) e = some r) (hdg : decode cc pc = .ok (.invokevirtual index, 3)) (kk : ∀ (v : Int32) (X2 : KX), e v X2 = some r → Z z (yM D cI cZ ad) nL Q X2 (pc + 3) L (.int v :: rest)) : Z z (yM D cI cZ ad) nL Q X pc L (.int a1 :: .ref (ad 0) :: rest) := by
  obtain ⟨v, X2, h1, h2⟩ := zB2_some hf
  exact z_cVI (As := [.int a1]) F (c_X7_mistakenMark X a1 h1) kn_X7_mistakenMark kv_X7_mistakenMark hw (q0 := 0) rfl rfl hd rfl hst hdg rfl (kk v X2 h2)
theorem kv_X7_silentSize : zKv yX7_silentSize := ⟨wm_1111, wm_51⟩
theorem kn_X7_silentSize : zKn yX7_silentSize cX7_silentSize 4 (some .int) 1 := ⟨wm_1112, wm_62, by decide +kernel, by decide⟩
set_option maxHeartbeats 4000000 in
set_option maxRecDepth 100000 in
theorem z_X7_silentSize_25 {z : ZC} {D : va_G} {cI cZ : ClassId} {ad : Nat → Nat} {R : Int32 × KX} (F : ZF z (yM D cI cZ ad) cX7_silentSize RX7 4 (some .int) 3)  (X : KX) (v1 : Int32) (v2 : Int32) (hf : f_X7_silentSize_25 X v1 v2 = some R) : Z z (yM D cI cZ ad) 4 (zQI z (yM D cI cZ ad) R) X 25 [(0, .ref (ad 0)), (1, .int v1), (2, .int v2)] [] := by
  unfold f_X7_silentSize_25 at hf
  refine z_aload_n F dX7_silentSize_25 0 rfl rfl ?_
  refine z_bipush (v := 11) F dX7_silentSize_26 (by decide +kernel) ?_
  refine k_X7_begins F (by decide) wm_1105 (Nat.le_of_ble_eq_true rfl) hf dX7_silentSize_28 (fun X_1 hf => ?_)
  refine z_aload_n F dX7_silentSize_31 0 rfl rfl ?_
  refine z_bipush (v := 10) F dX7_silentSize_32 (by decide +kernel) ?_
  refine k_X7_begins F (by decide) wm_1105 (Nat.le_of_ble_eq_true rfl) hf dX7_silentSize_34 (fun X_2 hf => ?_)
  refine z_aload_n F dX7_silentSize_37 0 rfl rfl ?_
  refine gM_0_13 F wm_775 dX7_silentSize_38 ?_
  refine z_bipush (v := 9) F dX7_silentSize_41 (by decide +kernel) ?_
  refine z_iconst (v := 4) F dX7_silentSize_43 (by decide +kernel) ?_
  refine z_iload_n F dX7_silentSize_44 1 rfl rfl ?_
  refine z_imul F dX7_silentSize_45 ?_
  refine z_iadd F dX7_silentSize_46 ?_
  refine z_iconst (v := 3) F dX7_silentSize_47 (by decide +kernel) ?_
  refine z_iadd F dX7_silentSize_48 ?_
  refine lM_6 F hf dX7_silentSize_49 (fun hf => ?_)
  refine z_aload_n F dX7_silentSize_50 0 rfl rfl ?_
  refine z_iload_n F dX7_silentSize_51 1 rfl rfl ?_
  refine k_X7_silentMark F (by decide) wm_1113 (Nat.le_of_ble_eq_true rfl) hf dX7_silentSize_52 (fun r_3 X_4 hf => ?_)
  refine z_iadd F dX7_silentSize_55 ?_
  refine z_top hf (fun v3_5 hf => ?_)
  refine z_istore_n (L' := [(3, .int v3_5), (0, .ref (ad 0)), (1, .int v1), (2, .int v2)]) F dX7_silentSize_56 rfl (Nat.le_of_ble_eq_true rfl) rfl ?_
  refine z_iload_n F dX7_silentSize_57 3 rfl rfl ?_
  refine z_if_eq (tgt := 66) F hf dX7_silentSize_58 (by decide) (fun hf => ?_) (fun hf => ?_)
  · refine z_iload_n F dX7_silentSize_66 0 rfl rfl ?_
    exact z_iret F dX7_silentSize_67 (Option.some.inj hf)
  · refine z_iload_n F dX7_silentSize_61 0 rfl rfl ?_
    refine z_ineg F dX7_silentSize_62 ?_
    refine z_goto (tgt := 67) F dX7_silentSize_63 (by decide) ?_
    exact z_iret F dX7_silentSize_67 (Option.some.inj hf)
set_option maxHeartbeats 4000000 in
set_option maxRecDepth 100000 in
theorem z_X7_silentSize_14 {z : ZC} {D : va_G} {cI cZ : ClassId} {ad : Nat → Nat} {R : Int32 × KX} (F : ZF z (yM D cI cZ ad) cX7_silentSize RX7 4 (some .int) 3)  (X : KX) (s0 : Int32) (v1 : Int32) (hf : f_X7_silentSize_14 X s0 v1 = some R) : Z z (yM D cI cZ ad) 4 (zQI z (yM D cI cZ ad) R) X 14 [(0, .ref (ad 0)), (1, .int v1)] [.int s0] := by
  unfold f_X7_silentSize_14 at hf
  refine z_istore_n (L' := [(2, .int s0), (0, .ref (ad 0)), (1, .int v1)]) F dX7_silentSize_14 rfl (Nat.le_of_ble_eq_true rfl) rfl ?_
  refine z_iload_n F dX7_silentSize_15 0 rfl rfl ?_
  refine z_if_eq (tgt := 25) F hf dX7_silentSize_16 (by decide) (fun hf => ?_) (fun hf => ?_)
  · exact z_sub [1, 2, 0] rfl (z_X7_silentSize_25 F X v1 s0 hf)
  · refine z_aload_n F dX7_silentSize_19 1 rfl rfl ?_
    refine z_bipush (v := 12) F dX7_silentSize_20 (by decide +kernel) ?_
    refine k_X7_begins F (by decide) wm_1105 (Nat.le_of_ble_eq_true rfl) hf dX7_silentSize_22 (fun X_1 hf => ?_)
    exact z_sub [1, 2, 0] rfl (z_X7_silentSize_25 F X_1 v1 s0 hf)
set_option maxHeartbeats 4000000 in
set_option maxRecDepth 100000 in
theorem z_X7_silentSize {z : ZC} {D : va_G} {cI cZ : ClassId} {ad : Nat → Nat} {R : Int32 × KX} (F : ZF z (yM D cI cZ ad) cX7_silentSize RX7 4 (some .int) 3) (X : KX) (a1 : Int32) (hf : f_X7_silentSize X a1 = some R) : Z z (yM D cI cZ ad) 4 (zQI z (yM D cI cZ ad) R) X 0 [(0, .ref (ad 0)), (1, .int a1)] [] := by
  unfold f_X7_silentSize at hf
  refine z_aload_n F dX7_silentSize_0 0 rfl rfl ?_
  refine z_iload_n F dX7_silentSize_1 1 rfl rfl ?_
  refine k_X7_kindIn F (by decide) wm_1089 (Nat.le_of_ble_eq_true rfl) hf dX7_silentSize_2 (fun r_1 hf => ?_)
  refine z_iconst (v := 2) F dX7_silentSize_5 (by decide +kernel) ?_
  refine z_icmp_ne (tgt := 13) F hf dX7_silentSize_6 (by decide) (fun hf => ?_) (fun hf => ?_)
  · refine z_iconst (v := 0) F dX7_silentSize_13 (by decide +kernel) ?_
    exact z_sub [0, 1] rfl (z_X7_silentSize_14 F X 0 a1 hf)
  · refine z_iconst (v := 1) F dX7_silentSize_9 (by decide +kernel) ?_
    refine z_goto (tgt := 14) F dX7_silentSize_10 (by decide) ?_
    exact z_sub [0, 1] rfl (z_X7_silentSize_14 F X 1 a1 hf)
theorem c_X7_silentSize {D : va_G} {cI cZ : ClassId} {ad : Nat → Nat} {R : Int32 × KX} (X : KX) (a1 : Int32) (hf : f_X7_silentSize X a1 = some R) : zMI (yM D cI cZ ad) yX7_silentSize cX7_silentSize 4 (some .int) 3 [.ref (ad 0), .int a1] X R := zMI_of (by decide +kernel) (Nat.le_of_ble_eq_true rfl) (fun z F => z_sub [0, 1] rfl (z_X7_silentSize F X a1 hf))
theorem k_X7_silentSize {z : ZC} {D : va_G} {cI cZ : ClassId} {ad : Nat → Nat} {cc : ByteArray} {own : String} {nL d pc index : Nat} {ret : Option FieldType} {Q : State → Prop} {X : KX} {L : List (Nat × Value)} {rest : List Value} {a1 : Int32} (F : ZF z (yM D cI cZ ad) cc own nL ret d) (hd : 3 + 1 ≤ d) (hw : Cond.methodLink own index yX7_silentSize ∈ wsA) (hst : (rest.map fun v => v.category).sum ≤ 8) {β : Type} {e : Int32 → KX → Option β} {r : β} (hf : zB2 (f_X7_silentSize X a1) e = some r) (hdg : decode cc pc = .ok (.invokevirtual index, 3)) (kk : ∀ (v : Int32) (X2 : KX), e v X2 = some r → Z z (yM D cI cZ ad) nL Q X2 (pc + 3) L (.int v :: rest)) : Z z (yM D cI cZ ad) nL Q X pc L (.int a1 :: .ref (ad 0) :: rest) := by
  obtain ⟨v, X2, h1, h2⟩ := zB2_some hf
  exact z_cVI (As := [.int a1]) F (c_X7_silentSize X a1 h1) kn_X7_silentSize kv_X7_silentSize hw (q0 := 0) rfl rfl hd rfl hst hdg rfl (kk v X2 h2)
theorem kv_X7_ask : zKv yX7_ask := ⟨wm_1098, wm_1099⟩
theorem kn_X7_ask : zKn yX7_ask cX7_ask 4 (some .int) 2 := ⟨wm_1100, wm_62, by decide +kernel, by decide⟩
set_option maxHeartbeats 4000000 in
set_option maxRecDepth 100000 in
theorem z_X7_ask_39 {z : ZC} {D : va_G} {cI cZ : ClassId} {ad : Nat → Nat} {R : Int32 × KX} (F : ZF z (yM D cI cZ ad) cX7_ask RX7 4 (some .int) 4)  (X : KX) (s0 : Int32) (v1 : Int32) (v2 : Int32) (hf : f_X7_ask_39 X s0 v1 v2 = some R) : Z z (yM D cI cZ ad) 4 (zQI z (yM D cI cZ ad) R) X 39 [(0, .ref (ad 0)), (1, .int v1), (2, .int v2)] [.int s0] := by
  unfold f_X7_ask_39 at hf
  refine z_istore_n (L' := [(3, .int s0), (0, .ref (ad 0)), (1, .int v1), (2, .int v2)]) F dX7_ask_39 rfl (Nat.le_of_ble_eq_true rfl) rfl ?_
  refine z_iload_n F dX7_ask_40 3 rfl rfl ?_
  refine z_if_ne (tgt := 62) F hf dX7_ask_41 (by decide) (fun hf => ?_) (fun hf => ?_)
  · refine z_iload_n F dX7_ask_62 0 rfl rfl ?_
    refine z_if_eq (tgt := 74) F hf dX7_ask_63 (by decide) (fun hf => ?_) (fun hf => ?_)
    · refine z_aload_n F dX7_ask_74 1 rfl rfl ?_
      refine z_iload_n F dX7_ask_75 2 rfl rfl ?_
      refine k_X7_silentMark F (by decide) wm_1113 (Nat.le_of_ble_eq_true rfl) hf dX7_ask_76 (fun r_1 X_2 hf => ?_)
      exact z_iret F dX7_ask_79 (Option.some.inj hf)
    · refine z_aload_n F dX7_ask_66 1 rfl rfl ?_
      refine z_iload_n F dX7_ask_67 2 rfl rfl ?_
      refine k_X7_mistakenMark F (by decide) wm_1117 (Nat.le_of_ble_eq_true rfl) hf dX7_ask_68 (fun r_3 X_4 hf => ?_)
      refine z_goto (tgt := 79) F dX7_ask_71 (by decide) ?_
      exact z_iret F dX7_ask_79 (Option.some.inj hf)
  · refine z_iload_n F dX7_ask_44 0 rfl rfl ?_
    refine z_if_eq (tgt := 56) F hf dX7_ask_45 (by decide) (fun hf => ?_) (fun hf => ?_)
    · refine z_aload_n F dX7_ask_56 1 rfl rfl ?_
      refine z_iload_n F dX7_ask_57 2 rfl rfl ?_
      refine k_X7_silentSize F (by decide) wm_1109 (Nat.le_of_ble_eq_true rfl) hf dX7_ask_58 (fun r_5 X_6 hf => ?_)
      exact z_iret F dX7_ask_61 (Option.some.inj hf)
    · refine z_aload_n F dX7_ask_48 1 rfl rfl ?_
      refine z_iload_n F dX7_ask_49 2 rfl rfl ?_
      refine k_X7_mistakenSize F (by decide) wm_1101 (Nat.le_of_ble_eq_true rfl) hf dX7_ask_50 (fun r_7 X_8 hf => ?_)
      refine z_goto (tgt := 61) F dX7_ask_53 (by decide) ?_
      exact z_iret F dX7_ask_61 (Option.some.inj hf)
set_option maxHeartbeats 4000000 in
set_option maxRecDepth 100000 in
theorem z_X7_ask {z : ZC} {D : va_G} {cI cZ : ClassId} {ad : Nat → Nat} {R : Int32 × KX} (F : ZF z (yM D cI cZ ad) cX7_ask RX7 4 (some .int) 4) (X : KX) (a1 : Int32) (a2 : Int32) (hf : f_X7_ask X a1 a2 = some R) : Z z (yM D cI cZ ad) 4 (zQI z (yM D cI cZ ad) R) X 0 [(0, .ref (ad 0)), (1, .int a1), (2, .int a2)] [] := by
  unfold f_X7_ask at hf
  refine z_aload_n F dX7_ask_0 0 rfl rfl ?_
  refine z_iload_n F dX7_ask_1 1 rfl rfl ?_
  refine k_X7_isHint F (by decide) wm_956 (Nat.le_of_ble_eq_true rfl) hf dX7_ask_2 (fun r_1 hf => ?_)
  refine z_if_eq (tgt := 17) F hf dX7_ask_5 (by decide) (fun hf => ?_) (fun hf => ?_)
  · refine z_ldc F wm_846 dX7_ask_17 ?_
    exact z_iret F dX7_ask_19 (Option.some.inj hf)
  · refine z_iload_n F dX7_ask_8 2 rfl rfl ?_
    refine z_iconst (v := 0) F dX7_ask_9 (by decide +kernel) ?_
    refine z_iconst (v := 1) F dX7_ask_10 (by decide +kernel) ?_
    refine k_X7_in F (by decide) wm_843 (Nat.le_of_ble_eq_true rfl) dX7_ask_11 ?_
    refine z_if_ne (tgt := 20) F hf dX7_ask_14 (by decide) (fun hf => ?_) (fun hf => ?_)
    · refine z_aload_n F dX7_ask_20 0 rfl rfl ?_
      refine z_iconst (v := 0) F dX7_ask_21 (by decide +kernel) ?_
      refine pM_0_20 F hf wm_782 dX7_ask_22 (fun X_2 hf => ?_)
      refine z_aload_n F dX7_ask_25 0 rfl rfl ?_
      refine z_iload_n F dX7_ask_26 1 rfl rfl ?_
      refine k_X7_kindIn F (by decide) wm_1089 (Nat.le_of_ble_eq_true rfl) hf dX7_ask_27 (fun r_3 hf => ?_)
      refine z_iconst (v := 4) F dX7_ask_30 (by decide +kernel) ?_
      refine z_icmp_lt (tgt := 38) F hf dX7_ask_31 (by decide) (fun hf => ?_) (fun hf => ?_)
      · refine z_iconst (v := 0) F dX7_ask_38 (by decide +kernel) ?_
        exact z_sub [0, 1, 2] rfl (z_X7_ask_39 F X_2 0 a1 a2 hf)
      · refine z_iconst (v := 1) F dX7_ask_34 (by decide +kernel) ?_
        refine z_goto (tgt := 39) F dX7_ask_35 (by decide) ?_
        exact z_sub [0, 1, 2] rfl (z_X7_ask_39 F X_2 1 a1 a2 hf)
    · refine z_ldc F wm_846 dX7_ask_17 ?_
      exact z_iret F dX7_ask_19 (Option.some.inj hf)
theorem c_X7_ask {D : va_G} {cI cZ : ClassId} {ad : Nat → Nat} {R : Int32 × KX} (X : KX) (a1 : Int32) (a2 : Int32) (hf : f_X7_ask X a1 a2 = some R) : zMI (yM D cI cZ ad) yX7_ask cX7_ask 4 (some .int) 4 [.ref (ad 0), .int a1, .int a2] X R := zMI_of (by decide +kernel) (Nat.le_of_ble_eq_true rfl) (fun z F => z_sub [0, 1, 2] rfl (z_X7_ask F X a1 a2 hf))
theorem k_X7_ask {z : ZC} {D : va_G} {cI cZ : ClassId} {ad : Nat → Nat} {cc : ByteArray} {own : String} {nL d pc index : Nat} {ret : Option FieldType} {Q : State → Prop} {X : KX} {L : List (Nat × Value)} {rest : List Value} {a1 a2 : Int32} (F : ZF z (yM D cI cZ ad) cc own nL ret d) (hd : 4 + 1 ≤ d) (hw : Cond.methodLink own index yX7_ask ∈ wsA) (hst : (rest.map fun v => v.category).sum ≤ 8) {β : Type} {e : Int32 → KX → Option β} {r : β} (hf : zB2 (f_X7_ask X a1 a2) e = some r) (hdg : decode cc pc = .ok (.invokevirtual index, 3)) (kk : ∀ (v : Int32) (X2 : KX), e v X2 = some r → Z z (yM D cI cZ ad) nL Q X2 (pc + 3) L (.int v :: rest)) : Z z (yM D cI cZ ad) nL Q X pc L (.int a2 :: .int a1 :: .ref (ad 0) :: rest) := by
  obtain ⟨v, X2, h1, h2⟩ := zB2_some hf
  exact z_cVI (As := [.int a1, .int a2]) F (c_X7_ask X a1 a2 h1) kn_X7_ask kv_X7_ask hw (q0 := 0) rfl rfl hd rfl hst hdg rfl (kk v X2 h2)
theorem kv_X7_trace : zKv yX7_trace := ⟨wm_1122, wm_1123⟩
theorem kn_X7_trace : zKn yX7_trace cX7_trace 2 (some .int) 1 := ⟨wm_1124, wm_62, by decide +kernel, by decide⟩
set_option maxHeartbeats 4000000 in
set_option maxRecDepth 100000 in
theorem z_X7_trace {z : ZC} {D : va_G} {cI cZ : ClassId} {ad : Nat → Nat} {r : Int32} (F : ZF z (yM D cI cZ ad) cX7_trace RX7 2 (some .int) 2) (X : KX) (a1 : Int32) (hf : f_X7_trace X a1 = some r) : Z z (yM D cI cZ ad) 2 (zQI z (yM D cI cZ ad) (r, X)) X 0 [(0, .ref (ad 0)), (1, .int a1)] [] := by
  unfold f_X7_trace at hf
  refine z_iload_n F dX7_trace_0 1 rfl rfl ?_
  refine z_iconst (v := 0) F dX7_trace_1 (by decide +kernel) ?_
  refine z_aload_n F dX7_trace_2 0 rfl rfl ?_
  refine gM_0_20 F wm_782 dX7_trace_3 ?_
  refine z_iconst (v := 1) F dX7_trace_6 (by decide +kernel) ?_
  refine z_isub F dX7_trace_7 ?_
  refine k_X7_in F (by decide) wm_843 (Nat.le_of_ble_eq_true rfl) dX7_trace_8 ?_
  refine z_if_eq (tgt := 23) F hf dX7_trace_11 (by decide) (fun hf => ?_) (fun hf => ?_)
  · refine z_ldc F wm_761 dX7_trace_23 ?_
    exact z_iret F dX7_trace_25 (Prod.ext (Option.some.inj hf) rfl)
  · refine z_aload_n F dX7_trace_14 0 rfl rfl ?_
    refine gM_0_19 F wm_781 dX7_trace_15 ?_
    refine z_iload_n F dX7_trace_18 1 rfl rfl ?_
    refine lM_11 F hf dX7_trace_19 (fun hf => ?_)
    refine z_goto (tgt := 25) F dX7_trace_20 (by decide) ?_
    exact z_iret F dX7_trace_25 (Prod.ext (Option.some.inj hf) rfl)
theorem c_X7_trace {D : va_G} {cI cZ : ClassId} {ad : Nat → Nat} {r : Int32} (X : KX) (a1 : Int32) (hf : f_X7_trace X a1 = some r) : zMI (yM D cI cZ ad) yX7_trace cX7_trace 2 (some .int) 2 [.ref (ad 0), .int a1] X (r, X) := zMI_of (by decide +kernel) (Nat.le_of_ble_eq_true rfl) (fun z F => z_sub [0, 1] rfl (z_X7_trace F X a1 hf))
theorem k_X7_trace {z : ZC} {D : va_G} {cI cZ : ClassId} {ad : Nat → Nat} {cc : ByteArray} {own : String} {nL d pc index : Nat} {ret : Option FieldType} {Q : State → Prop} {X : KX} {L : List (Nat × Value)} {rest : List Value} {a1 : Int32} (F : ZF z (yM D cI cZ ad) cc own nL ret d) (hd : 2 + 1 ≤ d) (hw : Cond.methodLink own index yX7_trace ∈ wsA) (hst : (rest.map fun v => v.category).sum ≤ 8) {β : Type} {e : Int32 → Option β} {r : β} (hf : zB1 (f_X7_trace X a1) e = some r) (hdg : decode cc pc = .ok (.invokevirtual index, 3)) (kk : ∀ v : Int32, e v = some r → Z z (yM D cI cZ ad) nL Q X (pc + 3) L (.int v :: rest)) : Z z (yM D cI cZ ad) nL Q X pc L (.int a1 :: .ref (ad 0) :: rest) := by
  obtain ⟨v, h1, h2⟩ := zB1_some hf
  exact z_cVI (As := [.int a1]) F (c_X7_trace X a1 h1) kn_X7_trace kv_X7_trace hw (q0 := 0) rfl rfl hd rfl hst hdg rfl (kk v h2)
theorem kv_X7_count : zKv yX7_count := ⟨wm_1126, wm_1127⟩
theorem kn_X7_count : zKn yX7_count cX7_count 4 (some .int) 1 := ⟨wm_1128, wm_62, by decide +kernel, by decide⟩
set_option maxHeartbeats 4000000 in
set_option maxRecDepth 100000 in
theorem z_X7_count_28 {z : ZC} {D : va_G} {cI cZ : ClassId} {ad : Nat → Nat} {r : Int32} {k8 : Int32 → Int32 → Option Int32} (F : ZF z (yM D cI cZ ad) cX7_count RX7 4 (some .int) 2) (n : Nat) (X : KX) (hk8 : ∀ (v2 : Int32) (v3 : Int32), k8 v2 v3 = some r → Z z (yM D cI cZ ad) 4 (zQI z (yM D cI cZ ad) (r, X)) X 8 [(0, .ref (ad 0)), (2, .int v2), (3, .int v3)] []) (s0 : Int32) (s1 : Int32) (v3 : Int32) (hf : f_X7_count_28 n X k8 s0 s1 v3 = some r) : Z z (yM D cI cZ ad) 4 (zQI z (yM D cI cZ ad) (r, X)) X 28 [(0, .ref (ad 0)), (3, .int v3)] [.int s0, .int s1] := by
  unfold f_X7_count_28 at hf
  refine z_iadd F dX7_count_28 ?_
  refine z_top hf (fun v2_1 hf => ?_)
  refine z_istore_n (L' := [(2, .int v2_1), (0, .ref (ad 0)), (3, .int v3)]) F dX7_count_29 rfl (Nat.le_of_ble_eq_true rfl) rfl ?_
  refine z_iinc (w := 1) (L' := fun v3_2 => [(3, .int v3_2), (2, .int v2_1), (0, .ref (ad 0))]) F hf dX7_count_30 2 rfl (by decide +kernel) (Nat.le_of_ble_eq_true rfl) (fun _ => rfl) (fun v3_2 hf => ?_)
  refine z_goto (tgt := 8) F dX7_count_33 (by decide) ?_
  exact z_sub [2, 1, 0] rfl (hk8 v2_1 v3_2 hf)
set_option maxHeartbeats 4000000 in
set_option maxRecDepth 100000 in
theorem z_X7_count_8 {z : ZC} {D : va_G} {cI cZ : ClassId} {ad : Nat → Nat} {r : Int32} (F : ZF z (yM D cI cZ ad) cX7_count RX7 4 (some .int) 2) (n : Nat) (X : KX) : ∀ (t : Nat) (v2 : Int32) (v3 : Int32), f_X7_count_8 n X t v2 v3 = some r → Z z (yM D cI cZ ad) 4 (zQI z (yM D cI cZ ad) (r, X)) X 8 [(0, .ref (ad 0)), (2, .int v2), (3, .int v3)] [] := by
  intro t
  induction t with
  | zero => intro v2 v3 hf; rw [f_X7_count_8] at hf; exact zNone hf
  | succ t ih =>
    intro v2 v3 hf
    rw [f_X7_count_8] at hf
    refine z_iload_n F dX7_count_8 2 rfl rfl ?_
    refine z_bipush (v := 8) F dX7_count_9 (by decide +kernel) ?_
    refine z_icmp_ge (tgt := 36) F hf dX7_count_11 (by decide) (fun hf => ?_) (fun hf => ?_)
    · refine z_iload_n F dX7_count_36 1 rfl rfl ?_
      exact z_iret F dX7_count_37 (Prod.ext (Option.some.inj hf) rfl)
    · refine z_iload_n F dX7_count_14 1 rfl rfl ?_
      refine z_aload_n F dX7_count_15 0 rfl rfl ?_
      refine z_iload_n F dX7_count_16 2 rfl rfl ?_
      refine k_X7_isMissing F (by decide) wm_860 (Nat.le_of_ble_eq_true rfl) hf dX7_count_17 (fun r_1 hf => ?_)
      refine z_if_eq (tgt := 27) F hf dX7_count_20 (by decide) (fun hf => ?_) (fun hf => ?_)
      · refine z_iconst (v := 1) F dX7_count_27 (by decide +kernel) ?_
        exact z_sub [0, 2] rfl (z_X7_count_28 F n X ih 1 v2 v3 hf)
      · refine z_iconst (v := 0) F dX7_count_23 (by decide +kernel) ?_
        refine z_goto (tgt := 28) F dX7_count_24 (by decide) ?_
        exact z_sub [0, 2] rfl (z_X7_count_28 F n X ih 0 v2 v3 hf)
set_option maxHeartbeats 4000000 in
set_option maxRecDepth 100000 in
theorem z_X7_count {z : ZC} {D : va_G} {cI cZ : ClassId} {ad : Nat → Nat} {r : Int32} (F : ZF z (yM D cI cZ ad) cX7_count RX7 4 (some .int) 2) (n : Nat) (X : KX) (a1 : Int32) (hf : f_X7_count n X a1 = some r) : Z z (yM D cI cZ ad) 4 (zQI z (yM D cI cZ ad) (r, X)) X 0 [(0, .ref (ad 0)), (1, .int a1)] [] := by
  unfold f_X7_count at hf
  refine z_iload_n F dX7_count_0 1 rfl rfl ?_
  refine z_if_ne (tgt := 38) F hf dX7_count_1 (by decide) (fun hf => ?_) (fun hf => ?_)
  · refine z_iload_n F dX7_count_38 1 rfl rfl ?_
    refine z_iconst (v := 1) F dX7_count_39 (by decide +kernel) ?_
    refine z_bipush (v := 8) F dX7_count_40 (by decide +kernel) ?_
    refine k_X7_in F (by decide) wm_843 (Nat.le_of_ble_eq_true rfl) dX7_count_42 ?_
    refine z_if_ne (tgt := 51) F hf dX7_count_45 (by decide) (fun hf => ?_) (fun hf => ?_)
    · refine z_iload_n F dX7_count_51 1 rfl rfl ?_
      refine z_iconst (v := 1) F dX7_count_52 (by decide +kernel) ?_
      refine z_icmp_ne (tgt := 66) F hf dX7_count_53 (by decide) (fun hf => ?_) (fun hf => ?_)
      · refine z_iload_n F dX7_count_66 1 rfl rfl ?_
        refine z_iconst (v := 2) F dX7_count_67 (by decide +kernel) ?_
        refine z_icmp_ne (tgt := 81) F hf dX7_count_68 (by decide) (fun hf => ?_) (fun hf => ?_)
        · refine z_iload_n F dX7_count_81 1 rfl rfl ?_
          refine z_iconst (v := 3) F dX7_count_82 (by decide +kernel) ?_
          refine z_icmp_ne (tgt := 95) F hf dX7_count_83 (by decide) (fun hf => ?_) (fun hf => ?_)
          · refine z_iload_n F dX7_count_95 1 rfl rfl ?_
            refine z_iconst (v := 4) F dX7_count_96 (by decide +kernel) ?_
            refine z_icmp_ne (tgt := 109) F hf dX7_count_97 (by decide) (fun hf => ?_) (fun hf => ?_)
            · refine z_iload_n F dX7_count_109 1 rfl rfl ?_
              refine z_iconst (v := 5) F dX7_count_110 (by decide +kernel) ?_
              refine z_icmp_ne (tgt := 124) F hf dX7_count_111 (by decide) (fun hf => ?_) (fun hf => ?_)
              · refine z_iload_n F dX7_count_124 1 rfl rfl ?_
                refine z_bipush (v := 6) F dX7_count_125 (by decide +kernel) ?_
                refine z_icmp_ne (tgt := 142) F hf dX7_count_127 (by decide) (fun hf => ?_) (fun hf => ?_)
                · refine z_iload_n F dX7_count_142 1 rfl rfl ?_
                  refine z_bipush (v := 7) F dX7_count_143 (by decide +kernel) ?_
                  refine z_icmp_ne (tgt := 155) F hf dX7_count_145 (by decide) (fun hf => ?_) (fun hf => ?_)
                  · refine z_aload_n F dX7_count_155 0 rfl rfl ?_
                    refine gM_0_6 F wm_768 dX7_count_156 ?_
                    exact z_iret F dX7_count_159 (Prod.ext (Option.some.inj hf) rfl)
                  · refine z_aload_n F dX7_count_148 0 rfl rfl ?_
                    refine gM_0_16 F wm_778 dX7_count_149 ?_
                    refine z_goto (tgt := 159) F dX7_count_152 (by decide) ?_
                    exact z_iret F dX7_count_159 (Prod.ext (Option.some.inj hf) rfl)
                · refine z_aload_n F dX7_count_130 0 rfl rfl ?_
                  refine gM_0_13 F wm_775 dX7_count_131 ?_
                  refine z_iconst (v := 4) F dX7_count_134 (by decide +kernel) ?_
                  refine lM_6 F hf dX7_count_135 (fun hf => ?_)
                  refine k_X7_ones F (by decide) wm_963 (Nat.le_of_ble_eq_true rfl) hf dX7_count_136 (fun r_1 hf => ?_)
                  refine z_goto (tgt := 159) F dX7_count_139 (by decide) ?_
                  exact z_iret F dX7_count_159 (Prod.ext (Option.some.inj hf) rfl)
              · refine z_aload_n F dX7_count_114 0 rfl rfl ?_
                refine gM_0_13 F wm_775 dX7_count_115 ?_
                refine z_bipush (v := 6) F dX7_count_118 (by decide +kernel) ?_
                refine lM_6 F hf dX7_count_120 (fun hf => ?_)
                refine z_goto (tgt := 159) F dX7_count_121 (by decide) ?_
                exact z_iret F dX7_count_159 (Prod.ext (Option.some.inj hf) rfl)
            · refine z_aload_n F dX7_count_100 0 rfl rfl ?_
              refine gM_0_13 F wm_775 dX7_count_101 ?_
              refine z_iconst (v := 5) F dX7_count_104 (by decide +kernel) ?_
              refine lM_6 F hf dX7_count_105 (fun hf => ?_)
              refine z_goto (tgt := 159) F dX7_count_106 (by decide) ?_
              exact z_iret F dX7_count_159 (Prod.ext (Option.some.inj hf) rfl)
          · refine z_aload_n F dX7_count_86 0 rfl rfl ?_
            refine gM_0_13 F wm_775 dX7_count_87 ?_
            refine z_iconst (v := 3) F dX7_count_90 (by decide +kernel) ?_
            refine lM_6 F hf dX7_count_91 (fun hf => ?_)
            refine z_goto (tgt := 159) F dX7_count_92 (by decide) ?_
            exact z_iret F dX7_count_159 (Prod.ext (Option.some.inj hf) rfl)
        · refine z_aload_n F dX7_count_71 0 rfl rfl ?_
          refine gM_0_13 F wm_775 dX7_count_72 ?_
          refine z_bipush (v := 8) F dX7_count_75 (by decide +kernel) ?_
          refine lM_6 F hf dX7_count_77 (fun hf => ?_)
          refine z_goto (tgt := 159) F dX7_count_78 (by decide) ?_
          exact z_iret F dX7_count_159 (Prod.ext (Option.some.inj hf) rfl)
      · refine z_aload_n F dX7_count_56 0 rfl rfl ?_
        refine gM_0_13 F wm_775 dX7_count_57 ?_
        refine z_bipush (v := 7) F dX7_count_60 (by decide +kernel) ?_
        refine lM_6 F hf dX7_count_62 (fun hf => ?_)
        refine z_goto (tgt := 159) F dX7_count_63 (by decide) ?_
        exact z_iret F dX7_count_159 (Prod.ext (Option.some.inj hf) rfl)
    · refine z_ldc F wm_846 dX7_count_48 ?_
      exact z_iret F dX7_count_50 (Prod.ext (Option.some.inj hf) rfl)
  · refine z_iconst (v := 0) F dX7_count_4 (by decide +kernel) ?_
    refine z_istore_n (L' := [(2, .int 0), (0, .ref (ad 0)), (1, .int a1)]) F dX7_count_5 rfl (Nat.le_of_ble_eq_true rfl) rfl ?_
    refine z_iconst (v := 0) F dX7_count_6 (by decide +kernel) ?_
    refine z_istore_n (L' := [(3, .int 0), (2, .int 0), (0, .ref (ad 0)), (1, .int a1)]) F dX7_count_7 rfl (Nat.le_of_ble_eq_true rfl) rfl ?_
    exact z_sub [2, 1, 0] rfl (z_X7_count_8 F n X n 0 0 hf)
theorem c_X7_count {D : va_G} {cI cZ : ClassId} {ad : Nat → Nat} {r : Int32} (n : Nat) (X : KX) (a1 : Int32) (hf : f_X7_count n X a1 = some r) : zMI (yM D cI cZ ad) yX7_count cX7_count 4 (some .int) 2 [.ref (ad 0), .int a1] X (r, X) := zMI_of (by decide +kernel) (Nat.le_of_ble_eq_true rfl) (fun z F => z_sub [0, 1] rfl (z_X7_count F n X a1 hf))
theorem k_X7_count {z : ZC} {D : va_G} {cI cZ : ClassId} {ad : Nat → Nat} {cc : ByteArray} {own : String} {nL d pc index : Nat} {ret : Option FieldType} {Q : State → Prop} {X : KX} {L : List (Nat × Value)} {rest : List Value} {n : Nat} {a1 : Int32} (F : ZF z (yM D cI cZ ad) cc own nL ret d) (hd : 2 + 1 ≤ d) (hw : Cond.methodLink own index yX7_count ∈ wsA) (hst : (rest.map fun v => v.category).sum ≤ 8) {β : Type} {e : Int32 → Option β} {r : β} (hf : zB1 (f_X7_count n X a1) e = some r) (hdg : decode cc pc = .ok (.invokevirtual index, 3)) (kk : ∀ v : Int32, e v = some r → Z z (yM D cI cZ ad) nL Q X (pc + 3) L (.int v :: rest)) : Z z (yM D cI cZ ad) nL Q X pc L (.int a1 :: .ref (ad 0) :: rest) := by
  obtain ⟨v, h1, h2⟩ := zB1_some hf
  exact z_cVI (As := [.int a1]) F (c_X7_count n X a1 h1) kn_X7_count kv_X7_count hw (q0 := 0) rfl rfl hd rfl hst hdg rfl (kk v h2)
theorem kv_X7_status : zKv yX7_status := ⟨wm_1130, wm_1131⟩
theorem kn_X7_status : zKn yX7_status cX7_status 1 (some .int) 0 := ⟨wm_1132, wm_62, by decide +kernel, by decide⟩
set_option maxHeartbeats 4000000 in
set_option maxRecDepth 100000 in
theorem z_X7_status {z : ZC} {D : va_G} {cI cZ : ClassId} {ad : Nat → Nat} {r : Int32} (F : ZF z (yM D cI cZ ad) cX7_status RX7 1 (some .int) 1) (X : KX)  (hf : f_X7_status X = r) : Z z (yM D cI cZ ad) 1 (zQI z (yM D cI cZ ad) (r, X)) X 0 [(0, .ref (ad 0))] [] := by
  unfold f_X7_status at hf
  refine z_aload_n F dX7_status_0 0 rfl rfl ?_
  refine gM_0_4 F wm_766 dX7_status_1 ?_
  exact z_iret F dX7_status_4 (Prod.ext hf rfl)
theorem c_X7_status {D : va_G} {cI cZ : ClassId} {ad : Nat → Nat} (X : KX)  : zMI (yM D cI cZ ad) yX7_status cX7_status 1 (some .int) 1 [.ref (ad 0)] X (f_X7_status X, X) := zMI_of (by decide +kernel) (Nat.le_of_ble_eq_true rfl) (fun z F => z_sub [0] rfl (z_X7_status F X rfl))
theorem k_X7_status {z : ZC} {D : va_G} {cI cZ : ClassId} {ad : Nat → Nat} {cc : ByteArray} {own : String} {nL d pc index : Nat} {ret : Option FieldType} {Q : State → Prop} {X : KX} {L : List (Nat × Value)} {rest : List Value} (F : ZF z (yM D cI cZ ad) cc own nL ret d) (hd : 1 + 1 ≤ d) (hw : Cond.methodLink own index yX7_status ∈ wsA) (hst : (rest.map fun v => v.category).sum ≤ 8) (hdg : decode cc pc = .ok (.invokevirtual index, 3)) (kk : Z z (yM D cI cZ ad) nL Q X (pc + 3) L (.int (f_X7_status X) :: rest)) : Z z (yM D cI cZ ad) nL Q X pc L (.ref (ad 0) :: rest) := z_cVI (As := []) F (c_X7_status X) kn_X7_status kv_X7_status hw (q0 := 0) rfl rfl hd rfl hst hdg rfl kk
