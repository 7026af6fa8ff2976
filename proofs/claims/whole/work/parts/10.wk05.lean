theorem c_X1_sizeBody {D : va_G} {cI : ClassId} {ad : Nat → Nat} (X : KX) (a0 : Int32) : zMI (yK D cI ad) yX1_sizeBody cX1_sizeBody 1 (some .int) 1 [.int a0] X (f_X1_sizeBody a0, X) := zMI_of (by decide +kernel) (Nat.le_of_ble_eq_true rfl) (fun z F => z_sub [0] rfl (z_X1_sizeBody F a0 rfl))
theorem k_X1_sizeBody {z : ZC} {D : va_G} {cI : ClassId} {ad : Nat → Nat} {cc : ByteArray} {own : String} {nL d pc index : Nat} {ret : Option FieldType} {Q : State → Prop} {X : KX} {L : List (Nat × Value)} {rest : List Value} {a0 : Int32} (F : ZF z (yK D cI ad) cc own nL ret d) (hd : 1 + 1 ≤ d) (hw : Cond.methodLink own index yX1_sizeBody ∈ wsA) (hst : (rest.map fun v => v.category).sum ≤ 8) (hdg : decode cc pc = .ok (.invokestatic index, 3)) (kk : Z z (yK D cI ad) nL Q X (pc + 3) L (.int (f_X1_sizeBody a0) :: rest)) : Z z (yK D cI ad) nL Q X pc L (.int a0 :: rest) := z_cSI (As := [.int a0]) F (c_X1_sizeBody X a0) kn_X1_sizeBody kv_X1_sizeBody hw hd rfl hst hdg rfl kk
theorem k_X1_sizeBodyN {z : ZC} {D : va_G} {cI : ClassId} {ad : Nat → Nat} {cc : ByteArray} {own : String} {nL d pc index : Nat} {ret : Option FieldType} {Q : State → Prop} {X : KX} {L : List (Nat × Value)} {rest : List Value} {a0 : Int32} (F : ZF z (yK D cI ad) cc own nL ret d) (hd : 1 + 1 ≤ d) (hw : ∀ s, zN s → va_Nw (.methodLinkNest own index yX1_sizeBody "AilingKing") s) (hst : (rest.map fun v => v.category).sum ≤ 8) (hdg : decode cc pc = .ok (.invokestatic index, 3)) (kk : Z z (yK D cI ad) nL Q X (pc + 3) L (.int (f_X1_sizeBody a0) :: rest)) : Z z (yK D cI ad) nL Q X pc L (.int a0 :: rest) := z_cNI (As := [.int a0]) F (c_X1_sizeBody X a0) kn_X1_sizeBody kv_X1_sizeBody hw hd rfl hst hdg rfl kk
theorem kv_X1_leave : zKv yX1_leave := ⟨wm_736, wm_17⟩
theorem kn_X1_leave : zKn yX1_leave cX1_leave 2 none 1 := ⟨wm_737, wm_61, by decide +kernel, by decide⟩
set_option maxHeartbeats 4000000 in
set_option maxRecDepth 100000 in
theorem z_X1_leave {z : ZC} {D : va_G} {cI : ClassId} {ad : Nat → Nat} {R : KX} (F : ZF z (yK D cI ad) cX1_leave RX1 2 none 1) (X : KX) (a1 : Int32) (hf : f_X1_leave X a1 = some R) : Z z (yK D cI ad) 2 (zQV z (yK D cI ad) R) X 0 [(0, .ref (ad 49)), (1, .int a1)] [] := by
  unfold f_X1_leave at hf
  refine z_aload_n F dX1_leave_0 0 rfl rfl ?_
  refine gK_49_1 F wm_267 dX1_leave_1 ?_
  refine z_bipush (v := 16) F dX1_leave_4 (by decide +kernel) ?_
  refine z_icmp_ge (tgt := 29) F hf dX1_leave_6 (by decide) (fun hf => ?_) (fun hf => ?_)
  · exact z_vret F dX1_leave_29 (Option.some.inj hf)
  · refine z_aload_n F dX1_leave_9 0 rfl rfl ?_
    refine gK_49_0 F wm_265 dX1_leave_10 ?_
    refine z_aload_n F dX1_leave_13 0 rfl rfl ?_
    refine gK_49_1 F wm_267 dX1_leave_14 ?_
    refine z_iload_n F dX1_leave_17 1 rfl rfl ?_
    refine sK_50 F hf dX1_leave_18 (fun X_1 hf => ?_)
    refine z_aload_n F dX1_leave_19 0 rfl rfl ?_
    refine z_dup F dX1_leave_20 rfl ?_
    refine gK_49_1 F wm_267 dX1_leave_21 ?_
    refine z_iconst (v := 1) F dX1_leave_24 (by decide +kernel) ?_
    refine z_iadd F dX1_leave_25 ?_
    refine pK_49_1 F hf wm_267 dX1_leave_26 (fun X_2 hf => ?_)
    exact z_vret F dX1_leave_29 (Option.some.inj hf)
theorem c_X1_leave {D : va_G} {cI : ClassId} {ad : Nat → Nat} {R : KX} (X : KX) (a1 : Int32) (hf : f_X1_leave X a1 = some R) : zMV (yK D cI ad) yX1_leave cX1_leave 2 none 1 [.ref (ad 49), .int a1] X R := zMV_of (by decide +kernel) (Nat.le_of_ble_eq_true rfl) (fun z F => z_sub [0, 1] rfl (z_X1_leave F X a1 hf))
theorem k_X1_leave {z : ZC} {D : va_G} {cI : ClassId} {ad : Nat → Nat} {cc : ByteArray} {own : String} {nL d pc index : Nat} {ret : Option FieldType} {Q : State → Prop} {X : KX} {L : List (Nat × Value)} {rest : List Value} {a1 : Int32} (F : ZF z (yK D cI ad) cc own nL ret d) (hd : 1 + 1 ≤ d) (hw : Cond.methodLink own index yX1_leave ∈ wsA) (hst : (rest.map fun v => v.category).sum ≤ 8) {β : Type} {e : KX → Option β} {r : β} (hf : zB1 (f_X1_leave X a1) e = some r) (hdg : decode cc pc = .ok (.invokevirtual index, 3)) (kk : ∀ X2 : KX, e X2 = some r → Z z (yK D cI ad) nL Q X2 (pc + 3) L rest) : Z z (yK D cI ad) nL Q X pc L (.int a1 :: .ref (ad 49) :: rest) := by
  obtain ⟨v, h1, h2⟩ := zB1_some hf
  exact z_cVV (As := [.int a1]) F (c_X1_leave X a1 h1) kn_X1_leave kv_X1_leave hw (q0 := 49) rfl rfl hd rfl hst hdg rfl (kk v h2)
theorem kv_X1_given : Cond.static yX1_given ∈ wsA := wm_732
theorem kn_X1_given : zKn yX1_given cX1_given 6 (some .int) 5 := ⟨wm_733, wm_61, by decide +kernel, by decide⟩
set_option maxHeartbeats 4000000 in
set_option maxRecDepth 100000 in
theorem c_X1_given {D : va_G} {cI : ClassId} {ad : Nat → Nat}  : ∀ (t : Nat) (X : KX) (a2 : Int32) (a3 : Int32) (a4 : Int32) (R : Int32 × KX), f_X1_given t X a2 a3 a4 = some R → zMI (yK D cI ad) yX1_given cX1_given 6 (some .int) (2 + t) [.ref (ad 49), .ref (ad 7), .int a2, .int a3, .int a4] X R := by
  intro t
  induction t with
  | zero => intro X a2 a3 a4 R hf; rw [f_X1_given] at hf; exact zNone hf
  | succ t ih =>
    intro X a2 a3 a4 R hf
    rw [f_X1_given] at hf
    refine zMI_of (by decide +kernel) (Nat.le_of_ble_eq_true rfl) (fun z F => z_sub (L' := [(0, .ref (ad 49)), (1, .ref (ad 7)), (2, .int a2), (3, .int a3), (4, .int a4)]) [0, 1, 2, 3, 4] rfl ?_)
    have hlev : 2 + t + 1 ≤ 2 + (t + 1) := Nat.le_refl _
    have hd0 : 2 ≤ 2 + (t + 1) := Nat.le_add_right _ _
    have hrc : ∀ (X : KX) (a2 : Int32) (a3 : Int32) (a4 : Int32) (q : Int32 × KX), (f_X1_given t) X a2 a3 a4 = some q → zMI (yK D cI ad) yX1_given cX1_given 6 (some .int) (2 + t) [.ref (ad 49), .ref (ad 7), .int a2, .int a3, .int a4] X q := fun X a2 a3 a4 q hq => ih X a2 a3 a4 q hq
    refine z_iload F dX1_given_0 4 rfl ?_
    refine z_bipush (v := 8) F dX1_given_2 (by decide +kernel) ?_
    refine z_icmp_lt (tgt := 9) F hf dX1_given_4 (by decide) (fun hf => ?_) (fun hf => ?_)
    · refine z_aload_n F dX1_given_9 1 rfl rfl ?_
      refine gK_7_6 F wm_144 dX1_given_10 ?_
      refine z_iload_n F dX1_given_13 3 rfl rfl ?_
      refine lK_8 F hf dX1_given_14 (fun hf => ?_)
      refine z_top hf (fun v5_1 hf => ?_)
      refine z_istore (L' := [(5, .int v5_1), (0, .ref (ad 49)), (1, .ref (ad 7)), (2, .int a2), (3, .int a3), (4, .int a4)]) F dX1_given_15 (Nat.le_of_ble_eq_true rfl) rfl ?_
      refine z_aload_n F dX1_given_17 1 rfl rfl ?_
      refine z_iload_n F dX1_given_18 3 rfl rfl ?_
      refine k_X1_leave F (Nat.le_trans (by decide) hd0) wm_734 (Nat.le_of_ble_eq_true rfl) hf dX1_given_19 (fun X_2 hf => ?_)
      refine z_iload_n F dX1_given_22 3 rfl rfl ?_
      refine zIte hf (fun c0 hf => ?_) (fun c0 hf => ?_)
      · refine z_swIn (v := 10) (off := 73) (tgt := 96) F c0 dX1_given_23 (by decide +kernel) ?_
        refine z_aload_n F dX1_given_96 2 rfl rfl ?_
        refine gK_7_9 F wm_158 dX1_given_97 ?_
        refine z_iload_n F dX1_given_100 4 rfl rfl ?_
        refine lK_11 F hf dX1_given_101 (fun hf => ?_)
        exact z_iret F dX1_given_102 (Option.some.inj hf)
      · refine zIte hf (fun c1 hf => ?_) (fun c1 hf => ?_)
        · refine z_swIn (v := 11) (off := 80) (tgt := 103) F c1 dX1_given_23 (by decide +kernel) ?_
          refine z_aload_n F dX1_given_103 1 rfl rfl ?_
          refine z_aload_n F dX1_given_104 2 rfl rfl ?_
          refine z_bipush (v := 10) F dX1_given_105 (by decide +kernel) ?_
          refine z_iload_n F dX1_given_107 4 rfl rfl ?_
          refine z_iload F dX1_given_108 5 rfl ?_
          refine z_iconst (v := 1) F dX1_given_110 (by decide +kernel) ?_
          refine z_iadd F dX1_given_111 ?_
          obtain ⟨r_3, X_4, hc, hf⟩ := zB2_some hf
          refine z_cSI (As := [.ref (ad 49), .ref (ad 7), .int 10, .int a3, .int (a4 + 1)]) F (hrc X_2 10 a3 (a4 + 1) _ hc) kn_X1_given kv_X1_given wm_731 hlev rfl (Nat.le_of_ble_eq_true rfl) dX1_given_112 rfl ?_
          refine z_aload_n F dX1_given_115 1 rfl rfl ?_
          refine z_aload_n F dX1_given_116 2 rfl rfl ?_
          refine z_iload F dX1_given_117 0 rfl ?_
          refine k_X1_markBody F (Nat.le_trans (by decide) hd0) wm_728 (Nat.le_of_ble_eq_true rfl) dX1_given_119 ?_
          refine z_iload_n F dX1_given_122 4 rfl rfl ?_
          refine z_iload F dX1_given_123 5 rfl ?_
          refine z_iconst (v := 1) F dX1_given_125 (by decide +kernel) ?_
          refine z_iadd F dX1_given_126 ?_
          obtain ⟨r_5, X_6, hc, hf⟩ := zB2_some hf
          refine z_cSI (As := [.ref (ad 49), .ref (ad 7), .int (f_X1_markBody v5_1), .int a3, .int (a4 + 1)]) F (hrc X_4 (f_X1_markBody v5_1) a3 (a4 + 1) _ hc) kn_X1_given kv_X1_given wm_731 hlev rfl (Nat.le_of_ble_eq_true rfl) dX1_given_127 rfl ?_
          refine z_iadd F dX1_given_130 ?_
          exact z_iret F dX1_given_131 (Option.some.inj hf)
        · refine zIte hf (fun c2 hf => ?_) (fun c2 hf => ?_)
          · refine z_swIn (v := 12) (off := 109) (tgt := 132) F c2 dX1_given_23 (by decide +kernel) ?_
            refine z_aload_n F dX1_given_132 1 rfl rfl ?_
            refine z_aload_n F dX1_given_133 2 rfl rfl ?_
            refine z_bipush (v := 11) F dX1_given_134 (by decide +kernel) ?_
            refine z_iload_n F dX1_given_136 4 rfl rfl ?_
            refine z_iload F dX1_given_137 5 rfl ?_
            refine z_iconst (v := 1) F dX1_given_139 (by decide +kernel) ?_
            refine z_iadd F dX1_given_140 ?_
            obtain ⟨r_7, X_8, hc, hf⟩ := zB2_some hf
            refine z_cSI (As := [.ref (ad 49), .ref (ad 7), .int 11, .int a3, .int (a4 + 1)]) F (hrc X_2 11 a3 (a4 + 1) _ hc) kn_X1_given kv_X1_given wm_731 hlev rfl (Nat.le_of_ble_eq_true rfl) dX1_given_141 rfl ?_
            refine z_ineg F dX1_given_144 ?_
            exact z_iret F dX1_given_145 (Option.some.inj hf)
          · refine zIte hf (fun c3 hf => ?_) (fun c3 hf => ?_)
            · refine z_swIn (v := 13) (off := 123) (tgt := 146) F c3 dX1_given_23 (by decide +kernel) ?_
              refine z_aload_n F dX1_given_146 1 rfl rfl ?_
              refine z_aload_n F dX1_given_147 2 rfl rfl ?_
              refine z_bipush (v := 10) F dX1_given_148 (by decide +kernel) ?_
              refine z_iload_n F dX1_given_150 4 rfl rfl ?_
              refine z_iload F dX1_given_151 5 rfl ?_
              refine z_iconst (v := 1) F dX1_given_153 (by decide +kernel) ?_
              refine z_iadd F dX1_given_154 ?_
              obtain ⟨r_9, X_10, hc, hf⟩ := zB2_some hf
              refine z_cSI (As := [.ref (ad 49), .ref (ad 7), .int 10, .int a3, .int (a4 + 1)]) F (hrc X_2 10 a3 (a4 + 1) _ hc) kn_X1_given kv_X1_given wm_731 hlev rfl (Nat.le_of_ble_eq_true rfl) dX1_given_155 rfl ?_
              refine z_bipush (v := 100) F dX1_given_158 (by decide +kernel) ?_
              refine z_isub F dX1_given_160 ?_
              exact z_iret F dX1_given_161 (Option.some.inj hf)
            · refine zIte hf (fun c4 hf => ?_) (fun c4 hf => ?_)
              · refine z_swIn (v := 14) (off := 139) (tgt := 162) F c4 dX1_given_23 (by decide +kernel) ?_
                refine z_iconst (v := 2) F dX1_given_162 (by decide +kernel) ?_
                refine z_aload_n F dX1_given_163 1 rfl rfl ?_
                refine z_aload_n F dX1_given_164 2 rfl rfl ?_
                refine z_bipush (v := 13) F dX1_given_165 (by decide +kernel) ?_
                refine z_iload_n F dX1_given_167 4 rfl rfl ?_
                refine z_iload F dX1_given_168 5 rfl ?_
                refine z_iconst (v := 1) F dX1_given_170 (by decide +kernel) ?_
                refine z_iadd F dX1_given_171 ?_
                obtain ⟨r_11, X_12, hc, hf⟩ := zB2_some hf
                refine z_cSI (As := [.ref (ad 49), .ref (ad 7), .int 13, .int a3, .int (a4 + 1)]) F (hrc X_2 13 a3 (a4 + 1) _ hc) kn_X1_given kv_X1_given wm_731 hlev rfl (Nat.le_of_ble_eq_true rfl) dX1_given_172 rfl ?_
                refine z_imul F dX1_given_175 ?_
                exact z_iret F dX1_given_176 (Option.some.inj hf)
              · refine zIte hf (fun c5 hf => ?_) (fun c5 hf => ?_)
                · refine z_swIn (v := 15) (off := 237) (tgt := 260) F c5 dX1_given_23 (by decide +kernel) ?_
                  refine z_iconst (v := 0) F dX1_given_260 (by decide +kernel) ?_
                  exact z_iret F dX1_given_261 (Option.some.inj hf)
                · refine zIte hf (fun c6 hf => ?_) (fun c6 hf => ?_)
                  · refine z_swIn (v := 16) (off := 237) (tgt := 260) F c6 dX1_given_23 (by decide +kernel) ?_
                    refine z_iconst (v := 0) F dX1_given_260 (by decide +kernel) ?_
                    exact z_iret F dX1_given_261 (Option.some.inj hf)
                  · refine zIte hf (fun c7 hf => ?_) (fun c7 hf => ?_)
                    · refine z_swIn (v := 17) (off := 237) (tgt := 260) F c7 dX1_given_23 (by decide +kernel) ?_
                      refine z_iconst (v := 0) F dX1_given_260 (by decide +kernel) ?_
                      exact z_iret F dX1_given_261 (Option.some.inj hf)
                    · refine zIte hf (fun c8 hf => ?_) (fun c8 hf => ?_)
                      · refine z_swIn (v := 18) (off := 237) (tgt := 260) F c8 dX1_given_23 (by decide +kernel) ?_
                        refine z_iconst (v := 0) F dX1_given_260 (by decide +kernel) ?_
                        exact z_iret F dX1_given_261 (Option.some.inj hf)
                      · refine zIte hf (fun c9 hf => ?_) (fun c9 hf => ?_)
                        · refine z_swIn (v := 19) (off := 237) (tgt := 260) F c9 dX1_given_23 (by decide +kernel) ?_
                          refine z_iconst (v := 0) F dX1_given_260 (by decide +kernel) ?_
                          exact z_iret F dX1_given_261 (Option.some.inj hf)
                        · refine zIte hf (fun c10 hf => ?_) (fun c10 hf => ?_)
                          · refine z_swIn (v := 20) (off := 154) (tgt := 177) F c10 dX1_given_23 (by decide +kernel) ?_
                            refine z_iload_n F dX1_given_177 4 rfl rfl ?_
                            exact z_iret F dX1_given_178 (Option.some.inj hf)
                          · refine zIte hf (fun c11 hf => ?_) (fun c11 hf => ?_)
                            · refine z_swIn (v := 21) (off := 156) (tgt := 179) F c11 dX1_given_23 (by decide +kernel) ?_
                              refine z_aload_n F dX1_given_179 1 rfl rfl ?_
                              refine z_aload_n F dX1_given_180 2 rfl rfl ?_
                              refine z_bipush (v := 20) F dX1_given_181 (by decide +kernel) ?_
                              refine z_iload_n F dX1_given_183 4 rfl rfl ?_
                              refine z_iload F dX1_given_184 5 rfl ?_
                              refine z_iconst (v := 1) F dX1_given_186 (by decide +kernel) ?_
                              refine z_iadd F dX1_given_187 ?_
                              obtain ⟨r_13, X_14, hc, hf⟩ := zB2_some hf
                              refine z_cSI (As := [.ref (ad 49), .ref (ad 7), .int 20, .int a3, .int (a4 + 1)]) F (hrc X_2 20 a3 (a4 + 1) _ hc) kn_X1_given kv_X1_given wm_731 hlev rfl (Nat.le_of_ble_eq_true rfl) dX1_given_188 rfl ?_
                              refine z_aload_n F dX1_given_191 2 rfl rfl ?_
                              refine gK_7_7 F wm_150 dX1_given_192 ?_
                              refine z_iload_n F dX1_given_195 4 rfl rfl ?_
                              refine lK_9 F hf dX1_given_196 (fun hf => ?_)
                              refine z_iadd F dX1_given_197 ?_
                              exact z_iret F dX1_given_198 (Option.some.inj hf)
                            · refine zIte hf (fun c12 hf => ?_) (fun c12 hf => ?_)
                              · refine z_swIn (v := 22) (off := 176) (tgt := 199) F c12 dX1_given_23 (by decide +kernel) ?_
                                refine z_aload_n F dX1_given_199 1 rfl rfl ?_
                                refine z_aload_n F dX1_given_200 2 rfl rfl ?_
                                refine z_bipush (v := 21) F dX1_given_201 (by decide +kernel) ?_
                                refine z_iload_n F dX1_given_203 4 rfl rfl ?_
                                refine z_iload F dX1_given_204 5 rfl ?_
                                refine z_iconst (v := 1) F dX1_given_206 (by decide +kernel) ?_
                                refine z_iadd F dX1_given_207 ?_
                                obtain ⟨r_15, X_16, hc, hf⟩ := zB2_some hf
                                refine z_cSI (As := [.ref (ad 49), .ref (ad 7), .int 21, .int a3, .int (a4 + 1)]) F (hrc X_2 21 a3 (a4 + 1) _ hc) kn_X1_given kv_X1_given wm_731 hlev rfl (Nat.le_of_ble_eq_true rfl) dX1_given_208 rfl ?_
                                refine z_sipush (v := 1000) F dX1_given_211 (by decide +kernel) ?_
                                refine z_isub F dX1_given_214 ?_
                                exact z_iret F dX1_given_215 (Option.some.inj hf)
                              · refine zIte hf (fun c13 hf => ?_) (fun c13 hf => ?_)
                                · refine z_swIn (v := 23) (off := 193) (tgt := 216) F c13 dX1_given_23 (by decide +kernel) ?_
                                  refine z_aload_n F dX1_given_216 1 rfl rfl ?_
                                  refine z_aload_n F dX1_given_217 2 rfl rfl ?_
                                  refine z_bipush (v := 20) F dX1_given_218 (by decide +kernel) ?_
                                  refine z_iload_n F dX1_given_220 4 rfl rfl ?_
                                  refine z_iload F dX1_given_221 5 rfl ?_
                                  refine z_iconst (v := 1) F dX1_given_223 (by decide +kernel) ?_
                                  refine z_iadd F dX1_given_224 ?_
                                  obtain ⟨r_17, X_18, hc, hf⟩ := zB2_some hf
                                  refine z_cSI (As := [.ref (ad 49), .ref (ad 7), .int 20, .int a3, .int (a4 + 1)]) F (hrc X_2 20 a3 (a4 + 1) _ hc) kn_X1_given kv_X1_given wm_731 hlev rfl (Nat.le_of_ble_eq_true rfl) dX1_given_225 rfl ?_
                                  refine z_aload_n F dX1_given_228 1 rfl rfl ?_
                                  refine z_aload_n F dX1_given_229 2 rfl rfl ?_
                                  refine z_iload F dX1_given_230 0 rfl ?_
                                  refine k_X1_sizeBody F (Nat.le_trans (by decide) hd0) wm_725 (Nat.le_of_ble_eq_true rfl) dX1_given_232 ?_
                                  refine z_iload_n F dX1_given_235 4 rfl rfl ?_
                                  refine z_iload F dX1_given_236 5 rfl ?_
                                  refine z_iconst (v := 1) F dX1_given_238 (by decide +kernel) ?_
                                  refine z_iadd F dX1_given_239 ?_
                                  obtain ⟨r_19, X_20, hc, hf⟩ := zB2_some hf
                                  refine z_cSI (As := [.ref (ad 49), .ref (ad 7), .int (f_X1_sizeBody v5_1), .int a3, .int (a4 + 1)]) F (hrc X_18 (f_X1_sizeBody v5_1) a3 (a4 + 1) _ hc) kn_X1_given kv_X1_given wm_731 hlev rfl (Nat.le_of_ble_eq_true rfl) dX1_given_240 rfl ?_
                                  refine z_isub F dX1_given_243 ?_
                                  exact z_iret F dX1_given_244 (Option.some.inj hf)
                                · refine zIte hf (fun c14 hf => ?_) (fun c14 hf => ?_)
                                  · refine z_swIn (v := 24) (off := 222) (tgt := 245) F c14 dX1_given_23 (by decide +kernel) ?_
                                    refine z_iconst (v := 2) F dX1_given_245 (by decide +kernel) ?_
                                    refine z_aload_n F dX1_given_246 1 rfl rfl ?_
                                    refine z_aload_n F dX1_given_247 2 rfl rfl ?_
                                    refine z_bipush (v := 21) F dX1_given_248 (by decide +kernel) ?_
                                    refine z_iload_n F dX1_given_250 4 rfl rfl ?_
                                    refine z_iload F dX1_given_251 5 rfl ?_
                                    refine z_iconst (v := 1) F dX1_given_253 (by decide +kernel) ?_
                                    refine z_iadd F dX1_given_254 ?_
                                    obtain ⟨r_21, X_22, hc, hf⟩ := zB2_some hf
                                    refine z_cSI (As := [.ref (ad 49), .ref (ad 7), .int 21, .int a3, .int (a4 + 1)]) F (hrc X_2 21 a3 (a4 + 1) _ hc) kn_X1_given kv_X1_given wm_731 hlev rfl (Nat.le_of_ble_eq_true rfl) dX1_given_255 rfl ?_
                                    refine z_imul F dX1_given_258 ?_
                                    exact z_iret F dX1_given_259 (Option.some.inj hf)
                                  · refine z_swOut (tgt := 260) F dX1_given_23 (by have e0 := lv_neT c0 (show (10 : Int32).toInt = 10 by decide +kernel); have e1 := lv_neT c1 (show (11 : Int32).toInt = 11 by decide +kernel); have e2 := lv_neT c2 (show (12 : Int32).toInt = 12 by decide +kernel); have e3 := lv_neT c3 (show (13 : Int32).toInt = 13 by decide +kernel); have e4 := lv_neT c4 (show (14 : Int32).toInt = 14 by decide +kernel); have e5 := lv_neT c5 (show (15 : Int32).toInt = 15 by decide +kernel); have e6 := lv_neT c6 (show (16 : Int32).toInt = 16 by decide +kernel); have e7 := lv_neT c7 (show (17 : Int32).toInt = 17 by decide +kernel); have e8 := lv_neT c8 (show (18 : Int32).toInt = 18 by decide +kernel); have e9 := lv_neT c9 (show (19 : Int32).toInt = 19 by decide +kernel); have e10 := lv_neT c10 (show (20 : Int32).toInt = 20 by decide +kernel); have e11 := lv_neT c11 (show (21 : Int32).toInt = 21 by decide +kernel); have e12 := lv_neT c12 (show (22 : Int32).toInt = 22 by decide +kernel); have e13 := lv_neT c13 (show (23 : Int32).toInt = 23 by decide +kernel); have e14 := lv_neT c14 (show (24 : Int32).toInt = 24 by decide +kernel); omega) (by decide) ?_
                                    refine z_iconst (v := 0) F dX1_given_260 (by decide +kernel) ?_
                                    exact z_iret F dX1_given_261 (Option.some.inj hf)
    · refine z_iconst (v := 0) F dX1_given_7 (by decide +kernel) ?_
      exact z_iret F dX1_given_8 (Option.some.inj hf)
theorem k_X1_given {z : ZC} {D : va_G} {cI : ClassId} {ad : Nat → Nat} {cc : ByteArray} {own : String} {nL d pc index : Nat} {ret : Option FieldType} {Q : State → Prop} {X : KX} {L : List (Nat × Value)} {rest : List Value} {a2 a3 a4 : Int32} (F : ZF z (yK D cI ad) cc own nL ret d) (hd : (2 + 10) + 1 ≤ d) (hw : Cond.methodLink own index yX1_given ∈ wsA) (hst : (rest.map fun v => v.category).sum ≤ 8) {β : Type} {e : Int32 → KX → Option β} {r : β} (hf : zB2 (f_X1_given 10 X a2 a3 a4) e = some r) (hdg : decode cc pc = .ok (.invokestatic index, 3)) (kk : ∀ (v : Int32) (X2 : KX), e v X2 = some r → Z z (yK D cI ad) nL Q X2 (pc + 3) L (.int v :: rest)) : Z z (yK D cI ad) nL Q X pc L (.int a4 :: .int a3 :: .int a2 :: .ref (ad 7) :: .ref (ad 49) :: rest) := by
  obtain ⟨v, X2, h1, h2⟩ := zB2_some hf
  exact z_cSI (As := [.ref (ad 49), .ref (ad 7), .int a2, .int a3, .int a4]) F (c_X1_given 10 X a2 a3 a4 _ h1) kn_X1_given kv_X1_given hw hd rfl hst hdg rfl (kk v X2 h2)
theorem k_X1_givenN {z : ZC} {D : va_G} {cI : ClassId} {ad : Nat → Nat} {cc : ByteArray} {own : String} {nL d pc index : Nat} {ret : Option FieldType} {Q : State → Prop} {X : KX} {L : List (Nat × Value)} {rest : List Value} {a2 a3 a4 : Int32} (F : ZF z (yK D cI ad) cc own nL ret d) (hd : (2 + 10) + 1 ≤ d) (hw : ∀ s, zN s → va_Nw (.methodLinkNest own index yX1_given "AilingKing") s) (hst : (rest.map fun v => v.category).sum ≤ 8) {β : Type} {e : Int32 → KX → Option β} {r : β} (hf : zB2 (f_X1_given 10 X a2 a3 a4) e = some r) (hdg : decode cc pc = .ok (.invokestatic index, 3)) (kk : ∀ (v : Int32) (X2 : KX), e v X2 = some r → Z z (yK D cI ad) nL Q X2 (pc + 3) L (.int v :: rest)) : Z z (yK D cI ad) nL Q X pc L (.int a4 :: .int a3 :: .int a2 :: .ref (ad 7) :: .ref (ad 49) :: rest) := by
  obtain ⟨v, X2, h1, h2⟩ := zB2_some hf
  exact z_cNI (As := [.ref (ad 49), .ref (ad 7), .int a2, .int a3, .int a4]) F (c_X1_given 10 X a2 a3 a4 _ h1) kn_X1_given kv_X1_given hw hd rfl hst hdg rfl (kk v X2 h2)
theorem kv_X1_answer : zKv yX1_answer := ⟨wm_722, wm_723⟩
theorem kn_X1_answer : zKn yX1_answer cX1_answer 5 (some .int) 3 := ⟨wm_724, wm_61, by decide +kernel, by decide⟩
set_option maxHeartbeats 4000000 in
set_option maxRecDepth 100000 in
theorem z_X1_answer_32 {z : ZC} {D : va_G} {cI : ClassId} {ad : Nat → Nat} {R : Int32 × KX} (F : ZF z (yK D cI ad) cX1_answer RX1 5 (some .int) 15)  (X : KX) (s0 : Int32) (v2 : Int32) (hf : f_X1_answer_32 X s0 v2 = some R) : Z z (yK D cI ad) 5 (zQI z (yK D cI ad) R) X 32 [(2, .int v2)] [.int s0, .ref (ad 7), .ref (ad 49)] := by
  unfold f_X1_answer_32 at hf
  refine z_iload_n F dX1_answer_32 0 rfl rfl ?_
  refine z_iconst (v := 0) F dX1_answer_33 (by decide +kernel) ?_
  refine k_X1_given F (by decide) wm_731 (Nat.le_of_ble_eq_true rfl) hf dX1_answer_34 (fun r_1 X_2 hf => ?_)
  exact z_iret F dX1_answer_37 (Option.some.inj hf)
set_option maxHeartbeats 4000000 in
set_option maxRecDepth 100000 in
theorem z_X1_answer {z : ZC} {D : va_G} {cI : ClassId} {ad : Nat → Nat} {R : Int32 × KX} (F : ZF z (yK D cI ad) cX1_answer RX1 5 (some .int) 15) (X : KX) (a2 : Int32) (a3 : Int32) (hf : f_X1_answer X a2 a3 = some R) : Z z (yK D cI ad) 5 (zQI z (yK D cI ad) R) X 0 [(0, .ref (ad 49)), (1, .ref (ad 7)), (2, .int a2), (3, .int a3)] [] := by
  unfold f_X1_answer at hf
  refine z_aload_n F dX1_answer_0 1 rfl rfl ?_
  refine gK_7_6 F wm_144 dX1_answer_1 ?_
  refine z_iload_n F dX1_answer_4 2 rfl rfl ?_
  refine lK_8 F hf dX1_answer_5 (fun hf => ?_)
  refine z_top hf (fun v4_1 hf => ?_)
  refine z_istore (L' := [(4, .int v4_1), (0, .ref (ad 49)), (1, .ref (ad 7)), (2, .int a2), (3, .int a3)]) F dX1_answer_6 (Nat.le_of_ble_eq_true rfl) rfl ?_
  refine z_aload_n F dX1_answer_8 1 rfl rfl ?_
  refine z_iconst (v := 0) F dX1_answer_9 (by decide +kernel) ?_
  refine pK_49_1 F hf wm_267 dX1_answer_10 (fun X_2 hf => ?_)
  refine z_aload_n F dX1_answer_13 1 rfl rfl ?_
  refine z_aload_n F dX1_answer_14 2 rfl rfl ?_
  refine z_iload_n F dX1_answer_15 4 rfl rfl ?_
  refine z_if_ne (tgt := 27) F hf dX1_answer_16 (by decide) (fun hf => ?_) (fun hf => ?_)
  · refine z_iload F dX1_answer_27 0 rfl ?_
    refine k_X1_markBody F (by decide) wm_728 (Nat.le_of_ble_eq_true rfl) dX1_answer_29 ?_
    exact z_sub [3] rfl (z_X1_answer_32 F X_2 (f_X1_markBody v4_1) a2 hf)
  · refine z_iload F dX1_answer_19 0 rfl ?_
    refine k_X1_sizeBody F (by decide) wm_725 (Nat.le_of_ble_eq_true rfl) dX1_answer_21 ?_
    refine z_goto (tgt := 32) F dX1_answer_24 (by decide) ?_
    exact z_sub [3] rfl (z_X1_answer_32 F X_2 (f_X1_sizeBody v4_1) a2 hf)
theorem c_X1_answer {D : va_G} {cI : ClassId} {ad : Nat → Nat} {R : Int32 × KX} (X : KX) (a2 : Int32) (a3 : Int32) (hf : f_X1_answer X a2 a3 = some R) : zMI (yK D cI ad) yX1_answer cX1_answer 5 (some .int) 15 [.ref (ad 49), .ref (ad 7), .int a2, .int a3] X R := zMI_of (by decide +kernel) (Nat.le_of_ble_eq_true rfl) (fun z F => z_sub [0, 1, 2, 3] rfl (z_X1_answer F X a2 a3 hf))
theorem k_X1_answer {z : ZC} {D : va_G} {cI : ClassId} {ad : Nat → Nat} {cc : ByteArray} {own : String} {nL d pc index : Nat} {ret : Option FieldType} {Q : State → Prop} {X : KX} {L : List (Nat × Value)} {rest : List Value} {a2 a3 : Int32} (F : ZF z (yK D cI ad) cc own nL ret d) (hd : 15 + 1 ≤ d) (hw : Cond.methodLink own index yX1_answer ∈ wsA) (hst : (rest.map fun v => v.category).sum ≤ 8) {β : Type} {e : Int32 → KX → Option β} {r : β} (hf : zB2 (f_X1_answer X a2 a3) e = some r) (hdg : decode cc pc = .ok (.invokevirtual index, 3)) (kk : ∀ (v : Int32) (X2 : KX), e v X2 = some r → Z z (yK D cI ad) nL Q X2 (pc + 3) L (.int v :: rest)) : Z z (yK D cI ad) nL Q X pc L (.int a3 :: .int a2 :: .ref (ad 7) :: .ref (ad 49) :: rest) := by
  obtain ⟨v, X2, h1, h2⟩ := zB2_some hf
  exact z_cVI (As := [.ref (ad 7), .int a2, .int a3]) F (c_X1_answer X a2 a3 h1) kn_X1_answer kv_X1_answer hw (q0 := 49) rfl rfl hd rfl hst hdg rfl (kk v X2 h2)
theorem kv_X6_ask : zKv yX6_ask := ⟨wm_718, wm_719⟩
theorem kn_X6_ask : zKn yX6_ask cX6_ask 3 (some .int) 2 := ⟨wm_720, wm_55, by decide +kernel, by decide⟩
set_option maxHeartbeats 4000000 in
set_option maxRecDepth 100000 in
theorem z_X6_ask {z : ZC} {D : va_G} {cI : ClassId} {ad : Nat → Nat} {R : Int32 × KX} (F : ZF z (yK D cI ad) cX6_ask RX6 3 (some .int) 16) (X : KX) (a1 : Int32) (a2 : Int32) (hf : f_X6_ask X a1 a2 = some R) : Z z (yK D cI ad) 3 (zQI z (yK D cI ad) R) X 0 [(0, .ref (ad 0)), (1, .int a1), (2, .int a2)] [] := by
  unfold f_X6_ask at hf
  refine z_aload_n F dX6_ask_0 0 rfl rfl ?_
  refine gK_0_2 F wm_276 dX6_ask_1 ?_
  refine z_iload_n F dX6_ask_4 1 rfl rfl ?_
  refine k_X2_isHint F (by decide) wm_470 (Nat.le_of_ble_eq_true rfl) dX6_ask_5 ?_
  refine z_if_eq (tgt := 19) F hf dX6_ask_8 (by decide) (fun hf => ?_) (fun hf => ?_)
  · refine z_ldc F wm_315 dX6_ask_19 ?_
    exact z_iret F dX6_ask_21 (Option.some.inj hf)
  · refine z_iload_n F dX6_ask_11 2 rfl rfl ?_
    refine z_iconst (v := 2) F dX6_ask_12 (by decide +kernel) ?_
    refine k_X6_isBelow F (by decide) wm_312 (Nat.le_of_ble_eq_true rfl) dX6_ask_13 ?_
    refine z_if_ne (tgt := 22) F hf dX6_ask_16 (by decide) (fun hf => ?_) (fun hf => ?_)
    · refine z_aload_n F dX6_ask_22 0 rfl rfl ?_
      refine gK_0_8 F wm_282 dX6_ask_23 ?_
      refine z_aload_n F dX6_ask_26 0 rfl rfl ?_
      refine gK_0_2 F wm_276 dX6_ask_27 ?_
      refine z_iload_n F dX6_ask_30 1 rfl rfl ?_
      refine z_iload_n F dX6_ask_31 2 rfl rfl ?_
      refine k_X1_answer F (by decide) wm_721 (Nat.le_of_ble_eq_true rfl) hf dX6_ask_32 (fun r_1 X_2 hf => ?_)
      exact z_iret F dX6_ask_35 (Option.some.inj hf)
    · refine z_ldc F wm_315 dX6_ask_19 ?_
      exact z_iret F dX6_ask_21 (Option.some.inj hf)
theorem c_X6_ask {D : va_G} {cI : ClassId} {ad : Nat → Nat} {R : Int32 × KX} (X : KX) (a1 : Int32) (a2 : Int32) (hf : f_X6_ask X a1 a2 = some R) : zMI (yK D cI ad) yX6_ask cX6_ask 3 (some .int) 16 [.ref (ad 0), .int a1, .int a2] X R := zMI_of (by decide +kernel) (Nat.le_of_ble_eq_true rfl) (fun z F => z_sub [0, 1, 2] rfl (z_X6_ask F X a1 a2 hf))
theorem k_X6_ask {z : ZC} {D : va_G} {cI : ClassId} {ad : Nat → Nat} {cc : ByteArray} {own : String} {nL d pc index : Nat} {ret : Option FieldType} {Q : State → Prop} {X : KX} {L : List (Nat × Value)} {rest : List Value} {a1 a2 : Int32} (F : ZF z (yK D cI ad) cc own nL ret d) (hd : 16 + 1 ≤ d) (hw : Cond.methodLink own index yX6_ask ∈ wsA) (hst : (rest.map fun v => v.category).sum ≤ 8) {β : Type} {e : Int32 → KX → Option β} {r : β} (hf : zB2 (f_X6_ask X a1 a2) e = some r) (hdg : decode cc pc = .ok (.invokevirtual index, 3)) (kk : ∀ (v : Int32) (X2 : KX), e v X2 = some r → Z z (yK D cI ad) nL Q X2 (pc + 3) L (.int v :: rest)) : Z z (yK D cI ad) nL Q X pc L (.int a2 :: .int a1 :: .ref (ad 0) :: rest) := by
  obtain ⟨v, X2, h1, h2⟩ := zB2_some hf
  exact z_cVI (As := [.int a1, .int a2]) F (c_X6_ask X a1 a2 h1) kn_X6_ask kv_X6_ask hw (q0 := 0) rfl rfl hd rfl hst hdg rfl (kk v X2 h2)
theorem kv_X6_trace : zKv yX6_trace := ⟨wm_739, wm_740⟩
theorem kn_X6_trace : zKn yX6_trace cX6_trace 2 (some .int) 1 := ⟨wm_741, wm_55, by decide +kernel, by decide⟩
set_option maxHeartbeats 4000000 in
set_option maxRecDepth 100000 in
theorem z_X6_trace {z : ZC} {D : va_G} {cI : ClassId} {ad : Nat → Nat} {r : Int32} (F : ZF z (yK D cI ad) cX6_trace RX6 2 (some .int) 2) (X : KX) (a1 : Int32) (hf : f_X6_trace X a1 = some r) : Z z (yK D cI ad) 2 (zQI z (yK D cI ad) (r, X)) X 0 [(0, .ref (ad 0)), (1, .int a1)] [] := by
  unfold f_X6_trace at hf
  refine z_iload_n F dX6_trace_0 1 rfl rfl ?_
  refine z_aload_n F dX6_trace_1 0 rfl rfl ?_
  refine gK_0_8 F wm_282 dX6_trace_2 ?_
  refine gK_49_1 F wm_268 dX6_trace_5 ?_
  refine k_X6_isBelow F (by decide) wm_312 (Nat.le_of_ble_eq_true rfl) dX6_trace_8 ?_
  refine z_if_eq (tgt := 26) F hf dX6_trace_11 (by decide) (fun hf => ?_) (fun hf => ?_)
  · refine z_ldc F wm_590 dX6_trace_26 ?_
    exact z_iret F dX6_trace_28 (Prod.ext (Option.some.inj hf) rfl)
  · refine z_aload_n F dX6_trace_14 0 rfl rfl ?_
    refine gK_0_8 F wm_282 dX6_trace_15 ?_
    refine gK_49_0 F wm_266 dX6_trace_18 ?_
    refine z_iload_n F dX6_trace_21 1 rfl rfl ?_
    refine lK_50 F hf dX6_trace_22 (fun hf => ?_)
    refine z_goto (tgt := 28) F dX6_trace_23 (by decide) ?_
    exact z_iret F dX6_trace_28 (Prod.ext (Option.some.inj hf) rfl)
theorem c_X6_trace {D : va_G} {cI : ClassId} {ad : Nat → Nat} {r : Int32} (X : KX) (a1 : Int32) (hf : f_X6_trace X a1 = some r) : zMI (yK D cI ad) yX6_trace cX6_trace 2 (some .int) 2 [.ref (ad 0), .int a1] X (r, X) := zMI_of (by decide +kernel) (Nat.le_of_ble_eq_true rfl) (fun z F => z_sub [0, 1] rfl (z_X6_trace F X a1 hf))
theorem k_X6_trace {z : ZC} {D : va_G} {cI : ClassId} {ad : Nat → Nat} {cc : ByteArray} {own : String} {nL d pc index : Nat} {ret : Option FieldType} {Q : State → Prop} {X : KX} {L : List (Nat × Value)} {rest : List Value} {a1 : Int32} (F : ZF z (yK D cI ad) cc own nL ret d) (hd : 2 + 1 ≤ d) (hw : Cond.methodLink own index yX6_trace ∈ wsA) (hst : (rest.map fun v => v.category).sum ≤ 8) {β : Type} {e : Int32 → Option β} {r : β} (hf : zB1 (f_X6_trace X a1) e = some r) (hdg : decode cc pc = .ok (.invokevirtual index, 3)) (kk : ∀ v : Int32, e v = some r → Z z (yK D cI ad) nL Q X (pc + 3) L (.int v :: rest)) : Z z (yK D cI ad) nL Q X pc L (.int a1 :: .ref (ad 0) :: rest) := by
  obtain ⟨v, h1, h2⟩ := zB1_some hf
  exact z_cVI (As := [.int a1]) F (c_X6_trace X a1 h1) kn_X6_trace kv_X6_trace hw (q0 := 0) rfl rfl hd rfl hst hdg rfl (kk v h2)
theorem kv_X4_present : zKv yX4_present := ⟨wm_747, wm_748⟩
theorem kn_X4_present : zKn yX4_present cX4_present 3 (some .int) 0 := ⟨wm_749, wm_56, by decide +kernel, by decide⟩
set_option maxHeartbeats 4000000 in
set_option maxRecDepth 100000 in
theorem z_X4_present_24 {z : ZC} {D : va_G} {cI : ClassId} {ad : Nat → Nat} {r : Int32} {k4 : Int32 → Int32 → Option Int32} (F : ZF z (yK D cI ad) cX4_present RX4 3 (some .int) 2) (n : Nat) (X : KX) (hk4 : ∀ (v1 : Int32) (v2 : Int32), k4 v1 v2 = some r → Z z (yK D cI ad) 3 (zQI z (yK D cI ad) (r, X)) X 4 [(0, .ref (ad 1)), (1, .int v1), (2, .int v2)] []) (s0 : Int32) (s1 : Int32) (v2 : Int32) (hf : f_X4_present_24 n X k4 s0 s1 v2 = some r) : Z z (yK D cI ad) 3 (zQI z (yK D cI ad) (r, X)) X 24 [(0, .ref (ad 1)), (2, .int v2)] [.int s0, .int s1] := by
  unfold f_X4_present_24 at hf
  refine z_iadd F dX4_present_24 ?_
  refine z_top hf (fun v1_1 hf => ?_)
  refine z_istore_n (L' := [(1, .int v1_1), (0, .ref (ad 1)), (2, .int v2)]) F dX4_present_25 rfl (Nat.le_of_ble_eq_true rfl) rfl ?_
  refine z_iinc (w := 1) (L' := fun v2_2 => [(2, .int v2_2), (1, .int v1_1), (0, .ref (ad 1))]) F hf dX4_present_26 2 rfl (by decide +kernel) (Nat.le_of_ble_eq_true rfl) (fun _ => rfl) (fun v2_2 hf => ?_)
  refine z_goto (tgt := 4) F dX4_present_29 (by decide) ?_
  exact z_sub [2, 1, 0] rfl (hk4 v1_1 v2_2 hf)
set_option maxHeartbeats 4000000 in
set_option maxRecDepth 100000 in
theorem z_X4_present_4 {z : ZC} {D : va_G} {cI : ClassId} {ad : Nat → Nat} {r : Int32} (F : ZF z (yK D cI ad) cX4_present RX4 3 (some .int) 2) (n : Nat) (X : KX) : ∀ (t : Nat) (v1 : Int32) (v2 : Int32), f_X4_present_4 n X t v1 v2 = some r → Z z (yK D cI ad) 3 (zQI z (yK D cI ad) (r, X)) X 4 [(0, .ref (ad 1)), (1, .int v1), (2, .int v2)] [] := by
  intro t
  induction t with
  | zero => intro v1 v2 hf; rw [f_X4_present_4] at hf; exact zNone hf
  | succ t ih =>
    intro v1 v2 hf
    rw [f_X4_present_4] at hf
    refine z_iload_n F dX4_present_4 2 rfl rfl ?_
    refine z_bipush (v := 8) F dX4_present_5 (by decide +kernel) ?_
    refine z_icmp_ge (tgt := 32) F hf dX4_present_7 (by decide) (fun hf => ?_) (fun hf => ?_)
    · refine z_iload_n F dX4_present_32 1 rfl rfl ?_
      exact z_iret F dX4_present_33 (Prod.ext (Option.some.inj hf) rfl)
    · refine z_iload_n F dX4_present_10 1 rfl rfl ?_
      refine z_aload_n F dX4_present_11 0 rfl rfl ?_
      refine z_iload_n F dX4_present_12 2 rfl rfl ?_
      refine k_X4_isMissing F (by decide) wm_750 (Nat.le_of_ble_eq_true rfl) hf dX4_present_13 (fun r_1 hf => ?_)
      refine z_if_eq (tgt := 23) F hf dX4_present_16 (by decide) (fun hf => ?_) (fun hf => ?_)
      · refine z_iconst (v := 1) F dX4_present_23 (by decide +kernel) ?_
        exact z_sub [0, 2] rfl (z_X4_present_24 F n X ih 1 v1 v2 hf)
      · refine z_iconst (v := 0) F dX4_present_19 (by decide +kernel) ?_
        refine z_goto (tgt := 24) F dX4_present_20 (by decide) ?_
        exact z_sub [0, 2] rfl (z_X4_present_24 F n X ih 0 v1 v2 hf)
set_option maxHeartbeats 4000000 in
set_option maxRecDepth 100000 in
theorem z_X4_present {z : ZC} {D : va_G} {cI : ClassId} {ad : Nat → Nat} {r : Int32} (F : ZF z (yK D cI ad) cX4_present RX4 3 (some .int) 2) (n : Nat) (X : KX)  (hf : f_X4_present n X = some r) : Z z (yK D cI ad) 3 (zQI z (yK D cI ad) (r, X)) X 0 [(0, .ref (ad 1))] [] := by
  unfold f_X4_present at hf
  refine z_iconst (v := 0) F dX4_present_0 (by decide +kernel) ?_
  refine z_istore_n (L' := [(1, .int 0), (0, .ref (ad 1))]) F dX4_present_1 rfl (Nat.le_of_ble_eq_true rfl) rfl ?_
  refine z_iconst (v := 0) F dX4_present_2 (by decide +kernel) ?_
  refine z_istore_n (L' := [(2, .int 0), (1, .int 0), (0, .ref (ad 1))]) F dX4_present_3 rfl (Nat.le_of_ble_eq_true rfl) rfl ?_
  exact z_sub [2, 1, 0] rfl (z_X4_present_4 F n X n 0 0 hf)
theorem c_X4_present {D : va_G} {cI : ClassId} {ad : Nat → Nat} {r : Int32} (n : Nat) (X : KX)  (hf : f_X4_present n X = some r) : zMI (yK D cI ad) yX4_present cX4_present 3 (some .int) 2 [.ref (ad 1)] X (r, X) := zMI_of (by decide +kernel) (Nat.le_of_ble_eq_true rfl) (fun z F => z_sub [0] rfl (z_X4_present F n X hf))
theorem k_X4_present {z : ZC} {D : va_G} {cI : ClassId} {ad : Nat → Nat} {cc : ByteArray} {own : String} {nL d pc index : Nat} {ret : Option FieldType} {Q : State → Prop} {X : KX} {L : List (Nat × Value)} {rest : List Value} {n : Nat} (F : ZF z (yK D cI ad) cc own nL ret d) (hd : 2 + 1 ≤ d) (hw : Cond.methodLink own index yX4_present ∈ wsA) (hst : (rest.map fun v => v.category).sum ≤ 8) {β : Type} {e : Int32 → Option β} {r : β} (hf : zB1 (f_X4_present n X) e = some r) (hdg : decode cc pc = .ok (.invokevirtual index, 3)) (kk : ∀ v : Int32, e v = some r → Z z (yK D cI ad) nL Q X (pc + 3) L (.int v :: rest)) : Z z (yK D cI ad) nL Q X pc L (.ref (ad 1) :: rest) := by
  obtain ⟨v, h1, h2⟩ := zB1_some hf
  exact z_cVI (As := []) F (c_X4_present n X h1) kn_X4_present kv_X4_present hw (q0 := 1) rfl rfl hd rfl hst hdg rfl (kk v h2)
theorem kv_X6_count : zKv yX6_count := ⟨wm_743, wm_744⟩
theorem kn_X6_count : zKn yX6_count cX6_count 2 (some .int) 1 := ⟨wm_745, wm_55, by decide +kernel, by decide⟩
set_option maxHeartbeats 4000000 in
set_option maxRecDepth 100000 in
theorem z_X6_count {z : ZC} {D : va_G} {cI : ClassId} {ad : Nat → Nat} {r : Int32} (F : ZF z (yK D cI ad) cX6_count RX6 2 (some .int) 3) (n : Nat) (X : KX) (a1 : Int32) (hf : f_X6_count n X a1 = some r) : Z z (yK D cI ad) 2 (zQI z (yK D cI ad) (r, X)) X 0 [(0, .ref (ad 0)), (1, .int a1)] [] := by
  unfold f_X6_count at hf
  refine z_iload_n F dX6_count_0 1 rfl rfl ?_
  refine zIte hf (fun c0 hf => ?_) (fun c0 hf => ?_)
  · refine z_swIn (v := 0) (off := 51) (tgt := 52) F c0 dX6_count_1 (by decide +kernel) ?_
    refine z_aload_n F dX6_count_52 0 rfl rfl ?_
    refine gK_0_0 F wm_274 dX6_count_53 ?_
    refine k_X4_present F (by decide) wm_746 (Nat.le_of_ble_eq_true rfl) hf dX6_count_56 (fun r_1 hf => ?_)
    exact z_iret F dX6_count_59 (Prod.ext (Option.some.inj hf) rfl)
  · refine zIte hf (fun c1 hf => ?_) (fun c1 hf => ?_)
    · refine z_swIn (v := 1) (off := 59) (tgt := 60) F c1 dX6_count_1 (by decide +kernel) ?_
      refine z_aload_n F dX6_count_60 0 rfl rfl ?_
      refine gK_0_2 F wm_276 dX6_count_61 ?_
      refine gK_7_4 F wm_138 dX6_count_64 ?_
      exact z_iret F dX6_count_67 (Prod.ext (Option.some.inj hf) rfl)
    · refine zIte hf (fun c2 hf => ?_) (fun c2 hf => ?_)
      · refine z_swIn (v := 2) (off := 67) (tgt := 68) F c2 dX6_count_1 (by decide +kernel) ?_
        refine z_aload_n F dX6_count_68 0 rfl rfl ?_
        refine gK_0_2 F wm_276 dX6_count_69 ?_
        refine gK_7_5 F wm_141 dX6_count_72 ?_
        exact z_iret F dX6_count_75 (Prod.ext (Option.some.inj hf) rfl)
      · refine zIte hf (fun c3 hf => ?_) (fun c3 hf => ?_)
        · refine z_swIn (v := 3) (off := 75) (tgt := 76) F c3 dX6_count_1 (by decide +kernel) ?_
          refine z_aload_n F dX6_count_76 0 rfl rfl ?_
          refine gK_0_2 F wm_276 dX6_count_77 ?_
          refine gK_7_14 F wm_173 dX6_count_80 ?_
          exact z_iret F dX6_count_83 (Prod.ext (Option.some.inj hf) rfl)
        · refine zIte hf (fun c4 hf => ?_) (fun c4 hf => ?_)
          · refine z_swIn (v := 4) (off := 83) (tgt := 84) F c4 dX6_count_1 (by decide +kernel) ?_
            refine z_aload_n F dX6_count_84 0 rfl rfl ?_
            refine gK_0_2 F wm_276 dX6_count_85 ?_
            refine gK_7_18 F wm_180 dX6_count_88 ?_
            refine z_if_eq (tgt := 98) F hf dX6_count_91 (by decide) (fun hf => ?_) (fun hf => ?_)
            · refine z_iconst (v := 0) F dX6_count_98 (by decide +kernel) ?_
              exact z_iret F dX6_count_99 (Prod.ext (Option.some.inj hf) rfl)
            · refine z_iconst (v := 1) F dX6_count_94 (by decide +kernel) ?_
              refine z_goto (tgt := 99) F dX6_count_95 (by decide) ?_
              exact z_iret F dX6_count_99 (Prod.ext (Option.some.inj hf) rfl)
          · refine zIte hf (fun c5 hf => ?_) (fun c5 hf => ?_)
            · refine z_swIn (v := 5) (off := 99) (tgt := 100) F c5 dX6_count_1 (by decide +kernel) ?_
              refine z_aload_n F dX6_count_100 0 rfl rfl ?_
              refine gK_0_2 F wm_276 dX6_count_101 ?_
              refine gK_7_17 F wm_178 dX6_count_104 ?_
              exact z_iret F dX6_count_107 (Prod.ext (Option.some.inj hf) rfl)
            · refine zIte hf (fun c6 hf => ?_) (fun c6 hf => ?_)
              · refine z_swIn (v := 6) (off := 107) (tgt := 108) F c6 dX6_count_1 (by decide +kernel) ?_
                refine z_aload_n F dX6_count_108 0 rfl rfl ?_
                refine gK_0_2 F wm_276 dX6_count_109 ?_
                refine gK_7_16 F wm_176 dX6_count_112 ?_
                refine k_J6_bitCount_0f7a4 F (by decide) wm_475 (Nat.le_of_ble_eq_true rfl) dX6_count_115 ?_
                exact z_iret F dX6_count_118 (Prod.ext (Option.some.inj hf) rfl)
              · refine zIte hf (fun c7 hf => ?_) (fun c7 hf => ?_)
                · refine z_swIn (v := 7) (off := 118) (tgt := 119) F c7 dX6_count_1 (by decide +kernel) ?_
                  refine z_aload_n F dX6_count_119 0 rfl rfl ?_
                  refine gK_0_6 F wm_280 dX6_count_120 ?_
                  refine gK_43_3 F wm_233 dX6_count_123 ?_
                  exact z_iret F dX6_count_126 (Prod.ext (Option.some.inj hf) rfl)
                · refine zIte hf (fun c8 hf => ?_) (fun c8 hf => ?_)
                  · refine z_swIn (v := 8) (off := 126) (tgt := 127) F c8 dX6_count_1 (by decide +kernel) ?_
                    refine z_aload_n F dX6_count_127 0 rfl rfl ?_
                    refine gK_0_1 F wm_275 dX6_count_128 ?_
                    refine gK_5_1 F wm_99 dX6_count_131 ?_
                    exact z_iret F dX6_count_134 (Prod.ext (Option.some.inj hf) rfl)
                  · refine z_swOut (tgt := 135) F dX6_count_1 (by have e0 := lv_neT c0 (show (0 : Int32).toInt = 0 by decide +kernel); have e1 := lv_neT c1 (show (1 : Int32).toInt = 1 by decide +kernel); have e2 := lv_neT c2 (show (2 : Int32).toInt = 2 by decide +kernel); have e3 := lv_neT c3 (show (3 : Int32).toInt = 3 by decide +kernel); have e4 := lv_neT c4 (show (4 : Int32).toInt = 4 by decide +kernel); have e5 := lv_neT c5 (show (5 : Int32).toInt = 5 by decide +kernel); have e6 := lv_neT c6 (show (6 : Int32).toInt = 6 by decide +kernel); have e7 := lv_neT c7 (show (7 : Int32).toInt = 7 by decide +kernel); have e8 := lv_neT c8 (show (8 : Int32).toInt = 8 by decide +kernel); omega) (by decide) ?_
                    refine z_ldc F wm_315 dX6_count_135 ?_
                    exact z_iret F dX6_count_137 (Prod.ext (Option.some.inj hf) rfl)
theorem c_X6_count {D : va_G} {cI : ClassId} {ad : Nat → Nat} {r : Int32} (n : Nat) (X : KX) (a1 : Int32) (hf : f_X6_count n X a1 = some r) : zMI (yK D cI ad) yX6_count cX6_count 2 (some .int) 3 [.ref (ad 0), .int a1] X (r, X) := zMI_of (by decide +kernel) (Nat.le_of_ble_eq_true rfl) (fun z F => z_sub [0, 1] rfl (z_X6_count F n X a1 hf))
theorem k_X6_count {z : ZC} {D : va_G} {cI : ClassId} {ad : Nat → Nat} {cc : ByteArray} {own : String} {nL d pc index : Nat} {ret : Option FieldType} {Q : State → Prop} {X : KX} {L : List (Nat × Value)} {rest : List Value} {n : Nat} {a1 : Int32} (F : ZF z (yK D cI ad) cc own nL ret d) (hd : 3 + 1 ≤ d) (hw : Cond.methodLink own index yX6_count ∈ wsA) (hst : (rest.map fun v => v.category).sum ≤ 8) {β : Type} {e : Int32 → Option β} {r : β} (hf : zB1 (f_X6_count n X a1) e = some r) (hdg : decode cc pc = .ok (.invokevirtual index, 3)) (kk : ∀ v : Int32, e v = some r → Z z (yK D cI ad) nL Q X (pc + 3) L (.int v :: rest)) : Z z (yK D cI ad) nL Q X pc L (.int a1 :: .ref (ad 0) :: rest) := by
  obtain ⟨v, h1, h2⟩ := zB1_some hf
  exact z_cVI (As := [.int a1]) F (c_X6_count n X a1 h1) kn_X6_count kv_X6_count hw (q0 := 0) rfl rfl hd rfl hst hdg rfl (kk v h2)
theorem kv_X6_status : zKv yX6_status := ⟨wm_752, wm_753⟩
theorem kn_X6_status : zKn yX6_status cX6_status 1 (some .int) 0 := ⟨wm_754, wm_55, by decide +kernel, by decide⟩
set_option maxHeartbeats 4000000 in
set_option maxRecDepth 100000 in
theorem z_X6_status {z : ZC} {D : va_G} {cI : ClassId} {ad : Nat → Nat} {r : Int32} (F : ZF z (yK D cI ad) cX6_status RX6 1 (some .int) 1) (X : KX)  (hf : f_X6_status X = r) : Z z (yK D cI ad) 1 (zQI z (yK D cI ad) (r, X)) X 0 [(0, .ref (ad 0))] [] := by
  unfold f_X6_status at hf
  refine z_aload_n F dX6_status_0 0 rfl rfl ?_
  refine gK_0_10 F wm_284 dX6_status_1 ?_
  exact z_iret F dX6_status_4 (Prod.ext hf rfl)
theorem c_X6_status {D : va_G} {cI : ClassId} {ad : Nat → Nat} (X : KX)  : zMI (yK D cI ad) yX6_status cX6_status 1 (some .int) 1 [.ref (ad 0)] X (f_X6_status X, X) := zMI_of (by decide +kernel) (Nat.le_of_ble_eq_true rfl) (fun z F => z_sub [0] rfl (z_X6_status F X rfl))
theorem k_X6_status {z : ZC} {D : va_G} {cI : ClassId} {ad : Nat → Nat} {cc : ByteArray} {own : String} {nL d pc index : Nat} {ret : Option FieldType} {Q : State → Prop} {X : KX} {L : List (Nat × Value)} {rest : List Value} (F : ZF z (yK D cI ad) cc own nL ret d) (hd : 1 + 1 ≤ d) (hw : Cond.methodLink own index yX6_status ∈ wsA) (hst : (rest.map fun v => v.category).sum ≤ 8) (hdg : decode cc pc = .ok (.invokevirtual index, 3)) (kk : Z z (yK D cI ad) nL Q X (pc + 3) L (.int (f_X6_status X) :: rest)) : Z z (yK D cI ad) nL Q X pc L (.ref (ad 0) :: rest) := z_cVI (As := []) F (c_X6_status X) kn_X6_status kv_X6_status hw (q0 := 0) rfl rfl hd rfl hst hdg rfl kk
