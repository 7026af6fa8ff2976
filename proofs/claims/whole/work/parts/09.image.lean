/-! imageOf: an answer that is one of two cells -/
def zQR (z : ZC) (y : ZY) (a0 : Nat) (X : KX) : State → Prop := match z with
  | (_, _, _, _, s, _, args, below, _, _) => MQ below (va_Qr (fun (u : KX) => u = X) (fun (u : KX) (ra : Nat) (t : State) => ra = a0 ∧ zT y u t) y.2.2.1) args s 0 0 y.2.2.1
def zMR (y : ZY) (nm : MethodName) (bytes : ByteArray) (maxL : Nat) (ret : Option FieldType) (d : Nat) (av : List Value) (X : KX) (a0 : Nat) : Prop := ∀ l : Launch, Met l nm (.code nm bytes maxL ret :: wsA) (zRm d) (va_Pc av (zS y X)) (va_Qr (fun (u : KX) => u = X) (fun (u : KX) (ra : Nat) (t : State) => ra = a0 ∧ zT y u t) y.2.2.1) 0 0 y.2.2.1
theorem zMR_of {y : ZY} {nm : MethodName} {bytes : ByteArray} {maxL : Nat} {ret : Option FieldType} {d : Nat} {av : List Value} {X : KX} {a0 : Nat} (hy : plainName nm.cls = true) (hn : (lg_sl av).length ≤ maxL) (body : ∀ z : ZC, ZF z y bytes nm.cls maxL ret d → Z z y maxL (zQR z y a0 X) X 0 (lv_args 0 av) []) : zMR y nm bytes maxL ret d av X a0 := by
  intro l
  refine Met.ofW (cc := bytes) (maxL := maxL) (ret := ret) hy rfl ?_
  intro p e s m args below meth c s₁ B hml hv
  obtain ⟨rfl, hP, hK, hD, hN⟩ := hv
  have hts : ∀ w ∈ wsA, w.before av.toArray s = true := fun w h => atoms_spec (ws := .code nm bytes maxL ret :: wsA) B.pre w (List.mem_cons_of_mem _ h)
  have h := body (p, l, e, zRm d, s, m, av.toArray, below, meth, c) ⟨B.exec, B.bytes, findClass_of_methodNamed B.named, hml, hts, B.returns, B.notSynchronized, hK, hN, Nat.le_refl _, Nat.le_refl _⟩
  rw [lg_entry_eq]
  exact h s.heap [] _ hP hD va_S.rf (lv_entry av hn)
theorem z_aret {z : ZC} {y : ZY} {cc : ByteArray} {own : String} {nL d pc : Nat} {X : KX} {L : List (Nat × Value)} {n : String} {a0 : Nat} (F : ZF z y cc own nL (some (.object n)) d) (hdg : decode cc pc = .ok (.areturn, 1)) : Z z y nL (zQR z y a0 X) X pc L [.ref a0] := by
  obtain ⟨p, l, e, Rm, s, m, args, below, meth, c⟩ := z
  exact fun H locs ls hP hD hS hl => W.aret F.1 F.2.1 F.2.2.2.2.2.1 (Or.inl ⟨n, rfl⟩) (Or.inr ⟨a0, rfl⟩) (fun t ht hW => ⟨⟨X, a0, rfl, rfl, rfl, by rw [ht]; exact hP, hD⟩, hS.F ht⟩) hS.2.2 hdg F.2.2.2.2.2.2.1
theorem kn_X6_imageOf : zKn yX6_imageOf cX6_imageOf 2 (some (.object "AilingKing$Castle")) 1 := ⟨wm_698, wm_55, by decide +kernel, by decide⟩
theorem kv_X6_imageOf : zKv yX6_imageOf := ⟨wm_697, wm_16⟩
set_option maxHeartbeats 4000000 in
theorem c_imageOf {D : va_G} {cI : ClassId} {ad : Nat → Nat} (X : KX) (a1 : Int32) : zMR (yK D cI ad) yX6_imageOf cX6_imageOf 2 (some (.object "AilingKing$Castle")) 1 [.ref (ad 0), .int a1] X (if a1 = 0 then ad 25 else ad 34) := by
  refine zMR_of (by decide +kernel) (Nat.le_of_ble_eq_true rfl) (fun z F => z_sub (L' := [(0, .ref (ad 0)), (1, .int a1)]) [0, 1] rfl ?_)
  refine z_iload_n F dX6_imageOf_0 1 rfl rfl ?_
  refine z_if_ne (β := Nat) (a := 1) (b := 0) (tgt := 11) F rfl dX6_imageOf_1 (by decide) (fun hf => ?_) (fun hf => ?_)
  · have h1 : ¬ a1 = 0 := by
      intro q
      rw [if_pos q] at hf
      cases hf
    rw [if_neg h1]
    refine z_aload_n F dX6_imageOf_11 0 rfl rfl ?_
    refine gK_0_5 F wm_279 dX6_imageOf_12 ?_
    exact z_aret F dX6_imageOf_15
  · have h1 : a1 = 0 := by
      by_cases q : a1 = 0
      · exact q
      · rw [if_neg q] at hf
        cases hf
    rw [if_pos h1]
    refine z_aload_n F dX6_imageOf_4 0 rfl rfl ?_
    refine gK_0_4 F wm_278 dX6_imageOf_5 ?_
    refine z_goto (tgt := 15) F dX6_imageOf_8 (by decide) ?_
    exact z_aret F dX6_imageOf_15
theorem z_cVR {z : ZC} {y : ZY} {cc : ByteArray} {own : String} {nL d pc : Nat} {ret : Option FieldType} {Q : State → Prop} {X : KX} {L : List (Nat × Value)} {st rest : List Value} {nm : MethodName} {bytes : ByteArray} {maxL n index ci q0 N d' : Nat} {ret' : Option FieldType} {As : List Value} {a a0 : Nat} {fs : List Value} {T : u_T} (F : ZF z y cc own nL ret d) (hM : zMR y nm bytes maxL ret' d' (.ref a :: As) X a0) (hk : zKn nm bytes maxL ret' n) (hv : zKv nm) (hw : Cond.methodLink own index nm ∈ wsA) (hq : (y.2.1 X)[q0]? = some (a, .inr (ci, fs))) (hc : vwCl[ci]? = some (nm.cls, T, N)) (hd : d' + 1 ≤ d) (hn : As.length = n) (hst : (rest.map fun v => v.category).sum ≤ 8) (hdg : decode cc pc = .ok (.invokevirtual index, 3)) (e : As.reverse ++ .ref a :: rest = st) (k : Z z y nL Q X (pc + 3) L (.ref a0 :: rest)) : Z z y nL Q X pc L st := by
  obtain ⟨p, l, ev, Rm, s, m, args, below, meth, c⟩ := z
  subst e
  intro H locs ls hP hD hS hl
  refine va_callr (z_runV F (hM l) hk hv hw hq hc hd hn hP hD hl.1 hst hdg) hS (fun _ _ h => h) (fun _ h => h) (fun u ra t H1 locs1 ht _ hp hB _ _ hS1 => ?_)
  obtain ⟨rfl, hB1, hB2⟩ := hB
  subst hp
  exact k H1 locs1 ls (by rw [← ht]; exact hB1) hB2 hS1 hl
theorem k_imageOf_0 {z : ZC} {D : va_G} {cI : ClassId} {ad : Nat → Nat} {cc : ByteArray} {own : String} {nL d pc index : Nat} {ret : Option FieldType} {Q : State → Prop} {X : KX} {L : List (Nat × Value)} {rest : List Value} {a1 : Int32} (F : ZF z (yK D cI ad) cc own nL ret d) (hd : 1 + 1 ≤ d) (hw : Cond.methodLink own index yX6_imageOf ∈ wsA) (h : a1 = 0) (hst : (rest.map fun v => v.category).sum ≤ 8) (hdg : decode cc pc = .ok (.invokevirtual index, 3)) (kk : Z z (yK D cI ad) nL Q X (pc + 3) L (.ref (ad 25) :: rest)) : Z z (yK D cI ad) nL Q X pc L (.int a1 :: .ref (ad 0) :: rest) := by
  have hM := c_imageOf (D := D) (cI := cI) (ad := ad) X a1
  rw [if_pos h] at hM
  exact z_cVR (As := [.int a1]) F hM kn_X6_imageOf kv_X6_imageOf hw (q0 := 0) rfl rfl hd rfl hst hdg rfl kk
theorem k_imageOf_1 {z : ZC} {D : va_G} {cI : ClassId} {ad : Nat → Nat} {cc : ByteArray} {own : String} {nL d pc index : Nat} {ret : Option FieldType} {Q : State → Prop} {X : KX} {L : List (Nat × Value)} {rest : List Value} {a1 : Int32} (F : ZF z (yK D cI ad) cc own nL ret d) (hd : 1 + 1 ≤ d) (hw : Cond.methodLink own index yX6_imageOf ∈ wsA) (h : ¬ a1 = 0) (hst : (rest.map fun v => v.category).sum ≤ 8) (hdg : decode cc pc = .ok (.invokevirtual index, 3)) (kk : Z z (yK D cI ad) nL Q X (pc + 3) L (.ref (ad 34) :: rest)) : Z z (yK D cI ad) nL Q X pc L (.int a1 :: .ref (ad 0) :: rest) := by
  have hM := c_imageOf (D := D) (cI := cI) (ad := ad) X a1
  rw [if_neg h] at hM
  exact z_cVR (As := [.int a1]) F hM kn_X6_imageOf kv_X6_imageOf hw (q0 := 0) rfl rfl hd rfl hst hdg rfl kk
