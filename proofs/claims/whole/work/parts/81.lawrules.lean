abbrev VZ : Type := Program × Launch × Env × State × MethodId × Nat × List Frame × Method × Code
abbrev VY : Type := va_G × ClassId × ClassId × (Nat → Nat) × (Nat → Nat)
def V (z : VZ) (y : VY) (X M : KX) (pc : Nat) (L : List (Nat × Value)) (st : List Value) : Prop := match z, y with
  | (p, l, e, s, m, b, below, meth, c), (D, cI, cZ, ad, ad2) => ∀ (H : Heap) (locs : List Loc) (ls : Array Slot), va_P D vwCl (wK cI ad X) H → va_P D vwCl (wM cI cZ ad2 M) H → va_S (fun q : Nat => s.heap.size ≤ q) s.heap H locs → lv_has ls 4 L → W p l e room_1 s m #[Value.ref b] below meth c H locs 66 3924 (lw_Z below #[Value.ref b] s) (F0 m pc ls st)
def VF (z : VZ) (y : VY) (n : Nat) (xs : Nat → Int32) : Prop := match z, y with
  | (p, l, e, s, m, b, below, meth, c), (D, cI, cZ, ad, ad2) => ZF (p, l, e, room_1, s, m, #[Value.ref b], below, meth, c) (yK D cI ad) code RL 4 ret 1000 ∧ va_K D vwCl [(cI, .int), (cZ, .boolean)] s ∧ (∀ X : KX, va_D (aK ad) (wK cI ad X)) ∧ (∀ M : KX, va_D (aM ad2) (wM cI cZ ad2 M)) ∧ (∀ q, aK ad q → s.heap.size ≤ q) ∧ (∀ q, aM ad2 q → s.heap.size ≤ q) ∧ (∀ q, aK ad q → ¬ aM ad2 q) ∧ va_X b n xs s s.heap ∧ b < s.heap.size
theorem v_runV {cc : ByteArray} {own : String} {nL d pc : Nat} {ret : Option FieldType} {y : ZY} {X : KX} {nm : MethodName} {bytes : ByteArray} {maxL n index ci q0 N d' cells slots : Nat} {ret' : Option FieldType} {As rest : List Value} {a : Nat} {fs : List Value} {T : u_T} {Qc : Array Value → State → Outcome → State → Prop} {p : Program} {l : Launch} {e : Env} {R : Room} {s : State} {m : MethodId} {args : Array Value} {below : List Frame} {meth : Method} {c : Code} {H : Heap} {locs : List Loc} {ls : Array Slot}
    (F : ZF (p, l, e, R, s, m, args, below, meth, c) y cc own nL ret d) (hM : Met l nm (.code nm bytes maxL ret' :: wsA) (zRm d') (va_Pc (.ref a :: As) (zS y X)) Qc 0 0 y.2.2.1) (hk : zKn nm bytes maxL ret' n) (hv : zKv nm) (hw : Cond.methodLink own index nm ∈ wsA) (hq : (y.2.1 X)[q0]? = some (a, .inr (ci, fs))) (hc : vwCl[ci]? = some (nm.cls, T, N)) (hd : d' + 1 ≤ d)
    (hn : As.length = n) (hP : va_P y.1 vwCl (y.2.1 X) H) (hD : va_D y.2.2.1 (y.2.1 X)) (hsz : ls.size = nL) (hst : (rest.map fun v => v.category).sum ≤ 8) (hdg : decode cc pc = .ok (.invokevirtual index, 3)) (hf : cells + 0 ≤ R.cells ∧ slots + 0 ≤ R.slots) :
    va_Run p l e R s m args below meth c H locs cells slots 0 0 (F0 m pc ls (As.reverse ++ .ref a :: rest)) rest (Qc (Value.ref a :: As).toArray) y.2.2.1 := by
  obtain ⟨hx, hb, hown, hml, hts, hr, hlk, hK, hN, hR1, hR2⟩ := F
  have hm := hk.2.2.2
  refine va_runV (As := As) (rest := rest) ⟨hx, hb, hml, hown, hts⟩ hM (cwV n hts (z_good (pre := [.methodLink own index nm, .instanceMethod nm, .selects nm.cls nm nm, .initialized nm.cls]) ?_ hk.1) rfl rfl rfl ⟨rfl, hk.2.2.1⟩ ⟨?_, ?_⟩) ⟨zS.blind, va_recv hK hP hc hq, fun U hU hW => ⟨rfl, by rw [hU]; exact hP, va_K.moved hW.alike hK, hD, zN.warm hW hN⟩⟩ rfl hn hsz rfl (lv_room hst) hdg hf
  · intro w hw2
    simp only [List.mem_cons, List.not_mem_nil, or_false] at hw2
    rcases hw2 with rfl | rfl | rfl | rfl
    · exact hw
    · exact hv.1
    · exact hv.2
    · exact hk.2.1
  · exact Nat.le_trans hd hR1
  · show 8 + (maxL + 11) + 64 * d' ≤ R.locals
    omega
section VR
variable {p : Program} {l : Launch} {e : Env} {s : State} {m : MethodId} {b : Nat} {below : List Frame} {meth : Method} {c : Code} {D : va_G} {cI cZ : ClassId} {ad ad2 : Nat → Nat} {n : Nat} {xs : Nat → Int32} {X M : KX} {pc : Nat} {L : List (Nat × Value)} {st rest : List Value}
theorem v_cK (F : VF (p, l, e, s, m, b, below, meth, c) (D, cI, cZ, ad, ad2) n xs) {nm : MethodName} {bytes : ByteArray} {maxL k index N d' : Nat} {ret' : Option FieldType} {As : List Value} {T : u_T} {R : Int32 × KX} (hM : zMI (yK D cI ad) nm bytes maxL ret' d' (.ref (ad 0) :: As) X R) (hk : zKn nm bytes maxL ret' k) (hv : zKv nm) (hw : Cond.methodLink RL index nm ∈ wsA) (hc : vwCl[6]? = some (nm.cls, T, N)) (hd : d' + 1 ≤ 1000) (hn : As.length = k) (hst : (rest.map fun v => v.category).sum ≤ 8) (hdg : decode code pc = .ok (.invokevirtual index, 3)) (e9 : As.reverse ++ .ref (ad 0) :: rest = st) (kk : V (p, l, e, s, m, b, below, meth, c) (D, cI, cZ, ad, ad2) R.2 M (pc + 3) L (.int R.1 :: rest)) : V (p, l, e, s, m, b, below, meth, c) (D, cI, cZ, ad, ad2) X M pc L st := by
  obtain ⟨F1, hK2, hDk, hDm, hAk, hAm, hdis, hX, hbl⟩ := F
  subst e9
  intro H locs ls hP hPm hS hl
  refine va_calli (v_runV (q0 := 0) F1 (hM l) hk hv hw rfl hc hd hn hP (hDk X) hl.1 hst hdg ⟨Nat.le_of_ble_eq_true rfl, Nat.le_of_ble_eq_true rfl⟩) hS (fun q _ h => hAk q h) (fun q h => hAk q h) (fun r u t H1 locs1 ht _ hp hB _ hk1 hS1 => ?_)
  subst hp
  exact kk H1 locs1 ls (by rw [← ht]; exact hB.1) (hPm.kept (fun k q hq => hk1 q.1 (hPm k q hq).lt (fun h => hdis _ h ((hDm M).2 k q hq)))) hS1 hl
theorem v_cM (F : VF (p, l, e, s, m, b, below, meth, c) (D, cI, cZ, ad, ad2) n xs) {nm : MethodName} {bytes : ByteArray} {maxL k index N d' : Nat} {ret' : Option FieldType} {As : List Value} {T : u_T} {R : Int32 × KX} (hM : zMI (yM D cI cZ ad2) nm bytes maxL ret' d' (.ref (ad2 0) :: As) M R) (hk : zKn nm bytes maxL ret' k) (hv : zKv nm) (hw : Cond.methodLink RL index nm ∈ wsA) (hc : vwCl[7]? = some (nm.cls, T, N)) (hd : d' + 1 ≤ 1000) (hn : As.length = k) (hst : (rest.map fun v => v.category).sum ≤ 8) (hdg : decode code pc = .ok (.invokevirtual index, 3)) (e9 : As.reverse ++ .ref (ad2 0) :: rest = st) (kk : V (p, l, e, s, m, b, below, meth, c) (D, cI, cZ, ad, ad2) X R.2 (pc + 3) L (.int R.1 :: rest)) : V (p, l, e, s, m, b, below, meth, c) (D, cI, cZ, ad, ad2) X M pc L st := by
  obtain ⟨F1, hK2, hDk, hDm, hAk, hAm, hdis, hX, hbl⟩ := F
  obtain ⟨hx, hb, hown, hml, hts, hr, hlk, hK, hN, hR1, hR2⟩ := F1
  have F2 : ZF (p, l, e, room_1, s, m, #[Value.ref b], below, meth, c) (yM D cI cZ ad2) code RL 4 ret 1000 := ⟨hx, hb, hown, hml, hts, hr, hlk, hK2, hN, hR1, hR2⟩
  subst e9
  intro H locs ls hP hPm hS hl
  refine va_calli (v_runV (q0 := 0) F2 (hM l) hk hv hw rfl hc hd hn hPm (hDm M) hl.1 hst hdg ⟨Nat.le_of_ble_eq_true rfl, Nat.le_of_ble_eq_true rfl⟩) hS (fun q _ h => hAm q h) (fun q h => hAm q h) (fun r u t H1 locs1 ht _ hp hB _ hk1 hS1 => ?_)
  subst hp
  exact kk H1 locs1 ls (hP.kept (fun k q hq => hk1 q.1 (hP k q hq).lt (fun h => hdis _ ((hDk X).2 k q hq) h))) (by rw [← ht]; exact hB.1) hS1 hl
theorem v_iconst (F : VF (p, l, e, s, m, b, below, meth, c) (D, cI, cZ, ad, ad2) n xs) {k : Int} {v : Int32} (hdg : decode code pc = .ok (.iconst k, 1)) (hv : Int32.ofInt k = v) (kk : V (p, l, e, s, m, b, below, meth, c) (D, cI, cZ, ad, ad2) X M (pc + 1) L (.int v :: st)) : V (p, l, e, s, m, b, below, meth, c) (D, cI, cZ, ad, ad2) X M pc L (st) := by
  intro H locs ls hP hPm hS hl
  have hx := F.1.1
  have hb := F.1.2.1
  exact lv_iconst hx hb hdg hv (kk H locs ls hP hPm hS hl)
theorem v_bipush (F : VF (p, l, e, s, m, b, below, meth, c) (D, cI, cZ, ad, ad2) n xs) {k : Int} {v : Int32} (hdg : decode code pc = .ok (.bipush k, 2)) (hv : (Int8.ofInt k).toInt32 = v) (kk : V (p, l, e, s, m, b, below, meth, c) (D, cI, cZ, ad, ad2) X M (pc + 2) L (.int v :: st)) : V (p, l, e, s, m, b, below, meth, c) (D, cI, cZ, ad, ad2) X M pc L (st) := by
  intro H locs ls hP hPm hS hl
  have hx := F.1.1
  have hb := F.1.2.1
  exact lv_bipush hx hb hdg hv (kk H locs ls hP hPm hS hl)
theorem v_iload_n (F : VF (p, l, e, s, m, b, below, meth, c) (D, cI, cZ, ad, ad2) n xs) {kf : Fin 4} {i : Nat} {x : Int32} (hdg : decode code pc = .ok (.iload_n kf, 1)) (q : Nat) (hi : (kf : Nat) = i) (hq : L[q]? = some (i, .int x)) (kk : V (p, l, e, s, m, b, below, meth, c) (D, cI, cZ, ad, ad2) X M (pc + 1) L (.int x :: st)) : V (p, l, e, s, m, b, below, meth, c) (D, cI, cZ, ad, ad2) X M pc L (st) := by
  intro H locs ls hP hPm hS hl
  have hx := F.1.1
  have hb := F.1.2.1
  exact lv_iload_n hx hb hdg hi (lv_at hl q hq) (kk H locs ls hP hPm hS hl)
theorem v_aload_n (F : VF (p, l, e, s, m, b, below, meth, c) (D, cI, cZ, ad, ad2) n xs) {kf : Fin 4} {i x : Nat} (hdg : decode code pc = .ok (.aload_n kf, 1)) (q : Nat) (hi : (kf : Nat) = i) (hq : L[q]? = some (i, .ref x)) (kk : V (p, l, e, s, m, b, below, meth, c) (D, cI, cZ, ad, ad2) X M (pc + 1) L (.ref x :: st)) : V (p, l, e, s, m, b, below, meth, c) (D, cI, cZ, ad, ad2) X M pc L (st) := by
  intro H locs ls hP hPm hS hl
  have hx := F.1.1
  have hb := F.1.2.1
  exact lv_aload_n hx hb hdg hi (lv_at hl q hq) (kk H locs ls hP hPm hS hl)
theorem v_iadd (F : VF (p, l, e, s, m, b, below, meth, c) (D, cI, cZ, ad, ad2) n xs) {a1 a2 : Int32} (hdg : decode code pc = .ok (.iadd, 1)) (kk : V (p, l, e, s, m, b, below, meth, c) (D, cI, cZ, ad, ad2) X M (pc + 1) L (.int (a1 + a2) :: st)) : V (p, l, e, s, m, b, below, meth, c) (D, cI, cZ, ad, ad2) X M pc L (.int a2 :: .int a1 :: st) := by
  intro H locs ls hP hPm hS hl
  have hx := F.1.1
  have hb := F.1.2.1
  exact lv_iadd hx hb hdg (kk H locs ls hP hPm hS hl)
theorem v_isub (F : VF (p, l, e, s, m, b, below, meth, c) (D, cI, cZ, ad, ad2) n xs) {a1 a2 : Int32} (hdg : decode code pc = .ok (.isub, 1)) (kk : V (p, l, e, s, m, b, below, meth, c) (D, cI, cZ, ad, ad2) X M (pc + 1) L (.int (a1 - a2) :: st)) : V (p, l, e, s, m, b, below, meth, c) (D, cI, cZ, ad, ad2) X M pc L (.int a2 :: .int a1 :: st) := by
  intro H locs ls hP hPm hS hl
  have hx := F.1.1
  have hb := F.1.2.1
  exact lv_isub hx hb hdg (kk H locs ls hP hPm hS hl)
theorem v_iand (F : VF (p, l, e, s, m, b, below, meth, c) (D, cI, cZ, ad, ad2) n xs) {a1 a2 : Int32} (hdg : decode code pc = .ok (.iand, 1)) (kk : V (p, l, e, s, m, b, below, meth, c) (D, cI, cZ, ad, ad2) X M (pc + 1) L (.int (a1 &&& a2) :: st)) : V (p, l, e, s, m, b, below, meth, c) (D, cI, cZ, ad, ad2) X M pc L (.int a2 :: .int a1 :: st) := by
  intro H locs ls hP hPm hS hl
  have hx := F.1.1
  have hb := F.1.2.1
  exact lv_iand hx hb hdg (kk H locs ls hP hPm hS hl)
theorem v_goto (F : VF (p, l, e, s, m, b, below, meth, c) (D, cI, cZ, ad, ad2) n xs) {off : Int} {tgt : Nat} (hdg : decode code pc = .ok (.goto off, 3)) (ht : (pc : Int) + off = (tgt : Int)) (kk : V (p, l, e, s, m, b, below, meth, c) (D, cI, cZ, ad, ad2) X M tgt L (st)) : V (p, l, e, s, m, b, below, meth, c) (D, cI, cZ, ad, ad2) X M pc L (st) := by
  intro H locs ls hP hPm hS hl
  have hx := F.1.1
  have hb := F.1.2.1
  exact lv_goto hx hb hdg ht (kk H locs ls hP hPm hS hl)
theorem v_sld (F : VF (p, l, e, s, m, b, below, meth, c) (D, cI, cZ, ad, ad2) n xs) {i : Int32} (hin : vp_in i n) (hdg : decode code pc = .ok (.iaload, 1)) (kk : V (p, l, e, s, m, b, below, meth, c) (D, cI, cZ, ad, ad2) X M (pc + 1) L (.int (xs i.toNatClampNeg) :: st)) : V (p, l, e, s, m, b, below, meth, c) (D, cI, cZ, ad, ad2) X M pc L (.int i :: .ref b :: st) := by
  intro H locs ls hP hPm hS hl
  have hx := F.1.1
  have hb := F.1.2.1
  exact va_sld hx hb F.2.2.2.2.2.2.2.1 F.2.2.2.2.2.2.2.2 (Nat.not_le.mpr F.2.2.2.2.2.2.2.2) hS hin hdg (kk H locs ls hP hPm hS hl)
theorem v_slen (F : VF (p, l, e, s, m, b, below, meth, c) (D, cI, cZ, ad, ad2) n xs) (hdg : decode code pc = .ok (.arraylength, 1)) (kk : V (p, l, e, s, m, b, below, meth, c) (D, cI, cZ, ad, ad2) X M (pc + 1) L (.int (nI n) :: st)) : V (p, l, e, s, m, b, below, meth, c) (D, cI, cZ, ad, ad2) X M pc L (.ref b :: st) := by
  intro H locs ls hP hPm hS hl
  have hx := F.1.1
  have hb := F.1.2.1
  exact va_slen hx hb F.2.2.2.2.2.2.2.1 F.2.2.2.2.2.2.2.2 (Nat.not_le.mpr F.2.2.2.2.2.2.2.2) hS hdg (kk H locs ls hP hPm hS hl)
theorem v_eq (F : VF (p, l, e, s, m, b, below, meth, c) (D, cI, cZ, ad, ad2) n xs) {x : Int32} {off : Int} {tgt : Nat} (hdg : decode code pc = .ok (.if_icmp .eq off, 3)) (ht : (pc : Int) + off = (tgt : Int)) (kk : V (p, l, e, s, m, b, below, meth, c) (D, cI, cZ, ad, ad2) X M tgt L (st)) : V (p, l, e, s, m, b, below, meth, c) (D, cI, cZ, ad, ad2) X M pc L (.int x :: .int x :: st) := by
  intro H locs ls hP hPm hS hl
  have hx := F.1.1
  have hb := F.1.2.1
  exact lv_icmp_eq hx hb hdg ht (fun _ => (kk H locs ls hP hPm hS hl)) (fun q => absurd rfl q)
theorem v_top {x : Int32} (kk : ∀ x' : Int32, V (p, l, e, s, m, b, below, meth, c) (D, cI, cZ, ad, ad2) X M pc L (.int x' :: st)) : V (p, l, e, s, m, b, below, meth, c) (D, cI, cZ, ad, ad2) X M pc L (.int x :: st) := kk x
theorem v_gt (F : VF (p, l, e, s, m, b, below, meth, c) (D, cI, cZ, ad, ad2) n xs) {x y9 : Int32} {off : Int} {tgt : Nat} (hdg : decode code pc = .ok (.if_icmp .gt off, 3)) (ht : (pc : Int) + off = (tgt : Int)) (k1 : y9 < x → V (p, l, e, s, m, b, below, meth, c) (D, cI, cZ, ad, ad2) X M tgt L (st)) (k2 : ¬ y9 < x → V (p, l, e, s, m, b, below, meth, c) (D, cI, cZ, ad, ad2) X M (pc + 3) L (st)) : V (p, l, e, s, m, b, below, meth, c) (D, cI, cZ, ad, ad2) X M pc L (.int y9 :: .int x :: st) := by
  intro H locs ls hP hPm hS hl
  exact lv_icmp_gt F.1.1 F.1.2.1 hdg ht (fun q => k1 q H locs ls hP hPm hS hl) (fun q => k2 q H locs ls hP hPm hS hl)
theorem v_iinc (F : VF (p, l, e, s, m, b, below, meth, c) (D, cI, cZ, ad, ad2) n xs) {i : Nat} {k : Int} {x w v : Int32} {L' : List (Nat × Value)} (hdg : decode code pc = .ok (.iinc i k, 3)) (q : Nat) (hq : L[q]? = some (i, .int x)) (hw : Int32.ofInt k = w) (hv : x + w = v) (hn : i < 4) (hl' : (i, Value.int v) :: L.filter (fun q => !(q.1 == i) && !(q.1 + 1 == i && q.2.category == 2)) = L') (kk : V (p, l, e, s, m, b, below, meth, c) (D, cI, cZ, ad, ad2) X M (pc + 3) L' (st)) : V (p, l, e, s, m, b, below, meth, c) (D, cI, cZ, ad, ad2) X M pc L (st) := by
  intro H locs ls hP hPm hS hl
  exact lv_iinc F.1.1 F.1.2.1 hdg hl hq (by rw [hw, hv]) hn hl' (fun ls hl => kk H locs ls hP hPm hS hl)
theorem v_swIn (F : VF (p, l, e, s, m, b, below, meth, c) (D, cI, cZ, ad, ad2) n xs) {dflt lo hi : Int} {offs : Array Int} {len : Nat} {x v : Int32} {off : Int} {tgt : Nat} (hx9 : x = v) (hdg : decode code pc = .ok (.tableswitch dflt lo hi offs, len)) (h : (¬ v.toInt < lo ∧ ¬ hi < v.toInt) ∧ offs[(v.toInt - lo).toNat]? = some off ∧ (pc : Int) + off = (tgt : Int)) (kk : V (p, l, e, s, m, b, below, meth, c) (D, cI, cZ, ad, ad2) X M tgt L (st)) : V (p, l, e, s, m, b, below, meth, c) (D, cI, cZ, ad, ad2) X M pc L (.int x :: st) := by
  subst hx9
  intro H locs ls hP hPm hS hl
  exact lv_tableIn F.1.1 F.1.2.1 hdg h.1.1 h.1.2 h.2.1 h.2.2 (kk H locs ls hP hPm hS hl)
theorem v_swOut (F : VF (p, l, e, s, m, b, below, meth, c) (D, cI, cZ, ad, ad2) n xs) {dflt lo hi : Int} {offs : Array Int} {len : Nat} {x : Int32} {tgt : Nat} (hdg : decode code pc = .ok (.tableswitch dflt lo hi offs, len)) (h : x.toInt < lo ∨ hi < x.toInt) (ht : (pc : Int) + dflt = (tgt : Int)) (kk : V (p, l, e, s, m, b, below, meth, c) (D, cI, cZ, ad, ad2) X M tgt L (st)) : V (p, l, e, s, m, b, below, meth, c) (D, cI, cZ, ad, ad2) X M pc L (.int x :: st) := by
  intro H locs ls hP hPm hS hl
  exact lv_tableOut F.1.1 F.1.2.1 hdg h ht (kk H locs ls hP hPm hS hl)
theorem v_sub (ks : List Nat) {L' : List (Nat × Value)} (h : lv_pick L ks = L') (k : V (p, l, e, s, m, b, below, meth, c) (D, cI, cZ, ad, ad2) X M pc L' (st)) : V (p, l, e, s, m, b, below, meth, c) (D, cI, cZ, ad, ad2) X M pc L (st) := fun H locs ls hP hPm hS hl => k H locs ls hP hPm hS (lv_sub hl ks h)
theorem v_ret (F : VF (p, l, e, s, m, b, below, meth, c) (D, cI, cZ, ad, ad2) n xs) (hdg : decode code pc = .ok (.ireturn, 1)) : V (p, l, e, s, m, b, below, meth, c) (D, cI, cZ, ad, ad2) X M pc L ([.int 1]) := by
  intro H locs ls hP hPm hS hl
  refine va_forget (fun q hq => hS.2.2 q hq) ?_
  refine W.widen (k := 600000) (n := 7302250) (Nat.le_of_ble_eq_true rfl) (Nat.le_of_ble_eq_true rfl) ?_
  exact lw_ret F.1.1 F.1.2.1 F.1.2.2.2.2.2.1 F.1.2.2.2.2.2.2.1 hdg
end VR
theorem vl_in {n i : Nat} (hn : n ≤ 384) (hi : i ≤ 400) (h : ¬ nI n - 6 < nI i) : i + 6 ≤ n := by
  have h1 := pk_sub_toInt (a := n) (b := 6) (by omega) (by omega)
  have h2 := nI_toInt (n := i) (by omega)
  rw [Int32.lt_iff_toInt_lt, show (6 : Int32) = nI 6 from rfl, h1, h2] at h
  omega
