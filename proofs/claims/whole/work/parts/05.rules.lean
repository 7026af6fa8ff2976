/-! the state: cell by cell, place by place; the words of the pure functions -/
abbrev KX : Type := Nat → Nat → Int32
def zU (X : KX) (k i : Nat) (v : Int32) : KX := fun a => if a = k then upd (X k) i v else X a
def zCp (X : KX) (a b : Nat) (sp dp n : Nat) : KX := fun c => if c = b then va_cpy (X a) (X b) sp dp n else X c
def zMax (a b : Int32) : Int32 := if a < b then b else a
def zMin (a b : Int32) : Int32 := if b < a then b else a
def zRem (a b : Int32) : Int32 := a - a / b * b
def zShl (a b : Int32) : Int32 := a <<< (b &&& 31)
def zShr (a b : Int32) : Int32 := a >>> (b &&& 31)
def zUsh (a b : Int32) : Int32 := (a.toUInt32 >>> (b.toUInt32 &&& Int32.toUInt32 31)).toInt32
def zLet {α β : Type} (v : α) (f : α → β) : β := f v
def zGd {α : Type} (i : Int32) (n : Nat) (e : Option α) : Option α := if 0 ≤ i.toInt ∧ i.toInt < (n : Int) then e else none
def zGz {α : Type} (i : Int32) (e : Option α) : Option α := if i = 0 then none else e
def zGb {α : Type} (i : Int32) (e : Option α) : Option α := if i = 0 ∨ i = 1 then e else none
def zGc {α : Type} (sp dp n : Int32) (a b : Nat) (e : Option α) : Option α := if (¬ sp < 0 ∧ ¬ dp < 0 ∧ ¬ n < 0) ∧ sp.toNatClampNeg + n.toNatClampNeg ≤ a ∧ dp.toNatClampNeg + n.toNatClampNeg ≤ b then e else none
def zB1 {α γ : Type} (o : Option α) (f : α → Option γ) : Option γ := match o with
  | some a => f a
  | none => none
def zB2 {α β γ : Type} (o : Option (α × β)) (f : α → β → Option γ) : Option γ := match o with
  | some (a, b) => f a b
  | none => none
theorem zGd_some {α : Type} {i : Int32} {n : Nat} {e : Option α} {r : α} (h : zGd i n e = some r) : vp_in i n ∧ e = some r := by
  unfold zGd at h
  by_cases c : 0 ≤ i.toInt ∧ i.toInt < (n : Int)
  · rw [if_pos c] at h; exact ⟨vp_in_iff.mpr c, h⟩
  · rw [if_neg c] at h; cases h
theorem zGz_some {α : Type} {i : Int32} {e : Option α} {r : α} (h : zGz i e = some r) : ¬ i = 0 ∧ e = some r := by
  unfold zGz at h
  by_cases c : i = 0
  · rw [if_pos c] at h; cases h
  · rw [if_neg c] at h; exact ⟨c, h⟩
theorem zGb_some {α : Type} {i : Int32} {e : Option α} {r : α} (h : zGb i e = some r) : (i = 0 ∨ i = 1) ∧ e = some r := by
  unfold zGb at h
  by_cases c : i = 0 ∨ i = 1
  · rw [if_pos c] at h; exact ⟨c, h⟩
  · rw [if_neg c] at h; cases h
theorem zGc_some {α : Type} {sp dp n : Int32} {a b : Nat} {e : Option α} {r : α} (h : zGc sp dp n a b e = some r) : ((¬ sp < 0 ∧ ¬ dp < 0 ∧ ¬ n < 0) ∧ sp.toNatClampNeg + n.toNatClampNeg ≤ a ∧ dp.toNatClampNeg + n.toNatClampNeg ≤ b) ∧ e = some r := by
  unfold zGc at h
  split at h
  · rename_i c; exact ⟨c, h⟩
  · cases h
theorem zB1_some {α γ : Type} {o : Option α} {f : α → Option γ} {r : γ} (h : zB1 o f = some r) : ∃ a, o = some a ∧ f a = some r := by
  cases o with
  | none => cases h
  | some a => exact ⟨a, rfl, h⟩
theorem zB2_some {α β γ : Type} {o : Option (α × β)} {f : α → β → Option γ} {r : γ} (h : zB2 o f = some r) : ∃ a b, o = some (a, b) ∧ f a b = some r := by
  cases o with
  | none => cases h
  | some q => exact ⟨q.1, q.2, rfl, h⟩
theorem zIte {β : Type} {c : Prop} [Decidable c] {a b r : β} {G : Prop} (h : (if c then a else b) = r) (k1 : c → a = r → G) (k2 : ¬ c → b = r → G) : G := by
  by_cases hc : c
  · rw [if_pos hc] at h; exact k1 hc h
  · rw [if_neg hc] at h; exact k2 hc h
theorem zNone {α : Type} {r : α} {G : Prop} (h : (none : Option α) = some r) : G := by cases h
theorem zBool {v : Int32} (h : v = 0 ∨ v = 1) : narrow .boolean (.int v) = .int v ∧ fits .boolean (.int v) = true := by
  rcases h with rfl | rfl <;> exact ⟨by decide +kernel, by decide +kernel⟩
/-! the judgement -/
def wsA : List Cond := lw_tbl.filter goodWord
theorem wsA_good : ∀ w ∈ wsA, (w.onTables && w.keeps) = true ∨ ∃ ty, w = .arrayClass ty := fun w h => good_of_word (List.mem_filter.mp h).2
theorem wsA_tbl : ∀ w ∈ wsA, w ∈ lw_tbl := fun w h => (List.mem_filter.mp h).1
theorem zW (i : Nat) {w : Cond} (h : lw_tbl[i]? = some w) (h2 : goodWord w = true) : w ∈ wsA := List.mem_filter.mpr ⟨List.mem_of_getElem? h, h2⟩

def zN (U : State) : Prop := va_Nw (.methodLinkNest "AilingKing$Castle" 78 yX6_isBelow "AilingKing") U ∧ va_Nw (.methodLinkNest "AilingKing$Castle" 82 yX6_has "AilingKing") U ∧ va_Nw (.methodLinkNest "AilingKing$Foretold" 37 yX6_has "AilingKing") U ∧ va_Nw (.methodLinkNest "AilingKing$Foretold" 110 yX6_isBelow "AilingKing") U ∧ va_Nw (.methodLinkNest "AilingKing" 251 yX3_rowsToQuestion "AilingKing") U
theorem zN.warm {s U : State} (hW : s.WarmedH U.vm) (h : zN s) : zN U := ⟨va_Nw.warmM hW h.1, va_Nw.warmM hW h.2.1, va_Nw.warmM hW h.2.2.1, va_Nw.warmM hW h.2.2.2.1, va_Nw.warmM hW h.2.2.2.2⟩
theorem zN.same {u U : State} (hv : u.vm = U.vm) (h : zN u) : zN U := ⟨va_Nw.same rfl hv h.1, va_Nw.same rfl hv h.2.1, va_Nw.same rfl hv h.2.2.1, va_Nw.same rfl hv h.2.2.2.1, va_Nw.same rfl hv h.2.2.2.2⟩
/-- a method's run: all that stays; a side: its numbers of classes, its world, its cells, its kinds of arrays -/
abbrev ZC : Type := Program × Launch × Env × Room × State × MethodId × Array Value × List Frame × Method × Code
abbrev ZY : Type := va_G × (KX → va_W) × (Nat → Prop) × List (ClassId × FieldType)
def zS (y : ZY) (X : KX) (U : State) : Prop := va_P y.1 vwCl (y.2.1 X) U.heap ∧ va_K y.1 vwCl y.2.2.2 U ∧ va_D y.2.2.1 (y.2.1 X) ∧ zN U
def zT (y : ZY) (X : KX) (U : State) : Prop := va_P y.1 vwCl (y.2.1 X) U.heap ∧ va_D y.2.2.1 (y.2.1 X)
def ZF (z : ZC) (y : ZY) (cc : ByteArray) (own : String) (nL : Nat) (ret : Option FieldType) (d : Nat) : Prop := match z with
  | (p, _, _, R, s, m, args, _, meth, c) => p.tables.exec = Jvm.exec ∧ c.code = cc ∧ s.vm.findClass own = some m.cls ∧ c.maxLocals = nL ∧ (∀ w ∈ wsA, w.before args s = true) ∧ meth.sig.returnType = ret ∧ meth.locks = false ∧ va_K y.1 vwCl y.2.2.2 s ∧ zN s ∧ d ≤ R.frames ∧ 64 * d ≤ R.locals
def Z (z : ZC) (y : ZY) (nL : Nat) (Q : State → Prop) (X : KX) (pc : Nat) (L : List (Nat × Value)) (st : List Value) : Prop := match z with
  | (p, l, e, R, s, m, args, below, meth, c) => ∀ (H : Heap) (locs : List Loc) (ls : Array Slot), va_P y.1 vwCl (y.2.1 X) H → va_D y.2.2.1 (y.2.1 X) → va_S y.2.2.1 s.heap H locs → lv_has ls nL L → W p l e R s m args below meth c H locs 0 0 Q (F0 m pc ls st)
def zQI (z : ZC) (y : ZY) (R : Int32 × KX) : State → Prop := match z with
  | (_, _, _, _, s, _, args, below, _, _) => MQ below (va_Qi (fun (r : Int32) (u : KX) => (r, u) = R) (zT y) y.2.2.1) args s 0 0 y.2.2.1
def zQV (z : ZC) (y : ZY) (R : KX) : State → Prop := match z with
  | (_, _, _, _, s, _, args, below, _, _) => MQ below (va_Qv (fun (u : KX) => u = R) (zT y) y.2.2.1) args s 0 0 y.2.2.1
def zRm (d : Nat) : Room := { frames := d, cells := 0, slots := 0, locals := 64 * d }
def zMI (y : ZY) (nm : MethodName) (bytes : ByteArray) (maxL : Nat) (ret : Option FieldType) (d : Nat) (av : List Value) (X : KX) (R : Int32 × KX) : Prop := ∀ l : Launch, Met l nm (.code nm bytes maxL ret :: wsA) (zRm d) (va_Pc av (zS y X)) (va_Qi (fun (r : Int32) (u : KX) => (r, u) = R) (zT y) y.2.2.1) 0 0 y.2.2.1
def zMV (y : ZY) (nm : MethodName) (bytes : ByteArray) (maxL : Nat) (ret : Option FieldType) (d : Nat) (av : List Value) (X : KX) (R : KX) : Prop := ∀ l : Launch, Met l nm (.code nm bytes maxL ret :: wsA) (zRm d) (va_Pc av (zS y X)) (va_Qv (fun (u : KX) => u = R) (zT y) y.2.2.1) 0 0 y.2.2.1
section ZOP
variable {y : ZY} {nm : MethodName} {bytes : ByteArray} {maxL : Nat} {ret : Option FieldType} {d : Nat} {av : List Value} {X : KX}
theorem zMI_of {R : Int32 × KX} (hy : plainName nm.cls = true) (hn : (lg_sl av).length ≤ maxL) (body : ∀ z : ZC, ZF z y bytes nm.cls maxL ret d → Z z y maxL (zQI z y R) X 0 (lv_args 0 av) []) : zMI y nm bytes maxL ret d av X R := by
  intro l
  refine Met.ofW (cc := bytes) (maxL := maxL) (ret := ret) hy rfl ?_
  intro p e s m args below meth c s₁ B hml hv
  obtain ⟨rfl, hP, hK, hD, hN⟩ := hv
  have hts : ∀ w ∈ wsA, w.before av.toArray s = true := fun w h => atoms_spec (ws := .code nm bytes maxL ret :: wsA) B.pre w (List.mem_cons_of_mem _ h)
  have h := body (p, l, e, zRm d, s, m, av.toArray, below, meth, c) ⟨B.exec, B.bytes, findClass_of_methodNamed B.named, hml, hts, B.returns, B.notSynchronized, hK, hN, Nat.le_refl _, Nat.le_refl _⟩
  rw [lg_entry_eq]
  exact h s.heap [] _ hP hD va_S.rf (lv_entry av hn)
theorem zMV_of {R : KX} (hy : plainName nm.cls = true) (hn : (lg_sl av).length ≤ maxL) (body : ∀ z : ZC, ZF z y bytes nm.cls maxL ret d → Z z y maxL (zQV z y R) X 0 (lv_args 0 av) []) : zMV y nm bytes maxL ret d av X R := by
  intro l
  refine Met.ofW (cc := bytes) (maxL := maxL) (ret := ret) hy rfl ?_
  intro p e s m args below meth c s₁ B hml hv
  obtain ⟨rfl, hP, hK, hD, hN⟩ := hv
  have hts : ∀ w ∈ wsA, w.before av.toArray s = true := fun w h => atoms_spec (ws := .code nm bytes maxL ret :: wsA) B.pre w (List.mem_cons_of_mem _ h)
  have h := body (p, l, e, zRm d, s, m, av.toArray, below, meth, c) ⟨B.exec, B.bytes, findClass_of_methodNamed B.named, hml, hts, B.returns, B.notSynchronized, hK, hN, Nat.le_refl _, Nat.le_refl _⟩
  rw [lg_entry_eq]
  exact h s.heap [] _ hP hD va_S.rf (lv_entry av hn)
end ZOP
section ZR
variable {z : ZC} {y : ZY} {cc : ByteArray} {own : String} {nL d pc : Nat} {ret : Option FieldType} {Q : State → Prop} {X : KX} {L : List (Nat × Value)} {st : List Value}
theorem z_sub (ks : List Nat) {L' : List (Nat × Value)} (h : lv_pick L ks = L') (k : Z z y nL Q X pc L' st) : Z z y nL Q X pc L st := by
  obtain ⟨p, l, e, R, s, m, args, below, meth, c⟩ := z
  exact fun H locs ls hP hD hS hl => k H locs ls hP hD hS (lv_sub hl ks h)
theorem z_iconst (F : ZF z y cc own nL ret d) {n : Int} {v : Int32} (hdg : decode cc pc = .ok (.iconst n, 1)) (hv : Int32.ofInt n = v) (k : Z z y nL Q X (pc + 1) L (.int v :: st)) : Z z y nL Q X pc L st := by
  obtain ⟨p, l, e, R, s, m, args, below, meth, c⟩ := z
  exact fun H locs ls hP hD hS hl => lv_iconst F.1 F.2.1 hdg hv (k H locs ls hP hD hS hl)
theorem z_bipush (F : ZF z y cc own nL ret d) {n : Int} {v : Int32} (hdg : decode cc pc = .ok (.bipush n, 2)) (hv : (Int8.ofInt n).toInt32 = v) (k : Z z y nL Q X (pc + 2) L (.int v :: st)) : Z z y nL Q X pc L st := by
  obtain ⟨p, l, e, R, s, m, args, below, meth, c⟩ := z
  exact fun H locs ls hP hD hS hl => lv_bipush F.1 F.2.1 hdg hv (k H locs ls hP hD hS hl)
theorem z_sipush (F : ZF z y cc own nL ret d) {n : Int} {v : Int32} (hdg : decode cc pc = .ok (.sipush n, 3)) (hv : (Int16.ofInt n).toInt32 = v) (k : Z z y nL Q X (pc + 3) L (.int v :: st)) : Z z y nL Q X pc L st := by
  obtain ⟨p, l, e, R, s, m, args, below, meth, c⟩ := z
  exact fun H locs ls hP hD hS hl => lv_sipush F.1 F.2.1 hdg hv (k H locs ls hP hD hS hl)
theorem z_ldc (F : ZF z y cc own nL ret d) {index : Nat} {v : Int32} (hw : Cond.constant own index v ∈ wsA) (hdg : decode cc pc = .ok (.ldc index, 2)) (k : Z z y nL Q X (pc + 2) L (.int v :: st)) : Z z y nL Q X pc L st := by
  obtain ⟨p, l, e, R, s, m, args, below, meth, c⟩ := z
  exact fun H locs ls hP hD hS hl => lv_ldc F.1 F.2.1 F.2.2.1 (F.2.2.2.2.1 _ hw) hdg (k H locs ls hP hD hS hl)
theorem z_ldcw (F : ZF z y cc own nL ret d) {index : Nat} {v : Int32} (hw : Cond.constant own index v ∈ wsA) (hdg : decode cc pc = .ok (.ldc_w index, 3)) (k : Z z y nL Q X (pc + 3) L (.int v :: st)) : Z z y nL Q X pc L st := by
  obtain ⟨p, l, e, R, s, m, args, below, meth, c⟩ := z
  exact fun H locs ls hP hD hS hl => lv_ldcw F.1 F.2.1 F.2.2.1 (F.2.2.2.2.1 _ hw) hdg (k H locs ls hP hD hS hl)
theorem z_iload_n (F : ZF z y cc own nL ret d) {kf : Fin 4} {i : Nat} {x : Int32} (hdg : decode cc pc = .ok (.iload_n kf, 1)) (q : Nat) (hi : (kf : Nat) = i) (hq : L[q]? = some (i, .int x)) (k : Z z y nL Q X (pc + 1) L (.int x :: st)) : Z z y nL Q X pc L st := by
  obtain ⟨p, l, e, R, s, m, args, below, meth, c⟩ := z
  exact fun H locs ls hP hD hS hl => lv_iload_n F.1 F.2.1 hdg hi (lv_at hl q hq) (k H locs ls hP hD hS hl)
theorem z_iload (F : ZF z y cc own nL ret d) {i : Nat} {x : Int32} (hdg : decode cc pc = .ok (.iload i, 2)) (q : Nat) (hq : L[q]? = some (i, .int x)) (k : Z z y nL Q X (pc + 2) L (.int x :: st)) : Z z y nL Q X pc L st := by
  obtain ⟨p, l, e, R, s, m, args, below, meth, c⟩ := z
  exact fun H locs ls hP hD hS hl => lv_iload F.1 F.2.1 hdg (lv_at hl q hq) (k H locs ls hP hD hS hl)
theorem z_aload_n (F : ZF z y cc own nL ret d) {kf : Fin 4} {i x : Nat} (hdg : decode cc pc = .ok (.aload_n kf, 1)) (q : Nat) (hi : (kf : Nat) = i) (hq : L[q]? = some (i, .ref x)) (k : Z z y nL Q X (pc + 1) L (.ref x :: st)) : Z z y nL Q X pc L st := by
  obtain ⟨p, l, e, R, s, m, args, below, meth, c⟩ := z
  exact fun H locs ls hP hD hS hl => lv_aload_n F.1 F.2.1 hdg hi (lv_at hl q hq) (k H locs ls hP hD hS hl)
theorem z_aload (F : ZF z y cc own nL ret d) {i x : Nat} (hdg : decode cc pc = .ok (.aload i, 2)) (q : Nat) (hq : L[q]? = some (i, .ref x)) (k : Z z y nL Q X (pc + 2) L (.ref x :: st)) : Z z y nL Q X pc L st := by
  obtain ⟨p, l, e, R, s, m, args, below, meth, c⟩ := z
  exact fun H locs ls hP hD hS hl => lv_aload F.1 F.2.1 hdg (lv_at hl q hq) (k H locs ls hP hD hS hl)
theorem z_istore_n (F : ZF z y cc own nL ret d) {kf : Fin 4} {i : Nat} {x : Int32} {L' : List (Nat × Value)} (hdg : decode cc pc = .ok (.istore_n kf, 1)) (hi : (kf : Nat) = i) (hn : i < nL) (hl' : (i, Value.int x) :: L.filter (fun q => !(q.1 == i) && !(q.1 + 1 == i && q.2.category == 2)) = L') (k : Z z y nL Q X (pc + 1) L' st) : Z z y nL Q X pc L (.int x :: st) := by
  obtain ⟨p, l, e, R, s, m, args, below, meth, c⟩ := z
  exact fun H locs ls hP hD hS hl => lv_istore_n F.1 F.2.1 hdg hi hl hn hl' (fun ls hl => k H locs ls hP hD hS hl)
theorem z_istore (F : ZF z y cc own nL ret d) {i : Nat} {x : Int32} {L' : List (Nat × Value)} (hdg : decode cc pc = .ok (.istore i, 2)) (hn : i < nL) (hl' : (i, Value.int x) :: L.filter (fun q => !(q.1 == i) && !(q.1 + 1 == i && q.2.category == 2)) = L') (k : Z z y nL Q X (pc + 2) L' st) : Z z y nL Q X pc L (.int x :: st) := by
  obtain ⟨p, l, e, R, s, m, args, below, meth, c⟩ := z
  exact fun H locs ls hP hD hS hl => lv_istore F.1 F.2.1 hdg hl hn hl' (fun ls hl => k H locs ls hP hD hS hl)
theorem z_astore_n (F : ZF z y cc own nL ret d) {kf : Fin 4} {i x : Nat} {L' : List (Nat × Value)} (hdg : decode cc pc = .ok (.astore_n kf, 1)) (hi : (kf : Nat) = i) (hn : i < nL) (hl' : (i, Value.ref x) :: L.filter (fun q => !(q.1 == i) && !(q.1 + 1 == i && q.2.category == 2)) = L') (k : Z z y nL Q X (pc + 1) L' st) : Z z y nL Q X pc L (.ref x :: st) := by
  obtain ⟨p, l, e, R, s, m, args, below, meth, c⟩ := z
  exact fun H locs ls hP hD hS hl => lv_astore_n F.1 F.2.1 hdg hi hl hn hl' (fun ls hl => k H locs ls hP hD hS hl)
/-- the stack's top gets a name -/
theorem z_top {β : Type} {x : Int32} {f : Int32 → β} {r : β} (hf : zLet x f = r) (k : ∀ x' : Int32, f x' = r → Z z y nL Q X pc L (.int x' :: st)) : Z z y nL Q X pc L (.int x :: st) := k x hf
theorem z_iinc (F : ZF z y cc own nL ret d) {β : Type} {i : Nat} {n : Int} {x w : Int32} {f : Int32 → β} {r : β} {L' : Int32 → List (Nat × Value)} (hf : zLet (x + w) f = r) (hdg : decode cc pc = .ok (.iinc i n, 3)) (q : Nat) (hq : L[q]? = some (i, .int x)) (hv : Int32.ofInt n = w) (hn : i < nL) (hl' : ∀ v : Int32, (i, Value.int v) :: L.filter (fun q => !(q.1 == i) && !(q.1 + 1 == i && q.2.category == 2)) = L' v) (k : ∀ v : Int32, f v = r → Z z y nL Q X (pc + 3) (L' v) st) : Z z y nL Q X pc L st := by
  obtain ⟨p, l, e, R, s, m, args, below, meth, c⟩ := z
  exact fun H locs ls hP hD hS hl => lv_iinc F.1 F.2.1 hdg hl hq (by rw [hv]) hn (hl' _) (fun ls hl => k _ hf H locs ls hP hD hS hl)
theorem z_iadd (F : ZF z y cc own nL ret d) {a b : Int32} (hdg : decode cc pc = .ok (.iadd, 1)) (k : Z z y nL Q X (pc + 1) L (.int (a + b) :: st)) : Z z y nL Q X pc L (.int b :: .int a :: st) := by
  obtain ⟨p, l, e, R, s, m, args, below, meth, c⟩ := z
  exact fun H locs ls hP hD hS hl => lv_iadd F.1 F.2.1 hdg (k H locs ls hP hD hS hl)
theorem z_isub (F : ZF z y cc own nL ret d) {a b : Int32} (hdg : decode cc pc = .ok (.isub, 1)) (k : Z z y nL Q X (pc + 1) L (.int (a - b) :: st)) : Z z y nL Q X pc L (.int b :: .int a :: st) := by
  obtain ⟨p, l, e, R, s, m, args, below, meth, c⟩ := z
  exact fun H locs ls hP hD hS hl => lv_isub F.1 F.2.1 hdg (k H locs ls hP hD hS hl)
theorem z_imul (F : ZF z y cc own nL ret d) {a b : Int32} (hdg : decode cc pc = .ok (.imul, 1)) (k : Z z y nL Q X (pc + 1) L (.int (a * b) :: st)) : Z z y nL Q X pc L (.int b :: .int a :: st) := by
  obtain ⟨p, l, e, R, s, m, args, below, meth, c⟩ := z
  exact fun H locs ls hP hD hS hl => lv_imul F.1 F.2.1 hdg (k H locs ls hP hD hS hl)
theorem z_iand (F : ZF z y cc own nL ret d) {a b : Int32} (hdg : decode cc pc = .ok (.iand, 1)) (k : Z z y nL Q X (pc + 1) L (.int (a &&& b) :: st)) : Z z y nL Q X pc L (.int b :: .int a :: st) := by
  obtain ⟨p, l, e, R, s, m, args, below, meth, c⟩ := z
  exact fun H locs ls hP hD hS hl => lv_iand F.1 F.2.1 hdg (k H locs ls hP hD hS hl)
theorem z_ior (F : ZF z y cc own nL ret d) {a b : Int32} (hdg : decode cc pc = .ok (.ior, 1)) (k : Z z y nL Q X (pc + 1) L (.int (a ||| b) :: st)) : Z z y nL Q X pc L (.int b :: .int a :: st) := by
  obtain ⟨p, l, e, R, s, m, args, below, meth, c⟩ := z
  exact fun H locs ls hP hD hS hl => lv_ior F.1 F.2.1 hdg (k H locs ls hP hD hS hl)
theorem z_ixor (F : ZF z y cc own nL ret d) {a b : Int32} (hdg : decode cc pc = .ok (.ixor, 1)) (k : Z z y nL Q X (pc + 1) L (.int (a ^^^ b) :: st)) : Z z y nL Q X pc L (.int b :: .int a :: st) := by
  obtain ⟨p, l, e, R, s, m, args, below, meth, c⟩ := z
  exact fun H locs ls hP hD hS hl => lv_ixor F.1 F.2.1 hdg (k H locs ls hP hD hS hl)
theorem z_idiv (F : ZF z y cc own nL ret d) {α : Type} {a b : Int32} {e : Option α} {r : α} (hf : zGz b e = some r) (hdg : decode cc pc = .ok (.idiv, 1)) (k : e = some r → Z z y nL Q X (pc + 1) L (.int (a / b) :: st)) : Z z y nL Q X pc L (.int b :: .int a :: st) := by
  obtain ⟨p, l, e, R, s, m, args, below, meth, c⟩ := z
  obtain ⟨h1, h2⟩ := zGz_some hf
  exact fun H locs ls hP hD hS hl => lv_idiv F.1 F.2.1 hdg h1 (k h2 H locs ls hP hD hS hl)
theorem z_irem (F : ZF z y cc own nL ret d) {α : Type} {a b : Int32} {e : Option α} {r : α} (hf : zGz b e = some r) (hdg : decode cc pc = .ok (.irem, 1)) (k : e = some r → Z z y nL Q X (pc + 1) L (.int (zRem a b) :: st)) : Z z y nL Q X pc L (.int b :: .int a :: st) := by
  obtain ⟨p, l, e, R, s, m, args, below, meth, c⟩ := z
  obtain ⟨h1, h2⟩ := zGz_some hf
  exact fun H locs ls hP hD hS hl => lv_irem F.1 F.2.1 hdg h1 (k h2 H locs ls hP hD hS hl)
theorem z_idivL (F : ZF z y cc own nL ret d) {a b : Int32} (hb : ¬ b = 0) (hdg : decode cc pc = .ok (.idiv, 1)) (k : Z z y nL Q X (pc + 1) L (.int (a / b) :: st)) : Z z y nL Q X pc L (.int b :: .int a :: st) := by
  obtain ⟨p, l, e, R, s, m, args, below, meth, c⟩ := z
  exact fun H locs ls hP hD hS hl => lv_idiv F.1 F.2.1 hdg hb (k H locs ls hP hD hS hl)
theorem z_iremL (F : ZF z y cc own nL ret d) {a b : Int32} (hb : ¬ b = 0) (hdg : decode cc pc = .ok (.irem, 1)) (k : Z z y nL Q X (pc + 1) L (.int (zRem a b) :: st)) : Z z y nL Q X pc L (.int b :: .int a :: st) := by
  obtain ⟨p, l, e, R, s, m, args, below, meth, c⟩ := z
  exact fun H locs ls hP hD hS hl => lv_irem F.1 F.2.1 hdg hb (k H locs ls hP hD hS hl)
theorem z_ineg (F : ZF z y cc own nL ret d) {a : Int32} (hdg : decode cc pc = .ok (.ineg, 1)) (k : Z z y nL Q X (pc + 1) L (.int (-a) :: st)) : Z z y nL Q X pc L (.int a :: st) := by
  obtain ⟨p, l, e, R, s, m, args, below, meth, c⟩ := z
  exact fun H locs ls hP hD hS hl => lv_ineg F.1 F.2.1 hdg (k H locs ls hP hD hS hl)
theorem z_ishl (F : ZF z y cc own nL ret d) {a b : Int32} (hdg : decode cc pc = .ok (.ishl, 1)) (k : Z z y nL Q X (pc + 1) L (.int (zShl a b) :: st)) : Z z y nL Q X pc L (.int b :: .int a :: st) := by
  obtain ⟨p, l, e, R, s, m, args, below, meth, c⟩ := z
  exact fun H locs ls hP hD hS hl => lv_ishl F.1 F.2.1 hdg (k H locs ls hP hD hS hl)
theorem z_ishr (F : ZF z y cc own nL ret d) {a b : Int32} (hdg : decode cc pc = .ok (.ishr, 1)) (k : Z z y nL Q X (pc + 1) L (.int (zShr a b) :: st)) : Z z y nL Q X pc L (.int b :: .int a :: st) := by
  obtain ⟨p, l, e, R, s, m, args, below, meth, c⟩ := z
  exact fun H locs ls hP hD hS hl => lv_ishr F.1 F.2.1 hdg (k H locs ls hP hD hS hl)
theorem z_iushr (F : ZF z y cc own nL ret d) {a b : Int32} (hdg : decode cc pc = .ok (.iushr, 1)) (k : Z z y nL Q X (pc + 1) L (.int (zUsh a b) :: st)) : Z z y nL Q X pc L (.int b :: .int a :: st) := by
  obtain ⟨p, l, e, R, s, m, args, below, meth, c⟩ := z
  exact fun H locs ls hP hD hS hl => lv_iushr F.1 F.2.1 hdg rfl (k H locs ls hP hD hS hl)
theorem z_i2b (F : ZF z y cc own nL ret d) {a : Int32} (hdg : decode cc pc = .ok (.i2b, 1)) (k : Z z y nL Q X (pc + 1) L (.int (a.toInt8.toInt32) :: st)) : Z z y nL Q X pc L (.int a :: st) := by
  obtain ⟨p, l, e, R, s, m, args, below, meth, c⟩ := z
  exact fun H locs ls hP hD hS hl => lv_i2b F.1 F.2.1 hdg rfl (k H locs ls hP hD hS hl)
theorem z_i2s (F : ZF z y cc own nL ret d) {a : Int32} (hdg : decode cc pc = .ok (.i2s, 1)) (k : Z z y nL Q X (pc + 1) L (.int (a.toInt16.toInt32) :: st)) : Z z y nL Q X pc L (.int a :: st) := by
  obtain ⟨p, l, e, R, s, m, args, below, meth, c⟩ := z
  exact fun H locs ls hP hD hS hl => lv_i2s F.1 F.2.1 hdg rfl (k H locs ls hP hD hS hl)
theorem z_dup (F : ZF z y cc own nL ret d) {v : Value} (hdg : decode cc pc = .ok (.dup, 1)) (hc : v.category = 1) (k : Z z y nL Q X (pc + 1) L (v :: v :: st)) : Z z y nL Q X pc L (v :: st) := by
  obtain ⟨p, l, e, R, s, m, args, below, meth, c⟩ := z
  exact fun H locs ls hP hD hS hl => lv_dup F.1 F.2.1 hdg hc (k H locs ls hP hD hS hl)
theorem z_pop (F : ZF z y cc own nL ret d) {v : Value} (hdg : decode cc pc = .ok (.pop, 1)) (hc : v.category = 1) (k : Z z y nL Q X (pc + 1) L st) : Z z y nL Q X pc L (v :: st) := by
  obtain ⟨p, l, e, R, s, m, args, below, meth, c⟩ := z
  exact fun H locs ls hP hD hS hl => lv_pop F.1 F.2.1 hdg hc (k H locs ls hP hD hS hl)
theorem z_dup_x1 (F : ZF z y cc own nL ret d) {v w : Value} (hdg : decode cc pc = .ok (.dup_x1, 1)) (hc : v.category = 1) (hc2 : w.category = 1) (k : Z z y nL Q X (pc + 1) L (v :: w :: v :: st)) : Z z y nL Q X pc L (v :: w :: st) := by
  obtain ⟨p, l, e, R, s, m, args, below, meth, c⟩ := z
  exact fun H locs ls hP hD hS hl => lv_dup_x1 F.1 F.2.1 hdg hc hc2 (k H locs ls hP hD hS hl)
theorem z_dup2 (F : ZF z y cc own nL ret d) {v w : Value} (hdg : decode cc pc = .ok (.dup2, 1)) (hc : v.category = 1) (hc2 : w.category = 1) (k : Z z y nL Q X (pc + 1) L (v :: w :: v :: w :: st)) : Z z y nL Q X pc L (v :: w :: st) := by
  obtain ⟨p, l, e, R, s, m, args, below, meth, c⟩ := z
  exact fun H locs ls hP hD hS hl => lv_dup2_11 F.1 F.2.1 hdg hc hc2 (k H locs ls hP hD hS hl)
theorem z_goto (F : ZF z y cc own nL ret d) {off : Int} {tgt : Nat} (hdg : decode cc pc = .ok (.goto off, 3)) (ht : (pc : Int) + off = (tgt : Int)) (k : Z z y nL Q X tgt L st) : Z z y nL Q X pc L st := by
  obtain ⟨p, l, e, R, s, m, args, below, meth, c⟩ := z
  exact fun H locs ls hP hD hS hl => lv_goto F.1 F.2.1 hdg ht (k H locs ls hP hD hS hl)
theorem z_if_eq (F : ZF z y cc own nL ret d) {β : Type} {x : Int32} {off : Int} {tgt : Nat} {a b r : β} (hf : (if x = 0 then a else b) = r) (hdg : decode cc pc = .ok (.ifCond .eq off, 3)) (ht : (pc : Int) + off = (tgt : Int)) (k1 : a = r → Z z y nL Q X tgt L st) (k2 : b = r → Z z y nL Q X (pc + 3) L st) : Z z y nL Q X pc L (.int x :: st) := by
  obtain ⟨p, l, e, R, s, m, args, below, meth, c⟩ := z
  intro H locs ls hP hD hS hl
  exact lv_if_eq F.1 F.2.1 hdg ht (fun q => k1 (by rw [if_pos q] at hf; exact hf) H locs ls hP hD hS hl) (fun q => k2 (by rw [if_neg q] at hf; exact hf) H locs ls hP hD hS hl)
theorem z_icmp_eq (F : ZF z y cc own nL ret d) {β : Type} {x y9 : Int32} {off : Int} {tgt : Nat} {a b r : β} (hf : (if x = y9 then a else b) = r) (hdg : decode cc pc = .ok (.if_icmp .eq off, 3)) (ht : (pc : Int) + off = (tgt : Int)) (k1 : a = r → Z z y nL Q X tgt L st) (k2 : b = r → Z z y nL Q X (pc + 3) L st) : Z z y nL Q X pc L (.int y9 :: .int x :: st) := by
  obtain ⟨p, l, e, R, s, m, args, below, meth, c⟩ := z
  intro H locs ls hP hD hS hl
  exact lv_icmp_eq F.1 F.2.1 hdg ht (fun q => k1 (by rw [if_pos q] at hf; exact hf) H locs ls hP hD hS hl) (fun q => k2 (by rw [if_neg q] at hf; exact hf) H locs ls hP hD hS hl)
theorem z_if_ne (F : ZF z y cc own nL ret d) {β : Type} {x : Int32} {off : Int} {tgt : Nat} {a b r : β} (hf : (if x = 0 then b else a) = r) (hdg : decode cc pc = .ok (.ifCond .ne off, 3)) (ht : (pc : Int) + off = (tgt : Int)) (k1 : a = r → Z z y nL Q X tgt L st) (k2 : b = r → Z z y nL Q X (pc + 3) L st) : Z z y nL Q X pc L (.int x :: st) := by
  obtain ⟨p, l, e, R, s, m, args, below, meth, c⟩ := z
  intro H locs ls hP hD hS hl
  exact lv_if_ne F.1 F.2.1 hdg ht (fun q => k1 (by rw [if_neg q] at hf; exact hf) H locs ls hP hD hS hl) (fun q => k2 (by rw [if_pos q] at hf; exact hf) H locs ls hP hD hS hl)
theorem z_icmp_ne (F : ZF z y cc own nL ret d) {β : Type} {x y9 : Int32} {off : Int} {tgt : Nat} {a b r : β} (hf : (if x = y9 then b else a) = r) (hdg : decode cc pc = .ok (.if_icmp .ne off, 3)) (ht : (pc : Int) + off = (tgt : Int)) (k1 : a = r → Z z y nL Q X tgt L st) (k2 : b = r → Z z y nL Q X (pc + 3) L st) : Z z y nL Q X pc L (.int y9 :: .int x :: st) := by
  obtain ⟨p, l, e, R, s, m, args, below, meth, c⟩ := z
  intro H locs ls hP hD hS hl
  exact lv_icmp_ne F.1 F.2.1 hdg ht (fun q => k1 (by rw [if_neg q] at hf; exact hf) H locs ls hP hD hS hl) (fun q => k2 (by rw [if_pos q] at hf; exact hf) H locs ls hP hD hS hl)
theorem z_if_lt (F : ZF z y cc own nL ret d) {β : Type} {x : Int32} {off : Int} {tgt : Nat} {a b r : β} (hf : (if x < 0 then a else b) = r) (hdg : decode cc pc = .ok (.ifCond .lt off, 3)) (ht : (pc : Int) + off = (tgt : Int)) (k1 : a = r → Z z y nL Q X tgt L st) (k2 : b = r → Z z y nL Q X (pc + 3) L st) : Z z y nL Q X pc L (.int x :: st) := by
  obtain ⟨p, l, e, R, s, m, args, below, meth, c⟩ := z
  intro H locs ls hP hD hS hl
  exact lv_if_lt F.1 F.2.1 hdg ht (fun q => k1 (by rw [if_pos q] at hf; exact hf) H locs ls hP hD hS hl) (fun q => k2 (by rw [if_neg q] at hf; exact hf) H locs ls hP hD hS hl)
theorem z_icmp_lt (F : ZF z y cc own nL ret d) {β : Type} {x y9 : Int32} {off : Int} {tgt : Nat} {a b r : β} (hf : (if x < y9 then a else b) = r) (hdg : decode cc pc = .ok (.if_icmp .lt off, 3)) (ht : (pc : Int) + off = (tgt : Int)) (k1 : a = r → Z z y nL Q X tgt L st) (k2 : b = r → Z z y nL Q X (pc + 3) L st) : Z z y nL Q X pc L (.int y9 :: .int x :: st) := by
  obtain ⟨p, l, e, R, s, m, args, below, meth, c⟩ := z
  intro H locs ls hP hD hS hl
  exact lv_icmp_lt F.1 F.2.1 hdg ht (fun q => k1 (by rw [if_pos q] at hf; exact hf) H locs ls hP hD hS hl) (fun q => k2 (by rw [if_neg q] at hf; exact hf) H locs ls hP hD hS hl)
theorem z_if_ge (F : ZF z y cc own nL ret d) {β : Type} {x : Int32} {off : Int} {tgt : Nat} {a b r : β} (hf : (if 0 ≤ x then a else b) = r) (hdg : decode cc pc = .ok (.ifCond .ge off, 3)) (ht : (pc : Int) + off = (tgt : Int)) (k1 : a = r → Z z y nL Q X tgt L st) (k2 : b = r → Z z y nL Q X (pc + 3) L st) : Z z y nL Q X pc L (.int x :: st) := by
  obtain ⟨p, l, e, R, s, m, args, below, meth, c⟩ := z
  intro H locs ls hP hD hS hl
  exact lv_if_ge F.1 F.2.1 hdg ht (fun q => k1 (by rw [if_pos q] at hf; exact hf) H locs ls hP hD hS hl) (fun q => k2 (by rw [if_neg q] at hf; exact hf) H locs ls hP hD hS hl)
theorem z_icmp_ge (F : ZF z y cc own nL ret d) {β : Type} {x y9 : Int32} {off : Int} {tgt : Nat} {a b r : β} (hf : (if y9 ≤ x then a else b) = r) (hdg : decode cc pc = .ok (.if_icmp .ge off, 3)) (ht : (pc : Int) + off = (tgt : Int)) (k1 : a = r → Z z y nL Q X tgt L st) (k2 : b = r → Z z y nL Q X (pc + 3) L st) : Z z y nL Q X pc L (.int y9 :: .int x :: st) := by
  obtain ⟨p, l, e, R, s, m, args, below, meth, c⟩ := z
  intro H locs ls hP hD hS hl
  exact lv_icmp_ge F.1 F.2.1 hdg ht (fun q => k1 (by rw [if_pos q] at hf; exact hf) H locs ls hP hD hS hl) (fun q => k2 (by rw [if_neg q] at hf; exact hf) H locs ls hP hD hS hl)
theorem z_if_gt (F : ZF z y cc own nL ret d) {β : Type} {x : Int32} {off : Int} {tgt : Nat} {a b r : β} (hf : (if 0 < x then a else b) = r) (hdg : decode cc pc = .ok (.ifCond .gt off, 3)) (ht : (pc : Int) + off = (tgt : Int)) (k1 : a = r → Z z y nL Q X tgt L st) (k2 : b = r → Z z y nL Q X (pc + 3) L st) : Z z y nL Q X pc L (.int x :: st) := by
  obtain ⟨p, l, e, R, s, m, args, below, meth, c⟩ := z
  intro H locs ls hP hD hS hl
  exact lv_if_gt F.1 F.2.1 hdg ht (fun q => k1 (by rw [if_pos q] at hf; exact hf) H locs ls hP hD hS hl) (fun q => k2 (by rw [if_neg q] at hf; exact hf) H locs ls hP hD hS hl)
theorem z_icmp_gt (F : ZF z y cc own nL ret d) {β : Type} {x y9 : Int32} {off : Int} {tgt : Nat} {a b r : β} (hf : (if y9 < x then a else b) = r) (hdg : decode cc pc = .ok (.if_icmp .gt off, 3)) (ht : (pc : Int) + off = (tgt : Int)) (k1 : a = r → Z z y nL Q X tgt L st) (k2 : b = r → Z z y nL Q X (pc + 3) L st) : Z z y nL Q X pc L (.int y9 :: .int x :: st) := by
  obtain ⟨p, l, e, R, s, m, args, below, meth, c⟩ := z
  intro H locs ls hP hD hS hl
  exact lv_icmp_gt F.1 F.2.1 hdg ht (fun q => k1 (by rw [if_pos q] at hf; exact hf) H locs ls hP hD hS hl) (fun q => k2 (by rw [if_neg q] at hf; exact hf) H locs ls hP hD hS hl)
theorem z_if_le (F : ZF z y cc own nL ret d) {β : Type} {x : Int32} {off : Int} {tgt : Nat} {a b r : β} (hf : (if x ≤ 0 then a else b) = r) (hdg : decode cc pc = .ok (.ifCond .le off, 3)) (ht : (pc : Int) + off = (tgt : Int)) (k1 : a = r → Z z y nL Q X tgt L st) (k2 : b = r → Z z y nL Q X (pc + 3) L st) : Z z y nL Q X pc L (.int x :: st) := by
  obtain ⟨p, l, e, R, s, m, args, below, meth, c⟩ := z
  intro H locs ls hP hD hS hl
  exact lv_if_le F.1 F.2.1 hdg ht (fun q => k1 (by rw [if_pos q] at hf; exact hf) H locs ls hP hD hS hl) (fun q => k2 (by rw [if_neg q] at hf; exact hf) H locs ls hP hD hS hl)
theorem z_icmp_le (F : ZF z y cc own nL ret d) {β : Type} {x y9 : Int32} {off : Int} {tgt : Nat} {a b r : β} (hf : (if x ≤ y9 then a else b) = r) (hdg : decode cc pc = .ok (.if_icmp .le off, 3)) (ht : (pc : Int) + off = (tgt : Int)) (k1 : a = r → Z z y nL Q X tgt L st) (k2 : b = r → Z z y nL Q X (pc + 3) L st) : Z z y nL Q X pc L (.int y9 :: .int x :: st) := by
  obtain ⟨p, l, e, R, s, m, args, below, meth, c⟩ := z
  intro H locs ls hP hD hS hl
  exact lv_icmp_le F.1 F.2.1 hdg ht (fun q => k1 (by rw [if_pos q] at hf; exact hf) H locs ls hP hD hS hl) (fun q => k2 (by rw [if_neg q] at hf; exact hf) H locs ls hP hD hS hl)
theorem z_swIn (F : ZF z y cc own nL ret d) {dflt lo hi : Int} {offs : Array Int} {len : Nat} {x v : Int32} {off : Int} {tgt : Nat} (hx : x = v) (hdg : decode cc pc = .ok (.tableswitch dflt lo hi offs, len)) (h : (¬ v.toInt < lo ∧ ¬ hi < v.toInt) ∧ offs[(v.toInt - lo).toNat]? = some off ∧ (pc : Int) + off = (tgt : Int)) (k : Z z y nL Q X tgt L st) : Z z y nL Q X pc L (.int x :: st) := by
  obtain ⟨p, l, e, R, s, m, args, below, meth, c⟩ := z
  subst hx
  exact fun H locs ls hP hD hS hl => lv_tableIn F.1 F.2.1 hdg h.1.1 h.1.2 h.2.1 h.2.2 (k H locs ls hP hD hS hl)
theorem z_swOut (F : ZF z y cc own nL ret d) {dflt lo hi : Int} {offs : Array Int} {len : Nat} {x : Int32} {tgt : Nat} (hdg : decode cc pc = .ok (.tableswitch dflt lo hi offs, len)) (h : x.toInt < lo ∨ hi < x.toInt) (ht : (pc : Int) + dflt = (tgt : Int)) (k : Z z y nL Q X tgt L st) : Z z y nL Q X pc L (.int x :: st) := by
  obtain ⟨p, l, e, R, s, m, args, below, meth, c⟩ := z
  exact fun H locs ls hP hD hS hl => lv_tableOut F.1 F.2.1 hdg h ht (k H locs ls hP hD hS hl)
theorem z_look (F : ZF z y cc own nL ret d) {dflt : Int} {ps : Array (Int × Int)} {len : Nat} {x : Int32} {off : Int} {tgt : Nat} (hdg : decode cc pc = .ok (.lookupswitch dflt ps, len)) (hp : (ps.toList.zip (ps.toList.drop 1)).all (fun (a, next) => a.1 < next.1) = true) (ho : Op.lookupswitch.offset ps.toList dflt x.toInt = off) (ht : (pc : Int) + off = (tgt : Int)) (k : Z z y nL Q X tgt L st) : Z z y nL Q X pc L (.int x :: st) := by
  obtain ⟨p, l, e, R, s, m, args, below, meth, c⟩ := z
  exact fun H locs ls hP hD hS hl => lv_lookup F.1 F.2.1 hdg hp ho ht (k H locs ls hP hD hS hl)
/-! ends -/
theorem z_iret {R : Int32 × KX} (F : ZF z y cc own nL (some .int) d) {v : Int32} (hdg : decode cc pc = .ok (.ireturn, 1)) (hf : (v, X) = R) : Z z y nL (zQI z y R) X pc L [.int v] := by
  obtain ⟨p, l, e, Rm, s, m, args, below, meth, c⟩ := z
  exact fun H locs ls hP hD hS hl => W.iret F.1 F.2.1 F.2.2.2.2.2.1 (fun t ht hW => ⟨⟨v, X, rfl, hf, by rw [ht]; exact hP, hD⟩, hS.F ht⟩) hS.2.2 hdg F.2.2.2.2.2.2.1
theorem z_zret {R : Int32 × KX} (F : ZF z y cc own nL (some .boolean) d) {v : Int32} (hz : v = 0 ∨ v = 1) (hdg : decode cc pc = .ok (.ireturn, 1)) (hf : (v, X) = R) : Z z y nL (zQI z y R) X pc L [.int v] := by
  obtain ⟨p, l, e, Rm, s, m, args, below, meth, c⟩ := z
  exact fun H locs ls hP hD hS hl => W.zret F.1 F.2.1 F.2.2.2.2.2.1 (zBool hz).1 (fun t ht hW => ⟨⟨v, X, rfl, hf, by rw [ht]; exact hP, hD⟩, hS.F ht⟩) hS.2.2 hdg F.2.2.2.2.2.2.1
theorem z_vret {R : KX} (F : ZF z y cc own nL none d) (hdg : decode cc pc = .ok (.return_, 1)) (hf : X = R) : Z z y nL (zQV z y R) X pc L [] := by
  obtain ⟨p, l, e, Rm, s, m, args, below, meth, c⟩ := z
  exact fun H locs ls hP hD hS hl => W.vret F.1 F.2.1 F.2.2.2.2.2.1 (fun t ht hW => ⟨⟨X, rfl, hf, by rw [ht]; exact hP, hD⟩, hS.F ht⟩) hS.2.2 hdg F.2.2.2.2.2.2.1
/-! calls -/
theorem zS.blind {av : List Value} : FrameBlind (va_Pc av (zS y X)) := fun a U g mk q => ⟨q.1, q.2.1, va_K.moved (u := U) (U := U.calling g mk a) (Vm.Alike.refl U.vm) q.2.2.1, q.2.2.2.1, zN.same (u := U) (U := U.calling g mk a) rfl q.2.2.2.2⟩
theorem z_good {pre : List Cond} {c2 : Cond} (h : ∀ w ∈ pre, w ∈ wsA) (h2 : c2 ∈ wsA) : GoodIn wsA (pre ++ (c2 :: wsA)) := by
  intro w hw
  have hm : w ∈ wsA := by
    rcases List.mem_append.mp hw with q | q
    · exact h w q
    · rcases List.mem_cons.mp q with rfl | q
      · exact h2
      · exact q
  exact ⟨hm, wsA_good w hm⟩
/-- what a caller must know of a callee -/
def zKn (nm : MethodName) (bytes : ByteArray) (maxL : Nat) (ret : Option FieldType) (n : Nat) : Prop := Cond.code nm bytes maxL ret ∈ wsA ∧ Cond.initialized nm.cls ∈ wsA ∧ (nm.cls ≠ "java/lang/invoke/MethodHandle" ∧ nm.cls ≠ "java/lang/invoke/VarHandle" ∧ (parseMethodDescriptor nm.desc).map (fun d => d.parameters.length) = some n) ∧ maxL ≤ 45
def zKv (nm : MethodName) : Prop := Cond.instanceMethod nm ∈ wsA ∧ Cond.selects nm.cls nm nm ∈ wsA
theorem z_runV {nm : MethodName} {bytes : ByteArray} {maxL n index ci q0 N d' : Nat} {ret' : Option FieldType} {As rest : List Value} {a : Nat} {fs : List Value} {T : u_T} {Qc : Array Value → State → Outcome → State → Prop} {p : Program} {l : Launch} {e : Env} {R : Room} {s : State} {m : MethodId} {args : Array Value} {below : List Frame} {meth : Method} {c : Code} {H : Heap} {locs : List Loc} {ls : Array Slot}
    (F : ZF (p, l, e, R, s, m, args, below, meth, c) y cc own nL ret d) (hM : Met l nm (.code nm bytes maxL ret' :: wsA) (zRm d') (va_Pc (.ref a :: As) (zS y X)) Qc 0 0 y.2.2.1) (hk : zKn nm bytes maxL ret' n) (hv : zKv nm) (hw : Cond.methodLink own index nm ∈ wsA) (hq : (y.2.1 X)[q0]? = some (a, .inr (ci, fs))) (hc : vwCl[ci]? = some (nm.cls, T, N)) (hd : d' + 1 ≤ d)
    (hn : As.length = n) (hP : va_P y.1 vwCl (y.2.1 X) H) (hD : va_D y.2.2.1 (y.2.1 X)) (hsz : ls.size = nL) (hst : (rest.map fun v => v.category).sum ≤ 8) (hdg : decode cc pc = .ok (.invokevirtual index, 3)) :
    va_Run p l e R s m args below meth c H locs 0 0 0 0 (F0 m pc ls (As.reverse ++ .ref a :: rest)) rest (Qc (Value.ref a :: As).toArray) y.2.2.1 := by
  obtain ⟨hx, hb, hown, hml, hts, hr, hlk, hK, hN, hR1, hR2⟩ := F
  have hm := hk.2.2.2
  refine va_runV (As := As) (rest := rest) ⟨hx, hb, hml, hown, hts⟩ hM (cwV n hts (z_good (pre := [.methodLink own index nm, .instanceMethod nm, .selects nm.cls nm nm, .initialized nm.cls]) ?_ hk.1) rfl rfl rfl ⟨rfl, hk.2.2.1⟩ ⟨?_, ?_⟩) ⟨zS.blind, va_recv hK hP hc hq, fun U hU hW => ⟨rfl, by rw [hU]; exact hP, va_K.moved hW.alike hK, hD, zN.warm hW hN⟩⟩ rfl hn hsz rfl (lv_room hst) hdg ⟨Nat.zero_le _, Nat.zero_le _⟩
  · intro w hw2
    simp only [List.mem_cons, List.not_mem_nil, or_false] at hw2
    rcases hw2 with rfl | rfl | rfl | rfl
    · exact hw
    · exact hv.1
    · exact hv.2
    · exact hk.2.1
  · exact Nat.le_trans hd hR1
  · show 8 + (maxL + 11) + 64 * d' ≤ R.locals
    omega
theorem z_runS {nm : MethodName} {bytes : ByteArray} {maxL n index d' : Nat} {ret' : Option FieldType} {As rest : List Value} {Qc : Array Value → State → Outcome → State → Prop} {p : Program} {l : Launch} {e : Env} {R : Room} {s : State} {m : MethodId} {args : Array Value} {below : List Frame} {meth : Method} {c : Code} {H : Heap} {locs : List Loc} {ls : Array Slot}
    (F : ZF (p, l, e, R, s, m, args, below, meth, c) y cc own nL ret d) (hM : Met l nm (.code nm bytes maxL ret' :: wsA) (zRm d') (va_Pc As (zS y X)) Qc 0 0 y.2.2.1) (hk : zKn nm bytes maxL ret' n) (hv : Cond.static nm ∈ wsA) (hw : Cond.methodLink own index nm ∈ wsA) (hd : d' + 1 ≤ d)
    (hn : As.length = n) (hP : va_P y.1 vwCl (y.2.1 X) H) (hD : va_D y.2.2.1 (y.2.1 X)) (hsz : ls.size = nL) (hst : (rest.map fun v => v.category).sum ≤ 8) (hdg : decode cc pc = .ok (.invokestatic index, 3)) :
    va_Run p l e R s m args below meth c H locs 0 0 0 0 (F0 m pc ls (As.reverse ++ rest)) rest (Qc As.toArray) y.2.2.1 := by
  obtain ⟨hx, hb, hown, hml, hts, hr, hlk, hK, hN, hR1, hR2⟩ := F
  have hm := hk.2.2.2
  refine va_runS (As := As) (rest := rest) ⟨hx, hb, hml, hown, hts⟩ hM (va_cwS n hts (z_good (pre := [.methodLink own index nm, .static nm, .initialized nm.cls]) ?_ hk.1) rfl rfl rfl hk.2.2.1 ⟨?_, ?_⟩) ⟨zS.blind, fun U hU hW => ⟨rfl, by rw [hU]; exact hP, va_K.moved hW.alike hK, hD, zN.warm hW hN⟩⟩ rfl hn hsz rfl (lv_room hst) hdg ⟨Nat.zero_le _, Nat.zero_le _⟩
  · intro w hw2
    simp only [List.mem_cons, List.not_mem_nil, or_false] at hw2
    rcases hw2 with rfl | rfl | rfl
    · exact hw
    · exact hv
    · exact hk.2.1
  · exact Nat.le_trans hd hR1
  · show 8 + (maxL + 11) + 64 * d' ≤ R.locals
    omega
theorem z_runSN {nm : MethodName} {bytes : ByteArray} {maxL n index d' : Nat} {host : String} {ret' : Option FieldType} {As rest : List Value} {Qc : Array Value → State → Outcome → State → Prop} {p : Program} {l : Launch} {e : Env} {R : Room} {s : State} {m : MethodId} {args : Array Value} {below : List Frame} {meth : Method} {c : Code} {H : Heap} {locs : List Loc} {ls : Array Slot}
    (F : ZF (p, l, e, R, s, m, args, below, meth, c) y cc own nL ret d) (hM : Met l nm (.code nm bytes maxL ret' :: wsA) (zRm d') (va_Pc As (zS y X)) Qc 0 0 y.2.2.1) (hk : zKn nm bytes maxL ret' n) (hv : Cond.static nm ∈ wsA) (hw : zN s → va_Nw (.methodLinkNest own index nm host) s) (hd : d' + 1 ≤ d)
    (hn : As.length = n) (hP : va_P y.1 vwCl (y.2.1 X) H) (hD : va_D y.2.2.1 (y.2.1 X)) (hsz : ls.size = nL) (hst : (rest.map fun v => v.category).sum ≤ 8) (hdg : decode cc pc = .ok (.invokestatic index, 3)) :
    va_Run p l e R s m args below meth c H locs 0 0 0 0 (F0 m pc ls (As.reverse ++ rest)) rest (Qc As.toArray) y.2.2.1 := by
  obtain ⟨hx, hb, hown, hml, hts, hr, hlk, hK, hN, hR1, hR2⟩ := F
  have hm := hk.2.2.2
  refine va_runSN (As := As) (rest := rest) (host := host) ⟨hx, hb, hml, hown, hts⟩ hM ⟨va_cnB n hts (fun w h => ?_) rfl rfl rfl (hw hN) (hts _ hk.2.1) hk.2.2.1 ⟨?_, ?_⟩, hts _ hv, trivial⟩ ⟨zS.blind, fun U hU hW => ⟨rfl, by rw [hU]; exact hP, va_K.moved hW.alike hK, hD, zN.warm hW hN⟩⟩ rfl hn hsz rfl (lv_room hst) hdg ⟨Nat.zero_le _, Nat.zero_le _⟩
  · rcases List.mem_cons.mp h with rfl | h
    · exact ⟨hk.1, wsA_good _ hk.1⟩
    · exact ⟨h, wsA_good _ h⟩
  · exact Nat.le_trans hd hR1
  · show 8 + (maxL + 11) + 64 * d' ≤ R.locals
    omega
end ZR
section ZC2
variable {z : ZC} {y : ZY} {cc : ByteArray} {own : String} {nL d pc : Nat} {ret : Option FieldType} {Q : State → Prop} {X : KX} {L : List (Nat × Value)} {st rest : List Value} {nm : MethodName} {bytes : ByteArray} {maxL n index ci q0 N d' : Nat} {ret' : Option FieldType} {As : List Value} {a : Nat} {fs : List Value} {T : u_T}
theorem z_cVI (F : ZF z y cc own nL ret d) {R : Int32 × KX} (hM : zMI y nm bytes maxL ret' d' (.ref a :: As) X R) (hk : zKn nm bytes maxL ret' n) (hv : zKv nm) (hw : Cond.methodLink own index nm ∈ wsA) (hq : (y.2.1 X)[q0]? = some (a, .inr (ci, fs))) (hc : vwCl[ci]? = some (nm.cls, T, N)) (hd : d' + 1 ≤ d) (hn : As.length = n) (hst : (rest.map fun v => v.category).sum ≤ 8) (hdg : decode cc pc = .ok (.invokevirtual index, 3)) (e : As.reverse ++ .ref a :: rest = st) (k : Z z y nL Q R.2 (pc + 3) L (.int R.1 :: rest)) : Z z y nL Q X pc L st := by
  obtain ⟨p, l, ev, Rm, s, m, args, below, meth, c⟩ := z
  subst e
  intro H locs ls hP hD hS hl
  refine va_calli (z_runV F (hM l) hk hv hw hq hc hd hn hP hD hl.1 hst hdg) hS (fun _ _ h => h) (fun _ h => h) (fun r u t H1 locs1 ht _ hp hB _ _ hS1 => ?_)
  subst hp
  exact k H1 locs1 ls (by rw [← ht]; exact hB.1) hB.2 hS1 hl
theorem z_cVV (F : ZF z y cc own nL ret d) {R : KX} (hM : zMV y nm bytes maxL ret' d' (.ref a :: As) X R) (hk : zKn nm bytes maxL ret' n) (hv : zKv nm) (hw : Cond.methodLink own index nm ∈ wsA) (hq : (y.2.1 X)[q0]? = some (a, .inr (ci, fs))) (hc : vwCl[ci]? = some (nm.cls, T, N)) (hd : d' + 1 ≤ d) (hn : As.length = n) (hst : (rest.map fun v => v.category).sum ≤ 8) (hdg : decode cc pc = .ok (.invokevirtual index, 3)) (e : As.reverse ++ .ref a :: rest = st) (k : Z z y nL Q R (pc + 3) L rest) : Z z y nL Q X pc L st := by
  obtain ⟨p, l, ev, Rm, s, m, args, below, meth, c⟩ := z
  subst e
  intro H locs ls hP hD hS hl
  refine va_callv (z_runV F (hM l) hk hv hw hq hc hd hn hP hD hl.1 hst hdg) hS (fun _ _ h => h) (fun _ h => h) (fun u t H1 locs1 ht _ hp hB _ _ hS1 => ?_)
  subst hp
  exact k H1 locs1 ls (by rw [← ht]; exact hB.1) hB.2 hS1 hl
theorem z_cSI (F : ZF z y cc own nL ret d) {R : Int32 × KX} (hM : zMI y nm bytes maxL ret' d' As X R) (hk : zKn nm bytes maxL ret' n) (hv : Cond.static nm ∈ wsA) (hw : Cond.methodLink own index nm ∈ wsA) (hd : d' + 1 ≤ d) (hn : As.length = n) (hst : (rest.map fun v => v.category).sum ≤ 8) (hdg : decode cc pc = .ok (.invokestatic index, 3)) (e : As.reverse ++ rest = st) (k : Z z y nL Q R.2 (pc + 3) L (.int R.1 :: rest)) : Z z y nL Q X pc L st := by
  obtain ⟨p, l, ev, Rm, s, m, args, below, meth, c⟩ := z
  subst e
  intro H locs ls hP hD hS hl
  refine va_calli (z_runS F (hM l) hk hv hw hd hn hP hD hl.1 hst hdg) hS (fun _ _ h => h) (fun _ h => h) (fun r u t H1 locs1 ht _ hp hB _ _ hS1 => ?_)
  subst hp
  exact k H1 locs1 ls (by rw [← ht]; exact hB.1) hB.2 hS1 hl
theorem z_cSV (F : ZF z y cc own nL ret d) {R : KX} (hM : zMV y nm bytes maxL ret' d' As X R) (hk : zKn nm bytes maxL ret' n) (hv : Cond.static nm ∈ wsA) (hw : Cond.methodLink own index nm ∈ wsA) (hd : d' + 1 ≤ d) (hn : As.length = n) (hst : (rest.map fun v => v.category).sum ≤ 8) (hdg : decode cc pc = .ok (.invokestatic index, 3)) (e : As.reverse ++ rest = st) (k : Z z y nL Q R (pc + 3) L rest) : Z z y nL Q X pc L st := by
  obtain ⟨p, l, ev, Rm, s, m, args, below, meth, c⟩ := z
  subst e
  intro H locs ls hP hD hS hl
  refine va_callv (z_runS F (hM l) hk hv hw hd hn hP hD hl.1 hst hdg) hS (fun _ _ h => h) (fun _ h => h) (fun u t H1 locs1 ht _ hp hB _ _ hS1 => ?_)
  subst hp
  exact k H1 locs1 ls (by rw [← ht]; exact hB.1) hB.2 hS1 hl
theorem z_cNI (F : ZF z y cc own nL ret d) {R : Int32 × KX} {host : String} (hM : zMI y nm bytes maxL ret' d' As X R) (hk : zKn nm bytes maxL ret' n) (hv : Cond.static nm ∈ wsA) (hw : ∀ s, zN s → va_Nw (.methodLinkNest own index nm host) s) (hd : d' + 1 ≤ d) (hn : As.length = n) (hst : (rest.map fun v => v.category).sum ≤ 8) (hdg : decode cc pc = .ok (.invokestatic index, 3)) (e : As.reverse ++ rest = st) (k : Z z y nL Q R.2 (pc + 3) L (.int R.1 :: rest)) : Z z y nL Q X pc L st := by
  obtain ⟨p, l, ev, Rm, s, m, args, below, meth, c⟩ := z
  subst e
  intro H locs ls hP hD hS hl
  refine va_calli (z_runSN F (hM l) hk hv (hw s) hd hn hP hD hl.1 hst hdg) hS (fun _ _ h => h) (fun _ h => h) (fun r u t H1 locs1 ht _ hp hB _ _ hS1 => ?_)
  subst hp
  exact k H1 locs1 ls (by rw [← ht]; exact hB.1) hB.2 hS1 hl
theorem z_max (F : ZF z y cc own nL ret d) {u v : Int32} (h1 : 1 ≤ d) (hw : Cond.methodLink own index Lib.Math.max.name ∈ wsA) (hstat : Cond.static Lib.Math.max.name ∈ wsA) (hini : Cond.initialized "java/lang/Math" ∈ wsA) (hcode : Cond.code Lib.Math.max.name Lib.Math.max.code 2 (some .int) ∈ wsA) (hst : (rest.map fun v => v.category).sum ≤ 8) (hdg : decode cc pc = .ok (.invokestatic index, 3)) (k : Z z y nL Q X (pc + 3) L (.int (zMax u v) :: rest)) : Z z y nL Q X pc L (.int v :: .int u :: rest) := by
  obtain ⟨p, l, ev, Rm, s, m, args, below, meth, c⟩ := z
  obtain ⟨hx, hb, hown, hml, hts, hr, hlk, hK, hN, hR1, hR2⟩ := F
  intro H locs ls hP hD hS hl
  exact va_mmax hx hb (hml.trans hl.1.symm) hown (hts _ hw) (hts _ hstat) (hts _ hini) (hts _ hcode) (Nat.le_trans h1 hR1) (by omega) (Nat.zero_le _) (Nat.zero_le _) hdg (k H locs ls hP hD hS hl)
theorem z_min (F : ZF z y cc own nL ret d) {u v : Int32} (h1 : 1 ≤ d) (hw : Cond.methodLink own index Lib.Math.min.name ∈ wsA) (hstat : Cond.static Lib.Math.min.name ∈ wsA) (hini : Cond.initialized "java/lang/Math" ∈ wsA) (hcode : Cond.code Lib.Math.min.name Lib.Math.min.code 2 (some .int) ∈ wsA) (hst : (rest.map fun v => v.category).sum ≤ 8) (hdg : decode cc pc = .ok (.invokestatic index, 3)) (k : Z z y nL Q X (pc + 3) L (.int (zMin u v) :: rest)) : Z z y nL Q X pc L (.int v :: .int u :: rest) := by
  obtain ⟨p, l, ev, Rm, s, m, args, below, meth, c⟩ := z
  obtain ⟨hx, hb, hown, hml, hts, hr, hlk, hK, hN, hR1, hR2⟩ := F
  intro H locs ls hP hD hS hl
  exact va_mmin hx hb (hml.trans hl.1.symm) hown (hts _ hw) (hts _ hstat) (hts _ hini) (hts _ hcode) (Nat.le_trans h1 hR1) (by omega) (Nat.zero_le _) (Nat.zero_le _) hdg (k H locs ls hP hD hS hl)
end ZC2
section ZH
variable {z : ZC} {y : ZY} {cc : ByteArray} {own : String} {nL d pc : Nat} {ret : Option FieldType} {Q : State → Prop} {X : KX} {L : List (Nat × Value)} {st : List Value} {a : Nat}
theorem z_get (F : ZF z y cc own nL ret d) {C : String} {T : u_T} {N ci index : Nat} {fs : List Value} {v : Value} (hin : ∀ w ∈ u_ws C T N, w ∈ wsA) (q0 : Nat) (he : (y.2.1 X)[q0]? = some (a, .inr (ci, fs))) (hc : vwCl[ci]? = some (C, T, N)) (k : Nat) (hk : k < N) (hv : fs[k]? = some v) (hw : Cond.fieldLink own index (T k).1 (T k).2.1 (T k).2.2.1 ∈ wsA) (hdg : decode cc pc = .ok (.getfield index, 3)) (kk : Z z y nL Q X (pc + 3) L (v :: st)) : Z z y nL Q X pc L (.ref a :: st) := by
  obtain ⟨p, l, ev, Rm, s, m, args, below, meth, c⟩ := z
  obtain ⟨hx, hb, hown, hml, hts, hr, hlk, hK, hN, hR1, hR2⟩ := F
  intro H locs ls hP hD hS hl
  exact va_get hx hb hts hin hown hK hP q0 he hc k hk (hts _ hw) (fun _ h => h) hv hdg (kk H locs ls hP hD hS hl)
theorem z_put (F : ZF z y cc own nL ret d) {C : String} {T : u_T} {N ci index : Nat} {fs : List Value} {v : Value} {ty : FieldType} {X' : KX} (hin : ∀ w ∈ u_ws C T N, w ∈ wsA) (ty0 : Nat → FieldType) (hty : ∀ k, k < N → parseFieldDescriptor (T k).2.2.1 = some (ty0 k)) (hnm : ∀ a, a < N → ∀ b, b < N → a ≠ b → (T a).2.1 ≠ (T b).2.1) (q0 : Nat) (he : (y.2.1 X)[q0]? = some (a, .inr (ci, fs))) (hc : vwCl[ci]? = some (C, T, N)) (k : Nat) (hk : k < N) (hfin : (T k).2.2.2 = false) (hd : parseFieldDescriptor (T k).2.2.1 = some ty) (hn : narrow ty v = v ∧ fits ty v = true) (hl0 : k < fs.length) (hX : (y.2.1 X).set q0 (a, .inr (ci, fs.set k v)) = y.2.1 X') (hw : Cond.fieldLink own index (T k).1 (T k).2.1 (T k).2.2.1 ∈ wsA) (hdg : decode cc pc = .ok (.putfield index, 3)) (kk : Z z y nL Q X' (pc + 3) L st) : Z z y nL Q X pc L (v :: .ref a :: st) := by
  obtain ⟨p, l, ev, Rm, s, m, args, below, meth, c⟩ := z
  obtain ⟨hx, hb, hown, hml, hts, hr, hlk, hK, hN, hR1, hR2⟩ := F
  intro H locs ls hP hD hS hl
  refine va_put hx hb hts hin ty0 hty hnm hown hK hP hD hS q0 he hc k hk (hts _ hw) (fun _ h => h) hfin hd hn.1 hn.2 hl0 hdg (fun H1 locs1 h1 h2 h3 => ?_)
  rw [hX] at h1 h2
  exact kk H1 locs1 ls h1 h2 h3 hl
theorem z_iald (F : ZF z y cc own nL ret d) {α : Type} {cA : ClassId} {n : Nat} {f : Nat → Int32} {i : Int32} {e : Option α} {r : α} (q0 t0 : Nat) (ha : (y.2.1 X)[q0]? = some (a, .inl (cA, n, .inl f))) (ht : y.2.2.2[t0]? = some (cA, .int)) (hf : zGd i n e = some r) (hdg : decode cc pc = .ok (.iaload, 1)) (kk : e = some r → Z z y nL Q X (pc + 1) L (.int (f i.toNatClampNeg) :: st)) : Z z y nL Q X pc L (.int i :: .ref a :: st) := by
  obtain ⟨p, l, ev, Rm, s, m, args, below, meth, c⟩ := z
  obtain ⟨hx, hb, hown, hml, hts, hr, hlk, hK, hN, hR1, hR2⟩ := F
  obtain ⟨h1, h2⟩ := zGd_some hf
  intro H locs ls hP hD hS hl
  exact va_iald hx hb hK hP q0 t0 ha ht h1 hdg (kk h2 H locs ls hP hD hS hl)
theorem z_zald (F : ZF z y cc own nL ret d) {α : Type} {cA : ClassId} {n : Nat} {f : Nat → Int32} {i : Int32} {e : Option α} {r : α} (q0 t0 : Nat) (ha : (y.2.1 X)[q0]? = some (a, .inl (cA, n, .inl f))) (ht : y.2.2.2[t0]? = some (cA, .boolean)) (hf : zGd i n e = some r) (hdg : decode cc pc = .ok (.baload, 1)) (kk : e = some r → Z z y nL Q X (pc + 1) L (.int (f i.toNatClampNeg) :: st)) : Z z y nL Q X pc L (.int i :: .ref a :: st) := by
  obtain ⟨p, l, ev, Rm, s, m, args, below, meth, c⟩ := z
  obtain ⟨hx, hb, hown, hml, hts, hr, hlk, hK, hN, hR1, hR2⟩ := F
  obtain ⟨h1, h2⟩ := zGd_some hf
  intro H locs ls hP hD hS hl
  exact va_zald hx hb hK hP q0 t0 ha ht h1 hdg (kk h2 H locs ls hP hD hS hl)
theorem z_iast (F : ZF z y cc own nL ret d) {α : Type} {cA : ClassId} {n : Nat} {f : Nat → Int32} {i x : Int32} {e : KX → Option α} {r : α} {X' : KX} (q0 t0 : Nat) (ha : (y.2.1 X)[q0]? = some (a, .inl (cA, n, .inl f))) (ht : y.2.2.2[t0]? = some (cA, .int)) (hX : (y.2.1 X).set q0 (a, .inl (cA, n, .inl (upd f i.toNatClampNeg x))) = y.2.1 X') (hf : zGd i n (zLet X' e) = some r) (hdg : decode cc pc = .ok (.iastore, 1)) (kk : ∀ X2 : KX, e X2 = some r → Z z y nL Q X2 (pc + 1) L st) : Z z y nL Q X pc L (.int x :: .int i :: .ref a :: st) := by
  obtain ⟨p, l, ev, Rm, s, m, args, below, meth, c⟩ := z
  obtain ⟨hx, hb, hown, hml, hts, hr, hlk, hK, hN, hR1, hR2⟩ := F
  obtain ⟨h1, h2⟩ := zGd_some hf
  intro H locs ls hP hD hS hl
  refine va_iast hx hb hK hP hD hS q0 t0 ha ht h1 hdg (fun H1 locs1 g1 g2 g3 => ?_)
  rw [hX] at g1 g2
  exact kk _ h2 H1 locs1 ls g1 g2 g3 hl
theorem z_zast (F : ZF z y cc own nL ret d) {α : Type} {cA : ClassId} {n : Nat} {f : Nat → Int32} {i : Int32} {e : KX → Option α} {r : α} {X' : KX} (q0 t0 : Nat) (ha : (y.2.1 X)[q0]? = some (a, .inl (cA, n, .inl f))) (ht : y.2.2.2[t0]? = some (cA, .boolean)) (hX : (y.2.1 X).set q0 (a, .inl (cA, n, .inl (upd f i.toNatClampNeg 1))) = y.2.1 X') (hf : zGd i n (zLet X' e) = some r) (hdg : decode cc pc = .ok (.bastore, 1)) (kk : ∀ X2 : KX, e X2 = some r → Z z y nL Q X2 (pc + 1) L st) : Z z y nL Q X pc L (.int 1 :: .int i :: .ref a :: st) := by
  obtain ⟨p, l, ev, Rm, s, m, args, below, meth, c⟩ := z
  obtain ⟨hx, hb, hown, hml, hts, hr, hlk, hK, hN, hR1, hR2⟩ := F
  obtain ⟨h1, h2⟩ := zGd_some hf
  intro H locs ls hP hD hS hl
  refine va_zast hx hb hK hP hD hS q0 t0 ha ht h1 hdg (fun H1 locs1 g1 g2 g3 => ?_)
  rw [show vp_nar .boolean 1 = 1 by decide +kernel, hX] at g1 g2
  exact kk _ h2 H1 locs1 ls g1 g2 g3 hl
theorem z_alen (F : ZF z y cc own nL ret d) {cA : ClassId} {x : vp_A} {ty : FieldType} {v : Int32} (q0 t0 : Nat) (ha : (y.2.1 X)[q0]? = some (a, .inl (cA, x))) (ht : y.2.2.2[t0]? = some (cA, ty)) (hv : Int32.ofNat x.1 = v) (hdg : decode cc pc = .ok (.arraylength, 1)) (kk : Z z y nL Q X (pc + 1) L (.int v :: st)) : Z z y nL Q X pc L (.ref a :: st) := by
  obtain ⟨p, l, ev, Rm, s, m, args, below, meth, c⟩ := z
  obtain ⟨hx, hb, hown, hml, hts, hr, hlk, hK, hN, hR1, hR2⟩ := F
  intro H locs ls hP hD hS hl
  exact va_alen hx hb hK hP q0 t0 ha ht hv hdg (kk H locs ls hP hD hS hl)
theorem z_copy (F : ZF z y cc own nL ret d) {α : Type} {c0 c1 : ClassId} {n0 n1 a0 : Nat} {f g : Nat → Int32} {sp dp n : Int32} {e : KX → Option α} {r : α} {X' : KX} {index : Nat} (h9 : 1 ≤ d) (hw : Cond.methodLink own index arraycopyName ∈ wsA) (hnat : Cond.native arraycopyName ∈ wsA) (hstat : Cond.static arraycopyName ∈ wsA) (hini : Cond.initialized "java/lang/System" ∈ wsA) (q0 q1 t0 t1 : Nat) (ha0 : (y.2.1 X)[q0]? = some (a0, .inl (c0, n0, .inl f))) (ha1 : (y.2.1 X)[q1]? = some (a, .inl (c1, n1, .inl g))) (ht0 : y.2.2.2[t0]? = some (c0, .int)) (ht1 : y.2.2.2[t1]? = some (c1, .int)) (hX : (y.2.1 X).set q1 (a, .inl (c1, n1, .inl (va_cpy f g sp.toNatClampNeg dp.toNatClampNeg n.toNatClampNeg))) = y.2.1 X') (hf : zGc sp dp n n0 n1 (zLet X' e) = some r) (hst : (st.map fun v => v.category).sum ≤ 8) (hdg : decode cc pc = .ok (.invokestatic index, 3)) (kk : ∀ X2 : KX, e X2 = some r → Z z y nL Q X2 (pc + 3) L st) : Z z y nL Q X pc L (.int n :: .int dp :: .ref a :: .int sp :: .ref a0 :: st) := by
  obtain ⟨p, l, ev, Rm, s, m, args, below, meth, c⟩ := z
  obtain ⟨hx, hb, hown, hml, hts, hr, hlk, hK, hN, hR1, hR2⟩ := F
  obtain ⟨h1, h2⟩ := zGc_some hf
  intro H locs ls hP hD hS hl
  have hwd : nativeFrameWords "java/lang/System" "arraycopy" 5 + 11 ≤ 56 := by decide +kernel
  refine va_copyi hx hb (hml.trans hl.1.symm) hown (hts _ hw) (hts _ hnat) (hts _ hstat) (hts _ hini) hK hP hD hS q0 q1 t0 t1 ha0 ha1 ht0 ht1 rfl h1.1.1 h1.1.2.1 h1.1.2.2 h1.2.1 h1.2.2 (fun _ _ => rfl) (Nat.le_trans h9 hR1) (by omega) hdg (fun H1 locs1 g1 g2 g3 => ?_)
  rw [hX] at g1 g2
  exact kk _ h2 H1 locs1 ls g1 g2 g3 hl
end ZH
