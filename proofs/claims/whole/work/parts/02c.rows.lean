/-! What holds all along a walk; contracts over the store; rows of instructions in these words -/
abbrev ts_Ctx : Type := Program × Launch × Env × Nat × State × MethodId × Array Value × List Frame × Method × Code × (State → Prop)
abbrev ts_Wd : Type := va_G × List (ClassId × FieldType) × Nat × (Nat → (Nat → Int32) → va_E) × (Nat → Nat)
def ts_wd (w : ts_Wd) (σ : ts_S) : va_W := ts_w w.2.2.1 w.2.2.2.1 w.2.2.2.2 σ
def ts_wA (w : ts_Wd) : Nat → Prop := ts_A w.2.2.1 w.2.2.2.2
def ts_At (w : ts_Wd) (σ : ts_S) (U : State) : Prop := va_P w.1 vwCl (ts_wd w σ) U.heap ∧ va_K w.1 vwCl w.2.1 U ∧ ∀ q ∈ ts_NW, va_Nw q U
def ts_rm (n : Nat) : Room := { frames := n, cells := 0, slots := 0, locals := 40 * n }
/-- the machine in the midst of a method: store, place, locals, stack -/
def ts_G (g : ts_Ctx) (w : ts_Wd) (nL : Nat) (σ : ts_S) (pc : Nat) (lv : List (Nat × Value)) (st : List Value) : Prop :=
  ∀ (H : Heap) (locs : List Loc) (ls : Array Slot), va_P w.1 vwCl (ts_wd w σ) H → va_S (ts_wA w) g.2.2.2.2.1.heap H locs → lv_has ls nL lv →
    W g.1 g.2.1 g.2.2.1 (ts_rm g.2.2.2.1) g.2.2.2.2.1 g.2.2.2.2.2.1 g.2.2.2.2.2.2.1 g.2.2.2.2.2.2.2.1 g.2.2.2.2.2.2.2.2.1 g.2.2.2.2.2.2.2.2.2.1 H locs 0 0 g.2.2.2.2.2.2.2.2.2.2 (F0 g.2.2.2.2.2.1 pc ls st)
/-- what is known of a method all along -/
def ts_X (g : ts_Ctx) (w : ts_Wd) (cc : ByteArray) (nL : Nat) (own : String) : Prop :=
  g.1.tables.exec = Jvm.exec ∧ g.2.2.2.2.2.2.2.2.2.1.code = cc ∧ g.2.2.2.2.2.2.2.2.2.1.maxLocals = nL ∧ g.2.2.2.2.1.vm.findClass own = some g.2.2.2.2.2.1.cls ∧ (∀ q ∈ ts_TB, q.before g.2.2.2.2.2.2.1 g.2.2.2.2.1 = true) ∧ va_K w.1 vwCl w.2.1 g.2.2.2.2.1 ∧ (∀ q ∈ ts_NW, va_Nw q g.2.2.2.2.1) ∧ ts_inj w.2.2.1 w.2.2.2.2
def ts_Mi (l : Launch) (y : MethodName) (w0 : Cond) (n : Nat) (w : ts_Wd) (av : List Value) (σ : ts_S) (K : Int32 → ts_S → Prop) : Prop :=
  Met l y (w0 :: ts_TB) (ts_rm n) (va_Pc av (ts_At w σ)) (va_Qi K (fun u t => ts_At w u t) (ts_wA w)) 0 0 (ts_wA w)
def ts_Mv (l : Launch) (y : MethodName) (w0 : Cond) (n : Nat) (w : ts_Wd) (av : List Value) (σ : ts_S) (K : ts_S → Prop) : Prop :=
  Met l y (w0 :: ts_TB) (ts_rm n) (va_Pc av (ts_At w σ)) (va_Qv K (fun u t => ts_At w u t) (ts_wA w)) 0 0 (ts_wA w)
/-- a method's own facts for a call -/
def ts_ok (y : MethodName) (n : Nat) : Prop := y.cls ≠ "java/lang/invoke/MethodHandle" ∧ y.cls ≠ "java/lang/invoke/VarHandle" ∧ (parseMethodDescriptor y.desc).map (fun d => d.parameters.length) = some n
/-- the words of a call on an object, of a static call, of a static call in the nest -/
def ts_cV (own : String) (idx : Nat) (y : MethodName) (w0 : Cond) : Prop := Cond.methodLink own idx y ∈ ts_TB ∧ Cond.instanceMethod y ∈ ts_TB ∧ Cond.selects y.cls y y ∈ ts_TB ∧ Cond.initialized y.cls ∈ ts_TB ∧ w0 ∈ ts_TB
def ts_cS (own : String) (idx : Nat) (y : MethodName) (w0 : Cond) : Prop := Cond.methodLink own idx y ∈ ts_TB ∧ Cond.static y ∈ ts_TB ∧ Cond.initialized y.cls ∈ ts_TB ∧ w0 ∈ ts_TB
def ts_cN (own : String) (idx : Nat) (y : MethodName) (w0 : Cond) : Prop := (∃ host : String, Cond.methodLinkNest own idx y host ∈ ts_NW) ∧ Cond.static y ∈ ts_TB ∧ Cond.initialized y.cls ∈ ts_TB ∧ w0 ∈ ts_TB
theorem ts_goodIn' {w1 : Cond} (h : w1 ∈ ts_TB) : GoodIn ts_TB (w1 :: ts_TB) := by
  intro w hw
  rcases List.mem_cons.mp hw with rfl | hw
  · exact ⟨h, ts_good _ h⟩
  · exact ⟨hw, ts_good _ hw⟩
theorem ts_At.blind {w : ts_Wd} {σ : ts_S} {av : List Value} : FrameBlind (va_Pc av (ts_At w σ)) := by
  intro a U g mk q
  exact ⟨q.1, q.2.1, va_K.moved (u := U) (U := U.calling g mk a) (Vm.Alike.refl U.vm) q.2.2.1, ts_NW_same (s := U) (U := U.calling g mk a) rfl q.2.2.2⟩
def ts_zb (v : Int32) : Prop := narrow .boolean (.int v) = .int v
section TSR
variable {g : ts_Ctx} {w : ts_Wd} {cc : ByteArray} {nL : Nat} {own : String} {σ : ts_S} {pc : Nat} {lv lv' : List (Nat × Value)} {st : List Value}
theorem ts_X.hx (X : ts_X g w cc nL own) : g.1.tables.exec = Jvm.exec := X.1
theorem ts_X.hb (X : ts_X g w cc nL own) : g.2.2.2.2.2.2.2.2.2.1.code = cc := X.2.1
theorem ts_X.hml (X : ts_X g w cc nL own) : g.2.2.2.2.2.2.2.2.2.1.maxLocals = nL := X.2.2.1
theorem ts_X.hown (X : ts_X g w cc nL own) : g.2.2.2.2.1.vm.findClass own = some g.2.2.2.2.2.1.cls := X.2.2.2.1
theorem ts_X.hts (X : ts_X g w cc nL own) : ∀ q ∈ ts_TB, q.before g.2.2.2.2.2.2.1 g.2.2.2.2.1 = true := X.2.2.2.2.1
theorem ts_X.hK (X : ts_X g w cc nL own) : va_K w.1 vwCl w.2.1 g.2.2.2.2.1 := X.2.2.2.2.2.1
theorem ts_X.hN (X : ts_X g w cc nL own) : ∀ q ∈ ts_NW, va_Nw q g.2.2.2.2.1 := X.2.2.2.2.2.2.1
theorem ts_X.hi (X : ts_X g w cc nL own) : ts_inj w.2.2.1 w.2.2.2.2 := X.2.2.2.2.2.2.2
theorem ts_X.at (X : ts_X g w cc nL own) {H : Heap} {U : State} (hU : U.heap = H) (hW : g.2.2.2.2.1.WarmedH U.vm) (hP : va_P w.1 vwCl (ts_wd w σ) H) : ts_At w σ U :=
  ⟨by rw [hU]; exact hP, va_K.moved hW.alike X.hK, ts_NW_warm hW X.hN⟩
theorem ts_sub (ks : List Nat) (hl : lv_pick lv ks = lv') (k : ts_G g w nL σ pc lv' st) : ts_G g w nL σ pc lv st :=
  fun H locs ls hP hS hl0 => k H locs ls hP hS (lv_sub hl0 ks hl)
theorem ts_iconst {n : Int} {v : Int32} (X : ts_X g w cc nL own) (d : decode cc pc = .ok (.iconst n, 1)) (hv : Int32.ofInt n = v) (k : ts_G g w nL σ (pc + 1) lv (.int v :: st)) : ts_G g w nL σ pc lv (st) :=
  fun H locs ls hP hS hl => lv_iconst X.hx X.hb d hv (k H locs ls hP hS hl)
theorem ts_bipush {n : Int} {v : Int32} (X : ts_X g w cc nL own) (d : decode cc pc = .ok (.bipush n, 2)) (hv : (Int8.ofInt n).toInt32 = v) (k : ts_G g w nL σ (pc + 2) lv (.int v :: st)) : ts_G g w nL σ pc lv (st) :=
  fun H locs ls hP hS hl => lv_bipush X.hx X.hb d hv (k H locs ls hP hS hl)
theorem ts_sipush {n : Int} {v : Int32} (X : ts_X g w cc nL own) (d : decode cc pc = .ok (.sipush n, 3)) (hv : (Int16.ofInt n).toInt32 = v) (k : ts_G g w nL σ (pc + 3) lv (.int v :: st)) : ts_G g w nL σ pc lv (st) :=
  fun H locs ls hP hS hl => lv_sipush X.hx X.hb d hv (k H locs ls hP hS hl)
theorem ts_lconst {n : Fin 2} {v : Int64} (X : ts_X g w cc nL own) (d : decode cc pc = .ok (.lconst n, 1)) (hv : Int64.ofNat (n : Nat) = v) (k : ts_G g w nL σ (pc + 1) lv (.long v :: st)) : ts_G g w nL σ pc lv (st) :=
  fun H locs ls hP hS hl => lv_lconst X.hx X.hb d hv (k H locs ls hP hS hl)
theorem ts_iload_n {k0 : Fin 4} {x : Int32} (X : ts_X g w cc nL own) (d : decode cc pc = .ok (.iload_n k0, 1)) (j : Nat) (h : lv[j]? = some ((k0 : Nat), .int x)) (k : ts_G g w nL σ (pc + 1) lv (.int x :: st)) : ts_G g w nL σ pc lv (st) :=
  fun H locs ls hP hS hl => lv_iload_n X.hx X.hb d rfl (lv_at hl j h) (k H locs ls hP hS hl)
theorem ts_iload {i : Nat} {x : Int32} (X : ts_X g w cc nL own) (d : decode cc pc = .ok (.iload i, 2)) (j : Nat) (h : lv[j]? = some (i, .int x)) (k : ts_G g w nL σ (pc + 2) lv (.int x :: st)) : ts_G g w nL σ pc lv (st) :=
  fun H locs ls hP hS hl => lv_iload X.hx X.hb d (lv_at hl j h) (k H locs ls hP hS hl)
theorem ts_lload_n {k0 : Fin 4} {x : Int64} (X : ts_X g w cc nL own) (d : decode cc pc = .ok (.lload_n k0, 1)) (j : Nat) (h : lv[j]? = some ((k0 : Nat), .long x)) (k : ts_G g w nL σ (pc + 1) lv (.long x :: st)) : ts_G g w nL σ pc lv (st) :=
  fun H locs ls hP hS hl => lv_lload_n X.hx X.hb d rfl (lv_at hl j h) (k H locs ls hP hS hl)
theorem ts_lload {i : Nat} {x : Int64} (X : ts_X g w cc nL own) (d : decode cc pc = .ok (.lload i, 2)) (j : Nat) (h : lv[j]? = some (i, .long x)) (k : ts_G g w nL σ (pc + 2) lv (.long x :: st)) : ts_G g w nL σ pc lv (st) :=
  fun H locs ls hP hS hl => lv_lload X.hx X.hb d (lv_at hl j h) (k H locs ls hP hS hl)
theorem ts_aload_n {k0 : Fin 4} {x : Nat} (X : ts_X g w cc nL own) (d : decode cc pc = .ok (.aload_n k0, 1)) (j : Nat) (h : lv[j]? = some ((k0 : Nat), .ref x)) (k : ts_G g w nL σ (pc + 1) lv (.ref x :: st)) : ts_G g w nL σ pc lv (st) :=
  fun H locs ls hP hS hl => lv_aload_n X.hx X.hb d rfl (lv_at hl j h) (k H locs ls hP hS hl)
theorem ts_aload {i : Nat} {x : Nat} (X : ts_X g w cc nL own) (d : decode cc pc = .ok (.aload i, 2)) (j : Nat) (h : lv[j]? = some (i, .ref x)) (k : ts_G g w nL σ (pc + 2) lv (.ref x :: st)) : ts_G g w nL σ pc lv (st) :=
  fun H locs ls hP hS hl => lv_aload X.hx X.hb d (lv_at hl j h) (k H locs ls hP hS hl)
theorem ts_istore_n {k0 : Fin 4} {x : Int32} (X : ts_X g w cc nL own) (d : decode cc pc = .ok (.istore_n k0, 1)) (hn : (k0 : Nat) < nL) (hl : ((k0 : Nat), Value.int x) :: lv.filter (fun q => !(q.1 == (k0 : Nat)) && !(q.1 + 1 == (k0 : Nat) && q.2.category == 2)) = lv') (k : ts_G g w nL σ (pc + 1) lv' st) : ts_G g w nL σ pc lv (.int x :: st) :=
  fun H locs ls hP hS hl0 => lv_istore_n X.hx X.hb d rfl hl0 hn hl (fun ls' hl' => k H locs ls' hP hS hl')
theorem ts_istore {i : Nat} {x : Int32} (X : ts_X g w cc nL own) (d : decode cc pc = .ok (.istore i, 2)) (hn : i < nL) (hl : (i, Value.int x) :: lv.filter (fun q => !(q.1 == i) && !(q.1 + 1 == i && q.2.category == 2)) = lv') (k : ts_G g w nL σ (pc + 2) lv' st) : ts_G g w nL σ pc lv (.int x :: st) :=
  fun H locs ls hP hS hl0 => lv_istore X.hx X.hb d hl0 hn hl (fun ls' hl' => k H locs ls' hP hS hl')
theorem ts_lstore_n {k0 : Fin 4} {x : Int64} (X : ts_X g w cc nL own) (d : decode cc pc = .ok (.lstore_n k0, 1)) (hn : (k0 : Nat) + 1 < nL) (hl : ((k0 : Nat), Value.long x) :: lv.filter (fun q => !(q.1 == (k0 : Nat)) && (!(q.1 == (k0 : Nat) + 1) && !(q.1 + 1 == (k0 : Nat) && q.2.category == 2))) = lv') (k : ts_G g w nL σ (pc + 1) lv' st) : ts_G g w nL σ pc lv (.long x :: st) :=
  fun H locs ls hP hS hl0 => lv_lstore_n X.hx X.hb d rfl hl0 hn hl (fun ls' hl' => k H locs ls' hP hS hl')
theorem ts_lstore {i : Nat} {x : Int64} (X : ts_X g w cc nL own) (d : decode cc pc = .ok (.lstore i, 2)) (hn : i + 1 < nL) (hl : (i, Value.long x) :: lv.filter (fun q => !(q.1 == i) && (!(q.1 == i + 1) && !(q.1 + 1 == i && q.2.category == 2))) = lv') (k : ts_G g w nL σ (pc + 2) lv' st) : ts_G g w nL σ pc lv (.long x :: st) :=
  fun H locs ls hP hS hl0 => lv_lstore X.hx X.hb d hl0 hn hl (fun ls' hl' => k H locs ls' hP hS hl')
theorem ts_astore_n {k0 : Fin 4} {x : Nat} (X : ts_X g w cc nL own) (d : decode cc pc = .ok (.astore_n k0, 1)) (hn : (k0 : Nat) < nL) (hl : ((k0 : Nat), Value.ref x) :: lv.filter (fun q => !(q.1 == (k0 : Nat)) && !(q.1 + 1 == (k0 : Nat) && q.2.category == 2)) = lv') (k : ts_G g w nL σ (pc + 1) lv' st) : ts_G g w nL σ pc lv (.ref x :: st) :=
  fun H locs ls hP hS hl0 => lv_astore_n X.hx X.hb d rfl hl0 hn hl (fun ls' hl' => k H locs ls' hP hS hl')
theorem ts_astore {i : Nat} {x : Nat} (X : ts_X g w cc nL own) (d : decode cc pc = .ok (.astore i, 2)) (hn : i < nL) (hl : (i, Value.ref x) :: lv.filter (fun q => !(q.1 == i) && !(q.1 + 1 == i && q.2.category == 2)) = lv') (k : ts_G g w nL σ (pc + 2) lv' st) : ts_G g w nL σ pc lv (.ref x :: st) :=
  fun H locs ls hP hS hl0 => lv_astore X.hx X.hb d hl0 hn hl (fun ls' hl' => k H locs ls' hP hS hl')
theorem ts_iinc {i : Nat} {n : Int} {x v : Int32} (X : ts_X g w cc nL own) (d : decode cc pc = .ok (.iinc i n, 3)) (j : Nat) (hk : lv[j]? = some (i, .int x)) (hv : x + Int32.ofInt n = v) (hn : i < nL) (hl : (i, Value.int v) :: lv.filter (fun q => !(q.1 == i) && !(q.1 + 1 == i && q.2.category == 2)) = lv') (k : ts_G g w nL σ (pc + 3) lv' st) : ts_G g w nL σ pc lv st :=
  fun H locs ls hP hS hl0 => lv_iinc X.hx X.hb d hl0 hk hv hn hl (fun ls' hl' => k H locs ls' hP hS hl')
theorem ts_iadd {x y : Int32} (X : ts_X g w cc nL own) (d : decode cc pc = .ok (.iadd, 1)) (k : ts_G g w nL σ (pc + 1) lv (.int (x + y) :: st)) : ts_G g w nL σ pc lv (.int y :: .int x :: st) :=
  fun H locs ls hP hS hl => lv_iadd X.hx X.hb d (k H locs ls hP hS hl)
theorem ts_isub {x y : Int32} (X : ts_X g w cc nL own) (d : decode cc pc = .ok (.isub, 1)) (k : ts_G g w nL σ (pc + 1) lv (.int (x - y) :: st)) : ts_G g w nL σ pc lv (.int y :: .int x :: st) :=
  fun H locs ls hP hS hl => lv_isub X.hx X.hb d (k H locs ls hP hS hl)
theorem ts_imul {x y : Int32} (X : ts_X g w cc nL own) (d : decode cc pc = .ok (.imul, 1)) (k : ts_G g w nL σ (pc + 1) lv (.int (x * y) :: st)) : ts_G g w nL σ pc lv (.int y :: .int x :: st) :=
  fun H locs ls hP hS hl => lv_imul X.hx X.hb d (k H locs ls hP hS hl)
theorem ts_iand {x y : Int32} (X : ts_X g w cc nL own) (d : decode cc pc = .ok (.iand, 1)) (k : ts_G g w nL σ (pc + 1) lv (.int (x &&& y) :: st)) : ts_G g w nL σ pc lv (.int y :: .int x :: st) :=
  fun H locs ls hP hS hl => lv_iand X.hx X.hb d (k H locs ls hP hS hl)
theorem ts_ior {x y : Int32} (X : ts_X g w cc nL own) (d : decode cc pc = .ok (.ior, 1)) (k : ts_G g w nL σ (pc + 1) lv (.int (x ||| y) :: st)) : ts_G g w nL σ pc lv (.int y :: .int x :: st) :=
  fun H locs ls hP hS hl => lv_ior X.hx X.hb d (k H locs ls hP hS hl)
theorem ts_ixor {x y : Int32} (X : ts_X g w cc nL own) (d : decode cc pc = .ok (.ixor, 1)) (k : ts_G g w nL σ (pc + 1) lv (.int (x ^^^ y) :: st)) : ts_G g w nL σ pc lv (.int y :: .int x :: st) :=
  fun H locs ls hP hS hl => lv_ixor X.hx X.hb d (k H locs ls hP hS hl)
theorem ts_ishl {x y : Int32} (X : ts_X g w cc nL own) (d : decode cc pc = .ok (.ishl, 1)) (k : ts_G g w nL σ (pc + 1) lv (.int (x <<< (y &&& 31)) :: st)) : ts_G g w nL σ pc lv (.int y :: .int x :: st) :=
  fun H locs ls hP hS hl => lv_ishl X.hx X.hb d (k H locs ls hP hS hl)
theorem ts_ishr {x y : Int32} (X : ts_X g w cc nL own) (d : decode cc pc = .ok (.ishr, 1)) (k : ts_G g w nL σ (pc + 1) lv (.int (x >>> (y &&& 31)) :: st)) : ts_G g w nL σ pc lv (.int y :: .int x :: st) :=
  fun H locs ls hP hS hl => lv_ishr X.hx X.hb d (k H locs ls hP hS hl)
theorem ts_iushr {x y : Int32} (X : ts_X g w cc nL own) (d : decode cc pc = .ok (.iushr, 1)) (k : ts_G g w nL σ (pc + 1) lv (.int ((x.toUInt32 >>> (y.toUInt32 &&& Int32.toUInt32 31)).toInt32) :: st)) : ts_G g w nL σ pc lv (.int y :: .int x :: st) :=
  fun H locs ls hP hS hl => lv_iushr X.hx X.hb d rfl (k H locs ls hP hS hl)
theorem ts_idiv {x y : Int32} (X : ts_X g w cc nL own) (d : decode cc pc = .ok (.idiv, 1)) (hne : ¬ y = 0) (k : ts_G g w nL σ (pc + 1) lv (.int (x / y) :: st)) : ts_G g w nL σ pc lv (.int y :: .int x :: st) :=
  fun H locs ls hP hS hl => lv_idiv X.hx X.hb d hne (k H locs ls hP hS hl)
theorem ts_irem {x y : Int32} (X : ts_X g w cc nL own) (d : decode cc pc = .ok (.irem, 1)) (hne : ¬ y = 0) (k : ts_G g w nL σ (pc + 1) lv (.int (x - x / y * y) :: st)) : ts_G g w nL σ pc lv (.int y :: .int x :: st) :=
  fun H locs ls hP hS hl => lv_irem X.hx X.hb d hne (k H locs ls hP hS hl)
theorem ts_ladd {x y : Int64} (X : ts_X g w cc nL own) (d : decode cc pc = .ok (.ladd, 1)) (k : ts_G g w nL σ (pc + 1) lv (.long (x + y) :: st)) : ts_G g w nL σ pc lv (.long y :: .long x :: st) :=
  fun H locs ls hP hS hl => lv_ladd X.hx X.hb d (k H locs ls hP hS hl)
theorem ts_lmul {x y : Int64} (X : ts_X g w cc nL own) (d : decode cc pc = .ok (.lmul, 1)) (k : ts_G g w nL σ (pc + 1) lv (.long (x * y) :: st)) : ts_G g w nL σ pc lv (.long y :: .long x :: st) :=
  fun H locs ls hP hS hl => lv_lmul X.hx X.hb d (k H locs ls hP hS hl)
theorem ts_ldiv {x y : Int64} (X : ts_X g w cc nL own) (d : decode cc pc = .ok (.ldiv, 1)) (hne : ¬ y = 0) (k : ts_G g w nL σ (pc + 1) lv (.long (x / y) :: st)) : ts_G g w nL σ pc lv (.long y :: .long x :: st) :=
  fun H locs ls hP hS hl => lv_ldiv X.hx X.hb d hne (k H locs ls hP hS hl)
theorem ts_lrem {x y : Int64} (X : ts_X g w cc nL own) (d : decode cc pc = .ok (.lrem, 1)) (hne : ¬ y = 0) (k : ts_G g w nL σ (pc + 1) lv (.long (x - x / y * y) :: st)) : ts_G g w nL σ pc lv (.long y :: .long x :: st) :=
  fun H locs ls hP hS hl => lv_lrem X.hx X.hb d hne (k H locs ls hP hS hl)
theorem ts_i2c {x : Int32} (X : ts_X g w cc nL own) (d : decode cc pc = .ok (.i2c, 1)) (k : ts_G g w nL σ (pc + 1) lv (.int ((x.toUInt32 % 65536).toInt32) :: st)) : ts_G g w nL σ pc lv (.int x :: st) :=
  fun H locs ls hP hS hl => lv_i2c X.hx X.hb d rfl (k H locs ls hP hS hl)
theorem ts_i2l {x : Int32} (X : ts_X g w cc nL own) (d : decode cc pc = .ok (.i2l, 1)) (k : ts_G g w nL σ (pc + 1) lv (.long x.toInt64 :: st)) : ts_G g w nL σ pc lv (.int x :: st) :=
  fun H locs ls hP hS hl => lv_i2l X.hx X.hb d rfl (k H locs ls hP hS hl)
theorem ts_l2i {x : Int64} (X : ts_X g w cc nL own) (d : decode cc pc = .ok (.l2i, 1)) (k : ts_G g w nL σ (pc + 1) lv (.int x.toInt32 :: st)) : ts_G g w nL σ pc lv (.long x :: st) :=
  fun H locs ls hP hS hl => lv_l2i X.hx X.hb d rfl (k H locs ls hP hS hl)
theorem ts_ldc2 {index : Nat} {v : Int64} (X : ts_X g w cc nL own) (h : Cond.constantLong own index v ∈ ts_TB) (d : decode cc pc = .ok (.ldc2_w index, 3)) (k : ts_G g w nL σ (pc + 3) lv (.long v :: st)) : ts_G g w nL σ pc lv st :=
  fun H locs ls hP hS hl => lv_ldc2 X.hx X.hb X.hown (X.hts _ h) d (k H locs ls hP hS hl)
theorem ts_ldcw {index : Nat} {v : Int32} (X : ts_X g w cc nL own) (h : Cond.constant own index v ∈ ts_TB) (d : decode cc pc = .ok (.ldc_w index, 3)) (k : ts_G g w nL σ (pc + 3) lv (.int v :: st)) : ts_G g w nL σ pc lv st :=
  fun H locs ls hP hS hl => lv_ldcw X.hx X.hb X.hown (X.hts _ h) d (k H locs ls hP hS hl)
theorem ts_dup {va : Value} (X : ts_X g w cc nL own) (d : decode cc pc = .ok (.dup, 1)) (h : va.category = 1) (k : ts_G g w nL σ (pc + 1) lv (va :: va :: st)) : ts_G g w nL σ pc lv (va :: st) :=
  fun H locs ls hP hS hl => lv_dup X.hx X.hb d h (k H locs ls hP hS hl)
theorem ts_dup2 {va vb : Value} (X : ts_X g w cc nL own) (d : decode cc pc = .ok (.dup2, 1)) (h : va.category = 1) (h2 : vb.category = 1) (k : ts_G g w nL σ (pc + 1) lv (va :: vb :: va :: vb :: st)) : ts_G g w nL σ pc lv (va :: vb :: st) :=
  fun H locs ls hP hS hl => lv_dup2_11 X.hx X.hb d h h2 (k H locs ls hP hS hl)
theorem ts_pop {va : Value} (X : ts_X g w cc nL own) (d : decode cc pc = .ok (.pop, 1)) (h : va.category = 1) (k : ts_G g w nL σ (pc + 1) lv (st)) : ts_G g w nL σ pc lv (va :: st) :=
  fun H locs ls hP hS hl => lv_pop X.hx X.hb d h (k H locs ls hP hS hl)
theorem ts_goto {off : Int} (tgt : Nat) (X : ts_X g w cc nL own) (d : decode cc pc = .ok (.goto off, 3)) (ht : (pc : Int) + off = (tgt : Int)) (k : ts_G g w nL σ tgt lv st) : ts_G g w nL σ pc lv st :=
  fun H locs ls hP hS hl => lv_goto X.hx X.hb d ht (k H locs ls hP hS hl)
theorem ts_if_eq {off : Int} {x : Int32} (tgt : Nat) (X : ts_X g w cc nL own) (d : decode cc pc = .ok (.ifCond .eq off, 3)) (ht : (pc : Int) + off = (tgt : Int)) (kt : x = 0 → ts_G g w nL σ tgt lv st) (kf : ¬ x = 0 → ts_G g w nL σ (pc + 3) lv st) : ts_G g w nL σ pc lv (.int x :: st) :=
  fun H locs ls hP hS hl => lv_if_eq X.hx X.hb d ht (fun c => kt c H locs ls hP hS hl) (fun c => kf c H locs ls hP hS hl)
theorem ts_icmp_eq {off : Int} {x y : Int32} (tgt : Nat) (X : ts_X g w cc nL own) (d : decode cc pc = .ok (.if_icmp .eq off, 3)) (ht : (pc : Int) + off = (tgt : Int)) (kt : x = y → ts_G g w nL σ tgt lv st) (kf : ¬ x = y → ts_G g w nL σ (pc + 3) lv st) : ts_G g w nL σ pc lv (.int y :: .int x :: st) :=
  fun H locs ls hP hS hl => lv_icmp_eq X.hx X.hb d ht (fun c => kt c H locs ls hP hS hl) (fun c => kf c H locs ls hP hS hl)
theorem ts_if_ne {off : Int} {x : Int32} (tgt : Nat) (X : ts_X g w cc nL own) (d : decode cc pc = .ok (.ifCond .ne off, 3)) (ht : (pc : Int) + off = (tgt : Int)) (kt : ¬ x = 0 → ts_G g w nL σ tgt lv st) (kf : x = 0 → ts_G g w nL σ (pc + 3) lv st) : ts_G g w nL σ pc lv (.int x :: st) :=
  fun H locs ls hP hS hl => lv_if_ne X.hx X.hb d ht (fun c => kt c H locs ls hP hS hl) (fun c => kf c H locs ls hP hS hl)
theorem ts_icmp_ne {off : Int} {x y : Int32} (tgt : Nat) (X : ts_X g w cc nL own) (d : decode cc pc = .ok (.if_icmp .ne off, 3)) (ht : (pc : Int) + off = (tgt : Int)) (kt : ¬ x = y → ts_G g w nL σ tgt lv st) (kf : x = y → ts_G g w nL σ (pc + 3) lv st) : ts_G g w nL σ pc lv (.int y :: .int x :: st) :=
  fun H locs ls hP hS hl => lv_icmp_ne X.hx X.hb d ht (fun c => kt c H locs ls hP hS hl) (fun c => kf c H locs ls hP hS hl)
theorem ts_if_lt {off : Int} {x : Int32} (tgt : Nat) (X : ts_X g w cc nL own) (d : decode cc pc = .ok (.ifCond .lt off, 3)) (ht : (pc : Int) + off = (tgt : Int)) (kt : x < 0 → ts_G g w nL σ tgt lv st) (kf : ¬ x < 0 → ts_G g w nL σ (pc + 3) lv st) : ts_G g w nL σ pc lv (.int x :: st) :=
  fun H locs ls hP hS hl => lv_if_lt X.hx X.hb d ht (fun c => kt c H locs ls hP hS hl) (fun c => kf c H locs ls hP hS hl)
theorem ts_icmp_lt {off : Int} {x y : Int32} (tgt : Nat) (X : ts_X g w cc nL own) (d : decode cc pc = .ok (.if_icmp .lt off, 3)) (ht : (pc : Int) + off = (tgt : Int)) (kt : x < y → ts_G g w nL σ tgt lv st) (kf : ¬ x < y → ts_G g w nL σ (pc + 3) lv st) : ts_G g w nL σ pc lv (.int y :: .int x :: st) :=
  fun H locs ls hP hS hl => lv_icmp_lt X.hx X.hb d ht (fun c => kt c H locs ls hP hS hl) (fun c => kf c H locs ls hP hS hl)
theorem ts_if_ge {off : Int} {x : Int32} (tgt : Nat) (X : ts_X g w cc nL own) (d : decode cc pc = .ok (.ifCond .ge off, 3)) (ht : (pc : Int) + off = (tgt : Int)) (kt : 0 ≤ x → ts_G g w nL σ tgt lv st) (kf : ¬ 0 ≤ x → ts_G g w nL σ (pc + 3) lv st) : ts_G g w nL σ pc lv (.int x :: st) :=
  fun H locs ls hP hS hl => lv_if_ge X.hx X.hb d ht (fun c => kt c H locs ls hP hS hl) (fun c => kf c H locs ls hP hS hl)
theorem ts_icmp_ge {off : Int} {x y : Int32} (tgt : Nat) (X : ts_X g w cc nL own) (d : decode cc pc = .ok (.if_icmp .ge off, 3)) (ht : (pc : Int) + off = (tgt : Int)) (kt : y ≤ x → ts_G g w nL σ tgt lv st) (kf : ¬ y ≤ x → ts_G g w nL σ (pc + 3) lv st) : ts_G g w nL σ pc lv (.int y :: .int x :: st) :=
  fun H locs ls hP hS hl => lv_icmp_ge X.hx X.hb d ht (fun c => kt c H locs ls hP hS hl) (fun c => kf c H locs ls hP hS hl)
theorem ts_if_gt {off : Int} {x : Int32} (tgt : Nat) (X : ts_X g w cc nL own) (d : decode cc pc = .ok (.ifCond .gt off, 3)) (ht : (pc : Int) + off = (tgt : Int)) (kt : 0 < x → ts_G g w nL σ tgt lv st) (kf : ¬ 0 < x → ts_G g w nL σ (pc + 3) lv st) : ts_G g w nL σ pc lv (.int x :: st) :=
  fun H locs ls hP hS hl => lv_if_gt X.hx X.hb d ht (fun c => kt c H locs ls hP hS hl) (fun c => kf c H locs ls hP hS hl)
theorem ts_icmp_gt {off : Int} {x y : Int32} (tgt : Nat) (X : ts_X g w cc nL own) (d : decode cc pc = .ok (.if_icmp .gt off, 3)) (ht : (pc : Int) + off = (tgt : Int)) (kt : y < x → ts_G g w nL σ tgt lv st) (kf : ¬ y < x → ts_G g w nL σ (pc + 3) lv st) : ts_G g w nL σ pc lv (.int y :: .int x :: st) :=
  fun H locs ls hP hS hl => lv_icmp_gt X.hx X.hb d ht (fun c => kt c H locs ls hP hS hl) (fun c => kf c H locs ls hP hS hl)
theorem ts_if_le {off : Int} {x : Int32} (tgt : Nat) (X : ts_X g w cc nL own) (d : decode cc pc = .ok (.ifCond .le off, 3)) (ht : (pc : Int) + off = (tgt : Int)) (kt : x ≤ 0 → ts_G g w nL σ tgt lv st) (kf : ¬ x ≤ 0 → ts_G g w nL σ (pc + 3) lv st) : ts_G g w nL σ pc lv (.int x :: st) :=
  fun H locs ls hP hS hl => lv_if_le X.hx X.hb d ht (fun c => kt c H locs ls hP hS hl) (fun c => kf c H locs ls hP hS hl)
theorem ts_icmp_le {off : Int} {x y : Int32} (tgt : Nat) (X : ts_X g w cc nL own) (d : decode cc pc = .ok (.if_icmp .le off, 3)) (ht : (pc : Int) + off = (tgt : Int)) (kt : x ≤ y → ts_G g w nL σ tgt lv st) (kf : ¬ x ≤ y → ts_G g w nL σ (pc + 3) lv st) : ts_G g w nL σ pc lv (.int y :: .int x :: st) :=
  fun H locs ls hP hS hl => lv_icmp_le X.hx X.hb d ht (fun c => kt c H locs ls hP hS hl) (fun c => kf c H locs ls hP hS hl)
theorem ts_tableIn {dflt lo hi : Int} {offs : Array Int} {len : Nat} {x k0 : Int32} {off : Int} (tgt : Nat) (X : ts_X g w cc nL own) (d : decode cc pc = .ok (.tableswitch dflt lo hi offs, len)) (c : x = k0) (h1 : ¬ k0.toInt < lo) (h2 : ¬ hi < k0.toInt) (ho : offs[(k0.toInt - lo).toNat]? = some off) (ht : (pc : Int) + off = (tgt : Int)) (k : ts_G g w nL σ tgt lv st) : ts_G g w nL σ pc lv (.int x :: st) :=
  fun H locs ls hP hS hl => by subst c; exact lv_tableIn X.hx X.hb d h1 h2 ho ht (k H locs ls hP hS hl)
theorem ts_tableOut {dflt lo hi : Int} {offs : Array Int} {len : Nat} {x : Int32} (tgt : Nat) (X : ts_X g w cc nL own) (d : decode cc pc = .ok (.tableswitch dflt lo hi offs, len)) (h : x.toInt < lo ∨ hi < x.toInt) (ht : (pc : Int) + dflt = (tgt : Int)) (k : ts_G g w nL σ tgt lv st) : ts_G g w nL σ pc lv (.int x :: st) :=
  fun H locs ls hP hS hl => lv_tableOut X.hx X.hb d h ht (k H locs ls hP hS hl)
theorem ts_lookup {dflt : Int} {ps : Array (Int × Int)} {len : Nat} {x : Int32} {off : Int} (tgt : Nat) (X : ts_X g w cc nL own) (d : decode cc pc = .ok (.lookupswitch dflt ps, len)) (hp : (ps.toList.zip (ps.toList.drop 1)).all (fun (a, next) => a.1 < next.1) = true) (ho : Op.lookupswitch.offset ps.toList dflt x.toInt = off) (ht : (pc : Int) + off = (tgt : Int)) (k : ts_G g w nL σ tgt lv st) : ts_G g w nL σ pc lv (.int x :: st) :=
  fun H locs ls hP hS hl => lv_lookup X.hx X.hb d hp ho ht (k H locs ls hP hS hl)
theorem ts_itp {c A B : Prop} {dc : Decidable c} (h : @ite Prop c dc A B) (hc : c) : A := by rw [if_pos hc] at h; exact h
theorem ts_itn {c A B : Prop} {dc : Decidable c} (h : @ite Prop c dc A B) (hc : ¬ c) : B := by rw [if_neg hc] at h; exact h
/-- getfield -/
theorem ts_get {k ci n : Nat} {fs : List Value} {C ref : String} {T : u_T} {index : Nat} (X : ts_X g w cc nL own) (hk : k < w.2.2.1) (hE : w.2.2.2.1 k (σ k) = .inr (ci, fs)) (hc : vwCl[ci]? = some (C, T, n)) (hin : ∀ q ∈ u_ws C T n, q ∈ ts_TB) (j : Nat) (hj : j < n) (hl : Cond.fieldLink own index ref (T j).2.1 (T j).2.2.1 ∈ ts_TB) (href : (T j).1 = ref) {v : Value} (hv : fs[j]? = some v) (d : decode cc pc = .ok (.getfield index, 3))
    (kk : ts_G g w nL σ (pc + 3) lv (v :: st)) : ts_G g w nL σ pc lv (.ref (w.2.2.2.2 k) :: st) :=
  fun H locs ls hP hS hl0 => va_get X.hx X.hb X.hts hin X.hown X.hK hP k ((ts_w_get hk).trans (by rw [hE])) hc j hj (X.hts _ hl) (fun x h => by rw [← href]; exact h) hv d (kk H locs ls hP hS hl0)
/-- putfield of a number -/
theorem ts_put {k ci n : Nat} {fs : List Value} {C ref : String} {T : u_T} {index : Nat} (X : ts_X g w cc nL own) (hk : k < w.2.2.1) {x : Int32} (hE : w.2.2.2.1 k (σ k) = .inr (ci, fs)) (hc : vwCl[ci]? = some (C, T, n)) (hin : ∀ q ∈ u_ws C T n, q ∈ ts_TB) (ty : Nat → FieldType) (hty : ∀ j, j < n → parseFieldDescriptor (T j).2.2.1 = some (ty j)) (hnm : ∀ a, a < n → ∀ b, b < n → a ≠ b → (T a).2.1 ≠ (T b).2.1) (j : Nat) (hj : j < n) (hl : Cond.fieldLink own index ref (T j).2.1 (T j).2.2.1 ∈ ts_TB) (href : (T j).1 = ref) (hfin : (T j).2.2.2 = false) (hd : parseFieldDescriptor (T j).2.2.1 = some .int) (hlen : j < fs.length) (hE2 : w.2.2.2.1 k (upd (σ k) j x) = .inr (ci, fs.set j (.int x))) (d : decode cc pc = .ok (.putfield index, 3))
    (kk : ∀ σ1 : ts_S, σ1 = ts_u σ k j x → ts_G g w nL σ1 (pc + 3) lv st) : ts_G g w nL σ pc lv (.int x :: .ref (w.2.2.2.2 k) :: st) := by
  intro H locs ls hP hS hl0
  refine va_put X.hx X.hb X.hts hin ty hty hnm X.hown X.hK hP (ts_D X.hi) hS k ((ts_w_get hk).trans (by rw [hE])) hc j hj (X.hts _ hl) (fun x h => by rw [← href]; exact h) hfin hd (vp_nar_int x) rfl hlen d (fun H1 locs1 hP1 hD1 hS1 => ?_)
  rw [← hE2, ts_wd, ts_w_set] at hP1
  exact kk _ rfl H1 locs1 ls hP1 hS1 hl0
theorem ts_iald {k n : Nat} {cA : ClassId} {i : Int32} (X : ts_X g w cc nL own) (hk : k < w.2.2.1) (hE : ∀ f, w.2.2.2.1 k f = .inl (cA, n, .inl f)) (t0 : Nat) (ht : w.2.1[t0]? = some (cA, .int)) (hin : vp_in i n) (d : decode cc pc = .ok (.iaload, 1)) (kk : ts_G g w nL σ (pc + 1) lv (.int (σ k i.toNatClampNeg) :: st)) : ts_G g w nL σ pc lv (.int i :: .ref (w.2.2.2.2 k) :: st) :=
  fun H locs ls hP hS hl => va_iald X.hx X.hb X.hK hP k t0 ((ts_w_get hk).trans (by rw [hE])) ht hin d (kk H locs ls hP hS hl)
theorem ts_zald {k n : Nat} {cA : ClassId} {i : Int32} (X : ts_X g w cc nL own) (hk : k < w.2.2.1) (hE : ∀ f, w.2.2.2.1 k f = .inl (cA, n, .inl f)) (t0 : Nat) (ht : w.2.1[t0]? = some (cA, .boolean)) (hin : vp_in i n) (d : decode cc pc = .ok (.baload, 1)) (kk : ts_G g w nL σ (pc + 1) lv (.int (σ k i.toNatClampNeg) :: st)) : ts_G g w nL σ pc lv (.int i :: .ref (w.2.2.2.2 k) :: st) :=
  fun H locs ls hP hS hl => va_zald X.hx X.hb X.hK hP k t0 ((ts_w_get hk).trans (by rw [hE])) ht hin d (kk H locs ls hP hS hl)
theorem ts_cald {k n : Nat} {cA : ClassId} {i : Int32} (X : ts_X g w cc nL own) (hk : k < w.2.2.1) (hE : ∀ f, w.2.2.2.1 k f = .inl (cA, n, .inl f)) (t0 : Nat) (ht : w.2.1[t0]? = some (cA, .char)) (hin : vp_in i n) (d : decode cc pc = .ok (.caload, 1)) (kk : ts_G g w nL σ (pc + 1) lv (.int (σ k i.toNatClampNeg) :: st)) : ts_G g w nL σ pc lv (.int i :: .ref (w.2.2.2.2 k) :: st) :=
  fun H locs ls hP hS hl => va_cald X.hx X.hb X.hK hP k t0 ((ts_w_get hk).trans (by rw [hE])) ht hin d (kk H locs ls hP hS hl)
theorem ts_aald {k n a : Nat} {cA : ClassId} {C : String} {i : Int32} {f : Nat → Option Nat} (X : ts_X g w cc nL own) (hk : k < w.2.2.1) (hE : w.2.2.2.1 k (σ k) = .inl (cA, n, .inr (.inr (.inr (.inr f))))) (t0 : Nat) (ht : w.2.1[t0]? = some (cA, .object C)) (hin : vp_in i n) (hf : f i.toNatClampNeg = some a) (d : decode cc pc = .ok (.aaload, 1)) (kk : ts_G g w nL σ (pc + 1) lv (.ref a :: st)) : ts_G g w nL σ pc lv (.int i :: .ref (w.2.2.2.2 k) :: st) :=
  fun H locs ls hP hS hl => va_aldq X.hx X.hb X.hK hP k t0 ((ts_w_get hk).trans (by rw [hE])) ht hin d (by rw [hf]; exact kk H locs ls hP hS hl)
theorem ts_iast {k n : Nat} {cA : ClassId} {i x : Int32} (X : ts_X g w cc nL own) (hk : k < w.2.2.1) (hE : ∀ f, w.2.2.2.1 k f = .inl (cA, n, .inl f)) (t0 : Nat) (ht : w.2.1[t0]? = some (cA, .int)) (hin : vp_in i n) (d : decode cc pc = .ok (.iastore, 1)) (kk : ∀ σ1 : ts_S, σ1 = ts_u σ k i.toNatClampNeg x → ts_G g w nL σ1 (pc + 1) lv st) : ts_G g w nL σ pc lv (.int x :: .int i :: .ref (w.2.2.2.2 k) :: st) := by
  intro H locs ls hP hS hl0
  refine va_iast X.hx X.hb X.hK hP (ts_D X.hi) hS k t0 ((ts_w_get hk).trans (by rw [hE])) ht hin d (fun H1 locs1 hP1 hD1 hS1 => ?_)
  rw [← hE, ts_wd, ts_w_set] at hP1
  exact kk _ rfl H1 locs1 ls hP1 hS1 hl0
theorem ts_zast {k n : Nat} {cA : ClassId} {i x : Int32} (X : ts_X g w cc nL own) (hk : k < w.2.2.1) (hE : ∀ f, w.2.2.2.1 k f = .inl (cA, n, .inl f)) (t0 : Nat) (ht : w.2.1[t0]? = some (cA, .boolean)) (hin : vp_in i n) (d : decode cc pc = .ok (.bastore, 1)) (kk : ∀ σ1 : ts_S, σ1 = ts_u σ k i.toNatClampNeg (vp_nar .boolean x) → ts_G g w nL σ1 (pc + 1) lv st) : ts_G g w nL σ pc lv (.int x :: .int i :: .ref (w.2.2.2.2 k) :: st) := by
  intro H locs ls hP hS hl0
  refine va_zast X.hx X.hb X.hK hP (ts_D X.hi) hS k t0 ((ts_w_get hk).trans (by rw [hE])) ht hin d (fun H1 locs1 hP1 hD1 hS1 => ?_)
  rw [← hE, ts_wd, ts_w_set] at hP1
  exact kk _ rfl H1 locs1 ls hP1 hS1 hl0
theorem ts_cast {k n : Nat} {cA : ClassId} {i x : Int32} (X : ts_X g w cc nL own) (hk : k < w.2.2.1) (hE : ∀ f, w.2.2.2.1 k f = .inl (cA, n, .inl f)) (t0 : Nat) (ht : w.2.1[t0]? = some (cA, .char)) (hin : vp_in i n) (d : decode cc pc = .ok (.castore, 1)) (kk : ∀ σ1 : ts_S, σ1 = ts_u σ k i.toNatClampNeg (vp_nar .char x) → ts_G g w nL σ1 (pc + 1) lv st) : ts_G g w nL σ pc lv (.int x :: .int i :: .ref (w.2.2.2.2 k) :: st) := by
  intro H locs ls hP hS hl0
  refine va_cast X.hx X.hb X.hK hP (ts_D X.hi) hS k t0 ((ts_w_get hk).trans (by rw [hE])) ht hin d (fun H1 locs1 hP1 hD1 hS1 => ?_)
  rw [← hE, ts_wd, ts_w_set] at hP1
  exact kk _ rfl H1 locs1 ls hP1 hS1 hl0
end TSR
