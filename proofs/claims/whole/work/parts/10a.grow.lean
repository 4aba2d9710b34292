/-! growing worlds: methods that make cells, and the law -/
abbrev gw_Ctx : Type := Program × Launch × Env × Room × State × MethodId × Array Value × List Frame × Method × Code × (State → Prop) × (Nat → Prop)
def gw_s (g : gw_Ctx) : State := g.2.2.2.2.1
def gw_A (g : gw_Ctx) : Nat → Prop := g.2.2.2.2.2.2.2.2.2.2.2
def gw_R (g : gw_Ctx) : Room := g.2.2.2.1
/-- the machine in the midst of a method: cells, how many were made, place, locals, stack -/
def gw_G (g : gw_Ctx) (D : va_G) (nL : Nat) (ws : va_W) (ce sl pc : Nat) (lv : List (Nat × Value)) (st : List Value) : Prop :=
  ∀ (H : Heap) (locs : List Loc) (ls : Array Slot), va_P D vwCl ws H → va_D (gw_A g) ws → va_S (gw_A g) (gw_s g).heap H locs → lv_has ls nL lv →
    W g.1 g.2.1 g.2.2.1 (gw_R g) (gw_s g) g.2.2.2.2.2.1 g.2.2.2.2.2.2.1 g.2.2.2.2.2.2.2.1 g.2.2.2.2.2.2.2.2.1 g.2.2.2.2.2.2.2.2.2.1 H locs ce sl g.2.2.2.2.2.2.2.2.2.2.1 (F0 g.2.2.2.2.2.1 pc ls st)
def gw_X (g : gw_Ctx) (D : va_G) (tys : List (ClassId × FieldType)) (cc : ByteArray) (nL : Nat) (own : String) : Prop :=
  g.1.tables.exec = Jvm.exec ∧ g.2.2.2.2.2.2.2.2.2.1.code = cc ∧ g.2.2.2.2.2.2.2.2.2.1.maxLocals = nL ∧ (gw_s g).vm.findClass own = some g.2.2.2.2.2.1.cls ∧ (∀ q ∈ ts_TB, q.before g.2.2.2.2.2.2.1 (gw_s g) = true) ∧ va_K D vwCl tys (gw_s g) ∧ (∀ q ∈ ts_NW, va_Nw q (gw_s g)) ∧ va_AO "TowerService$Tower" (gw_s g)
def gw_At (D : va_G) (tys : List (ClassId × FieldType)) (ws : va_W) (U : State) : Prop := va_P D vwCl ws U.heap ∧ va_K D vwCl tys U ∧ (∀ q ∈ ts_NW, va_Nw q U) ∧ va_AO "TowerService$Tower" U
theorem va_P_mem {D : va_G} {cl : List vw_C} {ws : va_W} {H : Heap} : va_P D cl ws H ↔ ∀ q ∈ ws, va_at D cl q H := by
  constructor
  · intro h q hq
    obtain ⟨i, hi⟩ := List.getElem?_of_mem hq
    exact h i q hi
  · intro h k q hk
    exact h q (List.mem_of_getElem? hk)
theorem va_D_mem {A : Nat → Prop} {ws : va_W} : va_D A ws ↔ (ws.map Prod.fst).Nodup ∧ ∀ q ∈ ws, A q.1 := by
  constructor
  · intro h
    refine ⟨?_, fun q hq => ?_⟩
    · unfold List.Nodup
      rw [List.pairwise_iff_getElem]
      intro i j hi hj hij e
      have hi' : i < ws.length := by simpa using hi
      have hj' : j < ws.length := by simpa using hj
      have := h.1 i j ws[i] ws[j] (List.getElem?_eq_getElem hi') (List.getElem?_eq_getElem hj') (by simpa using e)
      omega
    · obtain ⟨i, hi⟩ := List.getElem?_of_mem hq
      exact h.2 i q hi
  · rintro ⟨h1, h2⟩
    refine ⟨fun i j p q hi hj e => ?_, fun k q hk => h2 q (List.mem_of_getElem? hk)⟩
    unfold List.Nodup at h1
    rw [List.pairwise_iff_getElem] at h1
    obtain ⟨li, ei⟩ := List.getElem?_eq_some_iff.mp hi
    obtain ⟨lj, ej⟩ := List.getElem?_eq_some_iff.mp hj
    rcases Nat.lt_trichotomy i j with z | z | z
    · have := h1 i j (by simpa using li) (by simpa using lj) z
      rw [List.getElem_map, List.getElem_map, ei, ej] at this
      exact absurd e this
    · exact z
    · have := h1 j i (by simpa using lj) (by simpa using li) z
      rw [List.getElem_map, List.getElem_map, ei, ej] at this
      exact absurd e.symm this
theorem va_P.perm {D : va_G} {cl : List vw_C} {ws ws' : va_W} {H : Heap} (h : ws.Perm ws') (hP : va_P D cl ws H) : va_P D cl ws' H :=
  va_P_mem.mpr fun q hq => va_P_mem.mp hP q (h.mem_iff.mpr hq)
theorem va_D.perm {A : Nat → Prop} {ws ws' : va_W} (h : ws.Perm ws') (hD : va_D A ws) : va_D A ws' := by
  have := va_D_mem.mp hD
  exact va_D_mem.mpr ⟨(h.map Prod.fst).nodup_iff.mp this.1, fun q hq => this.2 q (h.mem_iff.mpr hq)⟩
/-- behind a call: what was given to it comes back, the rest stays -/
theorem gw_join {A0 B : Nat → Prop} {D : va_G} {cl : List vw_C} {wr wc w1 : va_W} {H H1 : Heap} (hP : va_P D cl (wr ++ wc) H) (hD : va_D A0 (wr ++ wc)) (hB : ∀ q, q < H.size → B q → ∃ e, (q, e) ∈ wc) (hk : ∀ q : Nat, q < H.size → ¬ B q → H1[q]? = H[q]?) (hF : ∀ q, B q → A0 q) (hP1 : va_P D cl w1 H1) (hD1 : va_D B w1) : va_P D cl (wr ++ w1) H1 ∧ va_D A0 (wr ++ w1) := by
  have P0 := va_P_mem.mp hP
  have P1 := va_P_mem.mp hP1
  obtain ⟨N0, A1⟩ := va_D_mem.mp hD
  obtain ⟨N1, B1⟩ := va_D_mem.mp hD1
  rw [List.map_append, List.nodup_append] at N0
  obtain ⟨n1, n2, n3⟩ := N0
  have out : ∀ q ∈ wr, q.1 < H.size ∧ ¬ B q.1 := by
    intro q hq
    have hl := (P0 q (List.mem_append_left _ hq)).lt
    refine ⟨hl, fun z => ?_⟩
    obtain ⟨e, he⟩ := hB q.1 hl z
    exact n3 q.1 (List.mem_map_of_mem hq) q.1 (List.mem_map.mpr ⟨(q.1, e), he, rfl⟩) rfl
  refine ⟨va_P_mem.mpr fun q hq => ?_, va_D_mem.mpr ⟨?_, fun q hq => ?_⟩⟩
  · rcases List.mem_append.mp hq with z | z
    · obtain ⟨o1, o2⟩ := out q z
      exact (P0 q (List.mem_append_left _ z)).kept (hk q.1 o1 o2)
    · exact P1 q z
  · rw [List.map_append, List.nodup_append]
    refine ⟨n1, N1, ?_⟩
    intro x hx y hy e
    obtain ⟨q, hq, rfl⟩ := List.mem_map.mp hx
    obtain ⟨r, hr, rfl⟩ := List.mem_map.mp hy
    exact (out q hq).2 (by rw [e]; exact B1 r hr)
  · rcases List.mem_append.mp hq with z | z
    · exact A1 q (List.mem_append_left _ z)
    · exact hF q.1 (B1 q z)
def gw_Mv (l : Launch) (y : MethodName) (w0 : Cond) (R : Room) (D : va_G) (tys : List (ClassId × FieldType)) (av : List Value) (wa : va_W) (post : va_W → Prop) : Prop :=
  ∀ sz : Nat, Met l y (w0 :: ts_TB) R (va_Pc av (fun U => U.heap.size = sz ∧ gw_At D tys wa U ∧ va_D (fun _ => True) wa)) (va_Qv post (fun w1 t => gw_At D tys w1 t ∧ va_D (va_A wa sz) w1) (va_A wa sz)) R.cells R.slots (va_A wa sz)
def gw_Mr (l : Launch) (y : MethodName) (w0 : Cond) (R : Room) (D : va_G) (tys : List (ClassId × FieldType)) (av : List Value) (wa : va_W) (pr : va_W → Nat → Prop) : Prop :=
  ∀ sz : Nat, Met l y (w0 :: ts_TB) R (va_Pc av (fun U => U.heap.size = sz ∧ gw_At D tys wa U ∧ va_D (fun _ => True) wa)) (va_Qr (fun _ : va_W => True) (fun w1 a t => gw_At D tys w1 t ∧ va_D (va_A wa sz) w1 ∧ pr w1 a) (va_A wa sz)) R.cells R.slots (va_A wa sz)
theorem gw_At.blind {D : va_G} {tys : List (ClassId × FieldType)} {wa : va_W} {av : List Value} {sz : Nat} : FrameBlind (va_Pc av (fun U => U.heap.size = sz ∧ gw_At D tys wa U ∧ va_D (fun _ => True) wa)) := by
  intro a U g mk q
  exact ⟨q.1, q.2.1, ⟨q.2.2.1.1, va_K.moved (u := U) (U := U.calling g mk a) (Vm.Alike.refl U.vm) q.2.2.1.2.1, ts_NW_same (s := U) (U := U.calling g mk a) rfl q.2.2.1.2.2.1, va_AO.moved (u := U) (U := U.calling g mk a) (Vm.Alike.refl U.vm) q.2.2.1.2.2.2⟩, q.2.2.2⟩
section GRR
variable {g : gw_Ctx} {D : va_G} {tys : List (ClassId × FieldType)} {cc : ByteArray} {nL : Nat} {own : String} {ws wr wc : va_W} {ce sl pc : Nat} {lv lv' : List (Nat × Value)} {st st0 As : List Value}
variable {y : MethodName} {cy : ByteArray} {ny n' index na : Nat} {ry : Option FieldType}
theorem gw_X.hx (X : gw_X g D tys cc nL own) : g.1.tables.exec = Jvm.exec := X.1
theorem gw_X.hb (X : gw_X g D tys cc nL own) : g.2.2.2.2.2.2.2.2.2.1.code = cc := X.2.1
theorem gw_X.hml (X : gw_X g D tys cc nL own) : g.2.2.2.2.2.2.2.2.2.1.maxLocals = nL := X.2.2.1
theorem gw_X.hown (X : gw_X g D tys cc nL own) : (gw_s g).vm.findClass own = some g.2.2.2.2.2.1.cls := X.2.2.2.1
theorem gw_X.hts (X : gw_X g D tys cc nL own) : ∀ q ∈ ts_TB, q.before g.2.2.2.2.2.2.1 (gw_s g) = true := X.2.2.2.2.1
theorem gw_X.hK (X : gw_X g D tys cc nL own) : va_K D vwCl tys (gw_s g) := X.2.2.2.2.2.1
theorem gw_X.hN (X : gw_X g D tys cc nL own) : ∀ q ∈ ts_NW, va_Nw q (gw_s g) := X.2.2.2.2.2.2.1
theorem gw_X.hO (X : gw_X g D tys cc nL own) : va_AO "TowerService$Tower" (gw_s g) := X.2.2.2.2.2.2.2
theorem gw_X.at (X : gw_X g D tys cc nL own) {H : Heap} {U : State} (hU : U.heap = H) (hW : (gw_s g).WarmedH U.vm) (hP : va_P D vwCl ws H) : gw_At D tys ws U :=
  ⟨by rw [hU]; exact hP, va_K.moved hW.alike X.hK, ts_NW_warm hW X.hN, va_AO.moved hW.alike X.hO⟩
theorem gw_perm {ws' : va_W} (h : ws.Perm ws') (k : gw_G g D nL ws' ce sl pc lv st) : gw_G g D nL ws ce sl pc lv st :=
  fun H locs ls hP hD hS hl => k H locs ls (hP.perm h) (hD.perm h) hS hl
theorem gw_wid {ce' sl' : Nat} (h1 : ce ≤ ce') (h2 : sl ≤ sl') (k : gw_G g D nL ws ce' sl' pc lv st) : gw_G g D nL ws ce sl pc lv st :=
  fun H locs ls hP hD hS hl => W.widen h1 h2 (k H locs ls hP hD hS hl)
theorem gw_sub (ks : List Nat) (hl : lv_pick lv ks = lv') (k : gw_G g D nL ws ce sl pc lv' st) : gw_G g D nL ws ce sl pc lv st :=
  fun H locs ls hP hD hS hl0 => k H locs ls hP hD hS (lv_sub hl0 ks hl)
theorem gw_iconst {n : Int} {v : Int32} (X : gw_X g D tys cc nL own) (d : decode cc pc = .ok (.iconst n, 1)) (hv : Int32.ofInt n = v) (k : gw_G g D nL ws ce sl (pc + 1) lv (.int v :: st)) : gw_G g D nL ws ce sl pc lv (st) :=
  fun H locs ls hP hD hS hl => lv_iconst X.hx X.hb d hv (k H locs ls hP hD hS hl)
theorem gw_bipush {n : Int} {v : Int32} (X : gw_X g D tys cc nL own) (d : decode cc pc = .ok (.bipush n, 2)) (hv : (Int8.ofInt n).toInt32 = v) (k : gw_G g D nL ws ce sl (pc + 2) lv (.int v :: st)) : gw_G g D nL ws ce sl pc lv (st) :=
  fun H locs ls hP hD hS hl => lv_bipush X.hx X.hb d hv (k H locs ls hP hD hS hl)
theorem gw_sipush {n : Int} {v : Int32} (X : gw_X g D tys cc nL own) (d : decode cc pc = .ok (.sipush n, 3)) (hv : (Int16.ofInt n).toInt32 = v) (k : gw_G g D nL ws ce sl (pc + 3) lv (.int v :: st)) : gw_G g D nL ws ce sl pc lv (st) :=
  fun H locs ls hP hD hS hl => lv_sipush X.hx X.hb d hv (k H locs ls hP hD hS hl)
theorem gw_iload_n {k0 : Fin 4} {x : Int32} (X : gw_X g D tys cc nL own) (d : decode cc pc = .ok (.iload_n k0, 1)) (j : Nat) (h : lv[j]? = some ((k0 : Nat), .int x)) (k : gw_G g D nL ws ce sl (pc + 1) lv (.int x :: st)) : gw_G g D nL ws ce sl pc lv (st) :=
  fun H locs ls hP hD hS hl => lv_iload_n X.hx X.hb d rfl (lv_at hl j h) (k H locs ls hP hD hS hl)
theorem gw_iload {i : Nat} {x : Int32} (X : gw_X g D tys cc nL own) (d : decode cc pc = .ok (.iload i, 2)) (j : Nat) (h : lv[j]? = some (i, .int x)) (k : gw_G g D nL ws ce sl (pc + 2) lv (.int x :: st)) : gw_G g D nL ws ce sl pc lv (st) :=
  fun H locs ls hP hD hS hl => lv_iload X.hx X.hb d (lv_at hl j h) (k H locs ls hP hD hS hl)
theorem gw_aload_n {k0 : Fin 4} {x : Nat} (X : gw_X g D tys cc nL own) (d : decode cc pc = .ok (.aload_n k0, 1)) (j : Nat) (h : lv[j]? = some ((k0 : Nat), .ref x)) (k : gw_G g D nL ws ce sl (pc + 1) lv (.ref x :: st)) : gw_G g D nL ws ce sl pc lv (st) :=
  fun H locs ls hP hD hS hl => lv_aload_n X.hx X.hb d rfl (lv_at hl j h) (k H locs ls hP hD hS hl)
theorem gw_aload {i : Nat} {x : Nat} (X : gw_X g D tys cc nL own) (d : decode cc pc = .ok (.aload i, 2)) (j : Nat) (h : lv[j]? = some (i, .ref x)) (k : gw_G g D nL ws ce sl (pc + 2) lv (.ref x :: st)) : gw_G g D nL ws ce sl pc lv (st) :=
  fun H locs ls hP hD hS hl => lv_aload X.hx X.hb d (lv_at hl j h) (k H locs ls hP hD hS hl)
theorem gw_istore_n {k0 : Fin 4} {x : Int32} (X : gw_X g D tys cc nL own) (d : decode cc pc = .ok (.istore_n k0, 1)) (hn : (k0 : Nat) < nL) (hl : ((k0 : Nat), Value.int x) :: lv.filter (fun q => !(q.1 == (k0 : Nat)) && !(q.1 + 1 == (k0 : Nat) && q.2.category == 2)) = lv') (k : gw_G g D nL ws ce sl (pc + 1) lv' st) : gw_G g D nL ws ce sl pc lv (.int x :: st) :=
  fun H locs ls hP hD hS hl0 => lv_istore_n X.hx X.hb d rfl hl0 hn hl (fun ls' hl' => k H locs ls' hP hD hS hl')
theorem gw_astore_n {k0 : Fin 4} {x : Nat} (X : gw_X g D tys cc nL own) (d : decode cc pc = .ok (.astore_n k0, 1)) (hn : (k0 : Nat) < nL) (hl : ((k0 : Nat), Value.ref x) :: lv.filter (fun q => !(q.1 == (k0 : Nat)) && !(q.1 + 1 == (k0 : Nat) && q.2.category == 2)) = lv') (k : gw_G g D nL ws ce sl (pc + 1) lv' st) : gw_G g D nL ws ce sl pc lv (.ref x :: st) :=
  fun H locs ls hP hD hS hl0 => lv_astore_n X.hx X.hb d rfl hl0 hn hl (fun ls' hl' => k H locs ls' hP hD hS hl')
theorem gw_iinc {i : Nat} {n : Int} {x v : Int32} (X : gw_X g D tys cc nL own) (d : decode cc pc = .ok (.iinc i n, 3)) (j : Nat) (hk : lv[j]? = some (i, .int x)) (hv : x + Int32.ofInt n = v) (hn : i < nL) (hl : (i, Value.int v) :: lv.filter (fun q => !(q.1 == i) && !(q.1 + 1 == i && q.2.category == 2)) = lv') (k : gw_G g D nL ws ce sl (pc + 3) lv' st) : gw_G g D nL ws ce sl pc lv st :=
  fun H locs ls hP hD hS hl0 => lv_iinc X.hx X.hb d hl0 hk hv hn hl (fun ls' hl' => k H locs ls' hP hD hS hl')
theorem gw_iadd {x y : Int32} (X : gw_X g D tys cc nL own) (d : decode cc pc = .ok (.iadd, 1)) (k : gw_G g D nL ws ce sl (pc + 1) lv (.int (x + y) :: st)) : gw_G g D nL ws ce sl pc lv (.int y :: .int x :: st) :=
  fun H locs ls hP hD hS hl => lv_iadd X.hx X.hb d (k H locs ls hP hD hS hl)
theorem gw_isub {x y : Int32} (X : gw_X g D tys cc nL own) (d : decode cc pc = .ok (.isub, 1)) (k : gw_G g D nL ws ce sl (pc + 1) lv (.int (x - y) :: st)) : gw_G g D nL ws ce sl pc lv (.int y :: .int x :: st) :=
  fun H locs ls hP hD hS hl => lv_isub X.hx X.hb d (k H locs ls hP hD hS hl)
theorem gw_iand {x y : Int32} (X : gw_X g D tys cc nL own) (d : decode cc pc = .ok (.iand, 1)) (k : gw_G g D nL ws ce sl (pc + 1) lv (.int (x &&& y) :: st)) : gw_G g D nL ws ce sl pc lv (.int y :: .int x :: st) :=
  fun H locs ls hP hD hS hl => lv_iand X.hx X.hb d (k H locs ls hP hD hS hl)
theorem gw_ishr {x y : Int32} (X : gw_X g D tys cc nL own) (d : decode cc pc = .ok (.ishr, 1)) (k : gw_G g D nL ws ce sl (pc + 1) lv (.int (x >>> (y &&& 31)) :: st)) : gw_G g D nL ws ce sl pc lv (.int y :: .int x :: st) :=
  fun H locs ls hP hD hS hl => lv_ishr X.hx X.hb d (k H locs ls hP hD hS hl)
theorem gw_i2c {x : Int32} (X : gw_X g D tys cc nL own) (d : decode cc pc = .ok (.i2c, 1)) (k : gw_G g D nL ws ce sl (pc + 1) lv (.int ((x.toUInt32 % 65536).toInt32) :: st)) : gw_G g D nL ws ce sl pc lv (.int x :: st) :=
  fun H locs ls hP hD hS hl => lv_i2c X.hx X.hb d rfl (k H locs ls hP hD hS hl)
theorem gw_dup {va : Value} (X : gw_X g D tys cc nL own) (d : decode cc pc = .ok (.dup, 1)) (h : va.category = 1) (k : gw_G g D nL ws ce sl (pc + 1) lv (va :: va :: st)) : gw_G g D nL ws ce sl pc lv (va :: st) :=
  fun H locs ls hP hD hS hl => lv_dup X.hx X.hb d h (k H locs ls hP hD hS hl)
theorem gw_pop {va : Value} (X : gw_X g D tys cc nL own) (d : decode cc pc = .ok (.pop, 1)) (h : va.category = 1) (k : gw_G g D nL ws ce sl (pc + 1) lv (st)) : gw_G g D nL ws ce sl pc lv (va :: st) :=
  fun H locs ls hP hD hS hl => lv_pop X.hx X.hb d h (k H locs ls hP hD hS hl)
theorem gw_goto {off : Int} (tgt : Nat) (X : gw_X g D tys cc nL own) (d : decode cc pc = .ok (.goto off, 3)) (ht : (pc : Int) + off = (tgt : Int)) (k : gw_G g D nL ws ce sl tgt lv st) : gw_G g D nL ws ce sl pc lv st :=
  fun H locs ls hP hD hS hl => lv_goto X.hx X.hb d ht (k H locs ls hP hD hS hl)
theorem gw_if_eq {off : Int} {x : Int32} (tgt : Nat) (X : gw_X g D tys cc nL own) (d : decode cc pc = .ok (.ifCond .eq off, 3)) (ht : (pc : Int) + off = (tgt : Int)) (kt : x = 0 → gw_G g D nL ws ce sl tgt lv st) (kf : ¬ x = 0 → gw_G g D nL ws ce sl (pc + 3) lv st) : gw_G g D nL ws ce sl pc lv (.int x :: st) :=
  fun H locs ls hP hD hS hl => lv_if_eq X.hx X.hb d ht (fun c => kt c H locs ls hP hD hS hl) (fun c => kf c H locs ls hP hD hS hl)
theorem gw_icmp_eq {off : Int} {x y : Int32} (tgt : Nat) (X : gw_X g D tys cc nL own) (d : decode cc pc = .ok (.if_icmp .eq off, 3)) (ht : (pc : Int) + off = (tgt : Int)) (kt : x = y → gw_G g D nL ws ce sl tgt lv st) (kf : ¬ x = y → gw_G g D nL ws ce sl (pc + 3) lv st) : gw_G g D nL ws ce sl pc lv (.int y :: .int x :: st) :=
  fun H locs ls hP hD hS hl => lv_icmp_eq X.hx X.hb d ht (fun c => kt c H locs ls hP hD hS hl) (fun c => kf c H locs ls hP hD hS hl)
theorem gw_if_ne {off : Int} {x : Int32} (tgt : Nat) (X : gw_X g D tys cc nL own) (d : decode cc pc = .ok (.ifCond .ne off, 3)) (ht : (pc : Int) + off = (tgt : Int)) (kt : ¬ x = 0 → gw_G g D nL ws ce sl tgt lv st) (kf : x = 0 → gw_G g D nL ws ce sl (pc + 3) lv st) : gw_G g D nL ws ce sl pc lv (.int x :: st) :=
  fun H locs ls hP hD hS hl => lv_if_ne X.hx X.hb d ht (fun c => kt c H locs ls hP hD hS hl) (fun c => kf c H locs ls hP hD hS hl)
theorem gw_if_lt {off : Int} {x : Int32} (tgt : Nat) (X : gw_X g D tys cc nL own) (d : decode cc pc = .ok (.ifCond .lt off, 3)) (ht : (pc : Int) + off = (tgt : Int)) (kt : x < 0 → gw_G g D nL ws ce sl tgt lv st) (kf : ¬ x < 0 → gw_G g D nL ws ce sl (pc + 3) lv st) : gw_G g D nL ws ce sl pc lv (.int x :: st) :=
  fun H locs ls hP hD hS hl => lv_if_lt X.hx X.hb d ht (fun c => kt c H locs ls hP hD hS hl) (fun c => kf c H locs ls hP hD hS hl)
theorem gw_icmp_lt {off : Int} {x y : Int32} (tgt : Nat) (X : gw_X g D tys cc nL own) (d : decode cc pc = .ok (.if_icmp .lt off, 3)) (ht : (pc : Int) + off = (tgt : Int)) (kt : x < y → gw_G g D nL ws ce sl tgt lv st) (kf : ¬ x < y → gw_G g D nL ws ce sl (pc + 3) lv st) : gw_G g D nL ws ce sl pc lv (.int y :: .int x :: st) :=
  fun H locs ls hP hD hS hl => lv_icmp_lt X.hx X.hb d ht (fun c => kt c H locs ls hP hD hS hl) (fun c => kf c H locs ls hP hD hS hl)
theorem gw_icmp_ge {off : Int} {x y : Int32} (tgt : Nat) (X : gw_X g D tys cc nL own) (d : decode cc pc = .ok (.if_icmp .ge off, 3)) (ht : (pc : Int) + off = (tgt : Int)) (kt : y ≤ x → gw_G g D nL ws ce sl tgt lv st) (kf : ¬ y ≤ x → gw_G g D nL ws ce sl (pc + 3) lv st) : gw_G g D nL ws ce sl pc lv (.int y :: .int x :: st) :=
  fun H locs ls hP hD hS hl => lv_icmp_ge X.hx X.hb d ht (fun c => kt c H locs ls hP hD hS hl) (fun c => kf c H locs ls hP hD hS hl)
theorem gw_icmp_gt {off : Int} {x y : Int32} (tgt : Nat) (X : gw_X g D tys cc nL own) (d : decode cc pc = .ok (.if_icmp .gt off, 3)) (ht : (pc : Int) + off = (tgt : Int)) (kt : y < x → gw_G g D nL ws ce sl tgt lv st) (kf : ¬ y < x → gw_G g D nL ws ce sl (pc + 3) lv st) : gw_G g D nL ws ce sl pc lv (.int y :: .int x :: st) :=
  fun H locs ls hP hD hS hl => lv_icmp_gt X.hx X.hb d ht (fun c => kt c H locs ls hP hD hS hl) (fun c => kf c H locs ls hP hD hS hl)
theorem gw_tableIn {dflt lo hi : Int} {offs : Array Int} {len : Nat} {x k0 : Int32} {off : Int} (tgt : Nat) (X : gw_X g D tys cc nL own) (d : decode cc pc = .ok (.tableswitch dflt lo hi offs, len)) (c : x = k0) (h1 : ¬ k0.toInt < lo) (h2 : ¬ hi < k0.toInt) (ho : offs[(k0.toInt - lo).toNat]? = some off) (ht : (pc : Int) + off = (tgt : Int)) (k : gw_G g D nL ws ce sl tgt lv st) : gw_G g D nL ws ce sl pc lv (.int x :: st) :=
  fun H locs ls hP hD hS hl => by subst c; exact lv_tableIn X.hx X.hb d h1 h2 ho ht (k H locs ls hP hD hS hl)
theorem gw_tableOut {dflt lo hi : Int} {offs : Array Int} {len : Nat} {x : Int32} (tgt : Nat) (X : gw_X g D tys cc nL own) (d : decode cc pc = .ok (.tableswitch dflt lo hi offs, len)) (h : x.toInt < lo ∨ hi < x.toInt) (ht : (pc : Int) + dflt = (tgt : Int)) (k : gw_G g D nL ws ce sl tgt lv st) : gw_G g D nL ws ce sl pc lv (.int x :: st) :=
  fun H locs ls hP hD hS hl => lv_tableOut X.hx X.hb d h ht (k H locs ls hP hD hS hl)
theorem gw_new {ci N : Nat} {C : String} {T : u_T} {fs : List Value} {ty : Nat → FieldType} (X : gw_X g D tys cc nL own) (hA : ∀ q, (gw_s g).heap.size ≤ q → gw_A g q) (hin : ∀ w ∈ u_ws C T N, w ∈ ts_TB) (hty : ∀ k, k < N → parseFieldDescriptor (T k).2.2.1 = some (ty k)) (hcl : Cond.classLink own index C ∈ ts_TB) (hinst : Cond.instantiable C N ∈ ts_TB) (hini : Cond.initialized C ∈ ts_TB) (hc : vwCl[ci]? = some (C, T, N)) (hfs : ∀ j, j < N → defaultValue (ty j) = vp_V fs j) (hcells : ce + 1 ≤ (gw_R g).cells) (hslots : sl + N ≤ (gw_R g).slots) (d : decode cc pc = .ok (.new index, 3))
    (k : ∀ q : Nat, gw_G g D nL (ws ++ [(q, .inr (ci, fs))]) (ce + 1) (sl + N) (pc + 3) lv (.ref q :: st)) : gw_G g D nL ws ce sl pc lv st :=
  fun H locs ls hP hD hS hl => va_new X.hx X.hb X.hts hin ty hty X.hown (X.hts _ hcl) (X.hts _ hinst) (X.hts _ hini) X.hK hP hD hS hA hc hfs hcells hslots d (fun q H1 hP hD hS => k q H1 locs ls hP hD hS hl)
theorem gw_newa {atype : ArrayType} {ty : FieldType} {n : Int32} {N t0 : Nat} {cA0 : ClassId} (X : gw_X g D tys cc nL own) (hA : ∀ q, (gw_s g).heap.size ≤ q → gw_A g q) (hty : newarray.typeOf atype = ty) (harr : Cond.arrayClass ty ∈ ts_TB) (ht : tys[t0]? = some (cA0, ty)) (hra : ∀ (U : State) (c : ClassId), va_RA U c ty → U.vm.findClass ("[" ++ ty.toString) = some c) (hdv : defaultValue ty = .int 0) (hn : ¬ n < 0) (hN : n.toNatClampNeg = N) (hbytes : N * componentBytes ty ≤ 536870912) (hcells : ce + 1 ≤ (gw_R g).cells) (hslots : sl + N ≤ (gw_R g).slots) (d : decode cc pc = .ok (.newarray atype, 2))
    (k : ∀ q : Nat, gw_G g D nL (ws ++ [(q, .inl (cA0, N, .inl (fun _ => 0)))]) (ce + 1) (sl + N) (pc + 2) lv (.ref q :: st)) : gw_G g D nL ws ce sl pc lv (.int n :: st) := by
  intro H locs ls hP hD hS hl
  subst hty
  refine va_newa X.hx X.hb (X.hts _ harr) rfl X.hK hP hD hS hA (a0 := (N, .inl (fun _ => 0))) (fun cA => by rw [hdv]; rfl) hn hN hbytes hcells hslots d (fun q cA H1 hK1 hP1 hD1 hS1 => ?_)
  have e1 := (hK1.2 tys.length (cA, newarray.typeOf atype) (by simp)).2
  have e2 := (X.hK.2 t0 _ ht).2
  have e : cA = cA0 := Option.some.inj ((hra _ _ e1).symm.trans (hra _ _ e2))
  subst e
  exact k q H1 locs ls hP1 hD1 hS1 hl
theorem gw_newq {n : Int32} {N t0 : Nat} {cA0 : ClassId} (X : gw_X g D tys cc nL own) (hA : ∀ q, (gw_s g).heap.size ≤ q → gw_A g q) (hcl : Cond.classLink own index "TowerService$Tower" ∈ ts_TB) (ht : tys[t0]? = some (cA0, .object "TowerService$Tower")) (hn : ¬ n < 0) (hN : n.toNatClampNeg = N) (hbytes : N * 4 ≤ 536870912) (hcells : ce + 1 ≤ (gw_R g).cells) (hslots : sl + N ≤ (gw_R g).slots) (d : decode cc pc = .ok (.anewarray index, 3))
    (k : ∀ q : Nat, gw_G g D nL (ws ++ [(q, .inl (cA0, N, .inr (.inr (.inr (.inr (fun _ => none))))))]) (ce + 1) (sl + N) (pc + 3) lv (.ref q :: st)) : gw_G g D nL ws ce sl pc lv (.int n :: st) := by
  intro H locs ls hP hD hS hl
  refine va_newq X.hx X.hb X.hown (X.hts _ hcl) X.hO X.hK hP hD hS hA hn hN hbytes hcells hslots d (fun q cA H1 hK1 hP1 hD1 hS1 => ?_)
  obtain ⟨-, -, -, -, -, e1⟩ := (hK1.2 tys.length (cA, .object "TowerService$Tower") (by simp)).2
  obtain ⟨-, -, -, -, -, e2⟩ := (X.hK.2 t0 _ ht).2
  have e : cA = cA0 := Option.some.inj (e1.symm.trans e2)
  subst e
  exact k q H1 locs ls hP1 hD1 hS1 hl
theorem gw_astq {a v i0 : Nat} {i : Int32} {n t0 ci qk : Nat} {cA : ClassId} {r : vw_C} {vs : List Value} {f : Nat → Option Nat} (X : gw_X g D tys cc nL own) (hv : ((a, .inl (cA, n, .inr (.inr (.inr (.inr f))))) :: wr)[qk]? = some (v, .inr (ci, vs))) (hc : vwCl[ci]? = some r) (ht : tys[t0]? = some (cA, .object r.1)) (hi : i.toNatClampNeg = i0) (hin : vp_in i n) (d : decode cc pc = .ok (.aastore, 1))
    (k : gw_G g D nL ((a, .inl (cA, n, .inr (.inr (.inr (.inr (va_up f i0 (some v))))))) :: wr) ce sl (pc + 1) lv st) : gw_G g D nL ((a, .inl (cA, n, .inr (.inr (.inr (.inr f))))) :: wr) ce sl pc lv (.ref v :: .int i :: .ref a :: st) := by
  intro H locs ls hP hD hS hl
  subst hi
  exact va_astq X.hx X.hb X.hK hP hD hS 0 t0 qk ci rfl ht hv hc hin d (fun H1 locs1 hP1 hD1 hS1 => k H1 locs1 ls hP1 hD1 hS1 hl)
theorem gw_alen {a t0 : Nat} {cA : ClassId} {x : vp_A} {ty : FieldType} {v : Int32} (X : gw_X g D tys cc nL own) (ht : tys[t0]? = some (cA, ty)) (hv : Int32.ofNat x.1 = v) (d : decode cc pc = .ok (.arraylength, 1)) (k : gw_G g D nL ((a, .inl (cA, x)) :: wr) ce sl (pc + 1) lv (.int v :: st)) : gw_G g D nL ((a, .inl (cA, x)) :: wr) ce sl pc lv (.ref a :: st) :=
  fun H locs ls hP hD hS hl => va_alen X.hx X.hb X.hK hP 0 t0 rfl ht hv d (k H locs ls hP hD hS hl)
theorem gw_putF {a ci N : Nat} {C : String} {T : u_T} {fs fs' : List Value} {ty0 : Nat → FieldType} {ty : FieldType} {v : Value} (X : gw_X g D tys cc nL own) (hin2 : g.2.2.2.2.2.2.2.2.1.name = "<init>") (hin : ∀ w ∈ u_ws C T N, w ∈ ts_TB) (hty : ∀ k, k < N → parseFieldDescriptor (T k).2.2.1 = some (ty0 k)) (hnm : ∀ a, a < N → ∀ b, b < N → a ≠ b → (T a).2.1 ≠ (T b).2.1) (hc : vwCl[ci]? = some (C, T, N)) (k0 : Nat) (hk : k0 < N) (hlink : Cond.fieldLink own index (T k0).1 (T k0).2.1 (T k0).2.2.1 ∈ ts_TB) (hfin : (T k0).2.2.2 = true) (hdecl : (T k0).1 = own) (hd : parseFieldDescriptor (T k0).2.2.1 = some ty) (hn : narrow ty v = v) (hfit : fits ty v = true) (hl0 : k0 < fs.length) (hfs : fs.set k0 v = fs') (d : decode cc pc = .ok (.putfield index, 3))
    (k : gw_G g D nL ((a, .inr (ci, fs')) :: wr) ce sl (pc + 3) lv st) : gw_G g D nL ((a, .inr (ci, fs)) :: wr) ce sl pc lv (v :: .ref a :: st) := by
  intro H locs ls hP hD hS hl
  subst hfs
  exact va_putF X.hx X.hb X.hts hin ty0 hty hnm X.hown X.hK hP hD hS 0 rfl hc k0 hk (X.hts _ hlink) (fun _ h => h) hfin hin2 hdecl hd hn hfit hl0 d (fun H1 locs1 hP1 hD1 hS1 => k H1 locs1 ls hP1 hD1 hS1 hl)
theorem gw_put {a ci N : Nat} {C : String} {T : u_T} {fs fs' : List Value} {ty0 : Nat → FieldType} {ty : FieldType} {v : Value} (X : gw_X g D tys cc nL own) (hin : ∀ w ∈ u_ws C T N, w ∈ ts_TB) (hty : ∀ k, k < N → parseFieldDescriptor (T k).2.2.1 = some (ty0 k)) (hnm : ∀ a, a < N → ∀ b, b < N → a ≠ b → (T a).2.1 ≠ (T b).2.1) (hc : vwCl[ci]? = some (C, T, N)) (k0 : Nat) (hk : k0 < N) (hlink : Cond.fieldLink own index (T k0).1 (T k0).2.1 (T k0).2.2.1 ∈ ts_TB) (hfin : (T k0).2.2.2 = false) (hd : parseFieldDescriptor (T k0).2.2.1 = some ty) (hn : narrow ty v = v) (hfit : fits ty v = true) (hl0 : k0 < fs.length) (hfs : fs.set k0 v = fs') (d : decode cc pc = .ok (.putfield index, 3))
    (k : gw_G g D nL ((a, .inr (ci, fs')) :: wr) ce sl (pc + 3) lv st) : gw_G g D nL ((a, .inr (ci, fs)) :: wr) ce sl pc lv (v :: .ref a :: st) := by
  intro H locs ls hP hD hS hl
  subst hfs
  exact va_put X.hx X.hb X.hts hin ty0 hty hnm X.hown X.hK hP hD hS 0 rfl hc k0 hk (X.hts _ hlink) (fun _ h => h) hfin hd hn hfit hl0 d (fun H1 locs1 hP1 hD1 hS1 => k H1 locs1 ls hP1 hD1 hS1 hl)
theorem gw_get {a q0 ci N : Nat} {C : String} {T : u_T} {fs : List Value} {v : Value} (X : gw_X g D tys cc nL own) (hin : ∀ w ∈ u_ws C T N, w ∈ ts_TB) (he : ws[q0]? = some (a, .inr (ci, fs))) (hc : vwCl[ci]? = some (C, T, N)) (k0 : Nat) (hk : k0 < N) (hlink : Cond.fieldLink own index (T k0).1 (T k0).2.1 (T k0).2.2.1 ∈ ts_TB) (hv : fs[k0]? = some v) (d : decode cc pc = .ok (.getfield index, 3))
    (k : gw_G g D nL ws ce sl (pc + 3) lv (v :: st)) : gw_G g D nL ws ce sl pc lv (.ref a :: st) :=
  fun H locs ls hP hD hS hl => va_get X.hx X.hb X.hts hin X.hown X.hK hP q0 he hc k0 hk (X.hts _ hlink) (fun _ h => h) hv d (k H locs ls hP hD hS hl)
theorem gw_oinit {a : Nat} (X : gw_X g D tys cc nL own) (h1 : Cond.methodLink own index objectInit ∈ ts_TB) (h2 : Cond.instanceMethod objectInit ∈ ts_TB) (h3 : Cond.code objectInit ⟨#[0xb1]⟩ 1 none ∈ ts_TB) (hf : 1 ≤ (gw_R g).frames) (hlo : 20 ≤ (gw_R g).locals) (hw : (st.map fun v => v.category).sum ≤ 8) (d : decode cc pc = .ok (.invokespecial index, 3)) (k : gw_G g D nL ws ce sl (pc + 3) lv st) : gw_G g D nL ws ce sl pc lv (.ref a :: st) :=
  fun H locs ls hP hD hS hl => W.objInit X.hx X.hb X.hown (X.hts _ h1) (X.hts _ h2) (X.hts _ h3) rfl (by rw [X.hml]; exact hl.1) rfl d hf (by show 2 * 0 + _ + 12 ≤ _; omega) (W.eq rfl (k H locs ls hP hD hS hl))
/-- a call of a constructor -/
theorem gw_callI {R' : Room} {b : Nat} {post : va_W → Prop} (X : gw_X g D tys cc nL own) (hA : ∀ q, (gw_s g).heap.size ≤ q → gw_A g q) (hM : gw_Mv g.2.1 y (Cond.code y cy ny none) R' D tys (.ref b :: As) wc post) (ho : ts_ok y na) (hnm : y.name = "<init>") (h1 : Cond.methodLink own index y ∈ ts_TB) (h2 : Cond.initialized y.cls ∈ ts_TB) (h3 : Cond.code y cy ny none ∈ ts_TB) (h4 : Cond.instanceMethod y ∈ ts_TB) (hR1 : R'.frames + 1 ≤ (gw_R g).frames) (hR2 : 8 + (ny + 11) + R'.locals ≤ (gw_R g).locals) (hce : ce + R'.cells ≤ (gw_R g).cells) (hsl : sl + R'.slots ≤ (gw_R g).slots) (hna : As.length = na) (hst : st0 = As.reverse ++ .ref b :: st) (hw : (st.map fun v => v.category).sum ≤ 8) (d : decode cc pc = .ok (.invokespecial index, 3))
    (kk : ∀ w1 : va_W, post w1 → gw_G g D nL (wr ++ w1) (ce + R'.cells) (sl + R'.slots) (pc + 3) lv st) : gw_G g D nL (wr ++ wc) ce sl pc lv st0 := by
  intro H locs ls hP hD hS hl
  subst hst
  have hPc : va_P D vwCl wc H := va_P_mem.mpr fun q hq => va_P_mem.mp hP q (List.mem_append_right _ hq)
  obtain ⟨N0, A0⟩ := va_D_mem.mp hD
  rw [List.map_append, List.nodup_append] at N0
  have hDc : va_D (fun _ => True) wc := va_D_mem.mpr ⟨N0.2.1, fun _ _ => trivial⟩
  have hF : ∀ q, va_A wc H.size q → gw_A g q := by
    rintro q (⟨k, e, h⟩ | h)
    · exact A0 (q, e) (List.mem_append_right _ (List.mem_of_getElem? h))
    · exact hA q (Nat.le_trans hS.1 h)
  refine va_callv (va_runI (As := As) (rest := st) (n := na) (bytes := cy) (maxL := ny) (Ts := ts_TB) (nL := nL) ⟨X.hx, X.hb, X.hml, X.hown, X.hts⟩ (hM H.size) ⟨callB_of na X.hts (ts_goodIn' h3) rfl rfl rfl (X.hts _ h2) (X.hts _ h1) ho ⟨hR1, hR2⟩, hnm, X.hts _ h4⟩ ⟨gw_At.blind, fun U hU hW => ⟨rfl, by rw [hU], X.at hU hW hPc, hDc⟩⟩ rfl hna hl.1 rfl (lv_room hw) d ⟨hce, hsl⟩) hS (fun q _ h => hF q h) hF (fun u t H1 locs1 ht hvm hpost hB hz1 hk1 hS1 => ?_)
  obtain ⟨hP2, hD2⟩ := gw_join hP hD (B := va_A wc H.size) (fun q hq z => by
    rcases z with ⟨k, e, h⟩ | h
    · exact ⟨e, List.mem_of_getElem? h⟩
    · omega) hk1 hF (by rw [← ht]; exact hB.1.1) hB.2
  exact kk u hpost H1 locs1 ls hP2 hD2 hS1 hl
theorem gw_callIN {R' : Room} {b : Nat} {host : String} {post : va_W → Prop} (X : gw_X g D tys cc nL own) (hA : ∀ q, (gw_s g).heap.size ≤ q → gw_A g q) (hM : gw_Mv g.2.1 y (Cond.code y cy ny none) R' D tys (.ref b :: As) wc post) (ho : ts_ok y na) (hnm : y.name = "<init>") (h1 : Cond.methodLinkNest own index y host ∈ ts_NW) (h2 : Cond.initialized y.cls ∈ ts_TB) (h3 : Cond.code y cy ny none ∈ ts_TB) (h4 : Cond.instanceMethod y ∈ ts_TB) (hR1 : R'.frames + 1 ≤ (gw_R g).frames) (hR2 : 8 + (ny + 11) + R'.locals ≤ (gw_R g).locals) (hce : ce + R'.cells ≤ (gw_R g).cells) (hsl : sl + R'.slots ≤ (gw_R g).slots) (hna : As.length = na) (hst : st0 = As.reverse ++ .ref b :: st) (hw : (st.map fun v => v.category).sum ≤ 8) (d : decode cc pc = .ok (.invokespecial index, 3))
    (kk : ∀ w1 : va_W, post w1 → gw_G g D nL (wr ++ w1) (ce + R'.cells) (sl + R'.slots) (pc + 3) lv st) : gw_G g D nL (wr ++ wc) ce sl pc lv st0 := by
  intro H locs ls hP hD hS hl
  subst hst
  have hPc : va_P D vwCl wc H := va_P_mem.mpr fun q hq => va_P_mem.mp hP q (List.mem_append_right _ hq)
  obtain ⟨N0, A0⟩ := va_D_mem.mp hD
  rw [List.map_append, List.nodup_append] at N0
  have hDc : va_D (fun _ => True) wc := va_D_mem.mpr ⟨N0.2.1, fun _ _ => trivial⟩
  have hF : ∀ q, va_A wc H.size q → gw_A g q := by
    rintro q (⟨k, e, h⟩ | h)
    · exact A0 (q, e) (List.mem_append_right _ (List.mem_of_getElem? h))
    · exact hA q (Nat.le_trans hS.1 h)
  refine va_callv (va_runIN (As := As) (rest := st) (n := na) (bytes := cy) (maxL := ny) (host := host) (Ts := ts_TB) (nL := nL) ⟨X.hx, X.hb, X.hml, X.hown, X.hts⟩ (hM H.size) ⟨va_cnB na X.hts (ts_goodIn' h3) rfl rfl rfl (X.hN _ h1) (X.hts _ h2) ho ⟨hR1, hR2⟩, hnm, X.hts _ h4⟩ ⟨gw_At.blind, fun U hU hW => ⟨rfl, by rw [hU], X.at hU hW hPc, hDc⟩⟩ rfl hna hl.1 rfl (lv_room hw) d ⟨hce, hsl⟩) hS (fun q _ h => hF q h) hF (fun u t H1 locs1 ht hvm hpost hB hz1 hk1 hS1 => ?_)
  obtain ⟨hP2, hD2⟩ := gw_join hP hD (B := va_A wc H.size) (fun q hq z => by
    rcases z with ⟨k, e, h⟩ | h
    · exact ⟨e, List.mem_of_getElem? h⟩
    · omega) hk1 hF (by rw [← ht]; exact hB.1.1) hB.2
  exact kk u hpost H1 locs1 ls hP2 hD2 hS1 hl
/-- static calls that answer a cell, and make their own -/
theorem gw_callSr {R' : Room} {pr : va_W → Nat → Prop} (X : gw_X g D tys cc nL own) (hA : ∀ q, (gw_s g).heap.size ≤ q → gw_A g q) (hM : gw_Mr g.2.1 y (Cond.code y cy ny ry) R' D tys As [] pr) (ho : ts_ok y na) (h1 : Cond.methodLink own index y ∈ ts_TB) (h2 : Cond.initialized y.cls ∈ ts_TB) (h3 : Cond.code y cy ny ry ∈ ts_TB) (h4 : Cond.static y ∈ ts_TB) (hR1 : R'.frames + 1 ≤ (gw_R g).frames) (hR2 : 8 + (ny + 11) + R'.locals ≤ (gw_R g).locals) (hce : ce + R'.cells ≤ (gw_R g).cells) (hsl : sl + R'.slots ≤ (gw_R g).slots) (hna : As.length = na) (hst : st0 = As.reverse ++ st) (hw : (st.map fun v => v.category).sum ≤ 8) (d : decode cc pc = .ok (.invokestatic index, 3))
    (kk : ∀ (w1 : va_W) (a : Nat), pr w1 a → gw_G g D nL (wr ++ w1) (ce + R'.cells) (sl + R'.slots) (pc + 3) lv (.ref a :: st)) : gw_G g D nL wr ce sl pc lv st0 := by
  intro H locs ls hP hD hS hl
  subst hst
  have hF : ∀ q, va_A [] H.size q → gw_A g q := by
    rintro q (⟨k, e, h⟩ | h)
    · simp at h
    · exact hA q (Nat.le_trans hS.1 h)
  refine va_callr (va_runS (As := As) (rest := st) (n := na) (bytes := cy) (maxL := ny) (ret := ry) (Ts := ts_TB) (nL := nL) ⟨X.hx, X.hb, X.hml, X.hown, X.hts⟩ (hM H.size) ⟨callB_of na X.hts (ts_goodIn' h3) rfl rfl rfl (X.hts _ h2) (X.hts _ h1) ho ⟨hR1, hR2⟩, X.hts _ h4⟩ ⟨gw_At.blind, fun U hU hW => ⟨rfl, by rw [hU], X.at hU hW (fun k q h => by simp at h), ⟨fun i j p q h => by simp at h, fun k q h => by simp at h⟩⟩⟩ rfl hna hl.1 rfl (lv_room hw) d ⟨hce, hsl⟩) hS (fun q _ h => hF q h) hF (fun u a t H1 locs1 ht hvm hpost hB hz1 hk1 hS1 => ?_)
  obtain ⟨hP2, hD2⟩ := gw_join (wr := wr) (wc := []) (by rw [List.append_nil]; exact hP) (by rw [List.append_nil]; exact hD) (B := va_A [] H.size) (fun q hq z => by
    rcases z with ⟨k, e, h⟩ | h
    · simp at h
    · omega) hk1 hF (by rw [← ht]; exact hB.1.1) hB.2.1
  exact kk u a hB.2.2 H1 locs1 ls hP2 hD2 hS1 hl
theorem gw_callSNr {R' : Room} {host : String} {pr : va_W → Nat → Prop} (X : gw_X g D tys cc nL own) (hA : ∀ q, (gw_s g).heap.size ≤ q → gw_A g q) (hM : gw_Mr g.2.1 y (Cond.code y cy ny ry) R' D tys As [] pr) (ho : ts_ok y na) (h1 : Cond.methodLinkNest own index y host ∈ ts_NW) (h2 : Cond.initialized y.cls ∈ ts_TB) (h3 : Cond.code y cy ny ry ∈ ts_TB) (h4 : Cond.static y ∈ ts_TB) (hR1 : R'.frames + 1 ≤ (gw_R g).frames) (hR2 : 8 + (ny + 11) + R'.locals ≤ (gw_R g).locals) (hce : ce + R'.cells ≤ (gw_R g).cells) (hsl : sl + R'.slots ≤ (gw_R g).slots) (hna : As.length = na) (hst : st0 = As.reverse ++ st) (hw : (st.map fun v => v.category).sum ≤ 8) (d : decode cc pc = .ok (.invokestatic index, 3))
    (kk : ∀ (w1 : va_W) (a : Nat), pr w1 a → gw_G g D nL (wr ++ w1) (ce + R'.cells) (sl + R'.slots) (pc + 3) lv (.ref a :: st)) : gw_G g D nL wr ce sl pc lv st0 := by
  intro H locs ls hP hD hS hl
  subst hst
  have hF : ∀ q, va_A [] H.size q → gw_A g q := by
    rintro q (⟨k, e, h⟩ | h)
    · simp at h
    · exact hA q (Nat.le_trans hS.1 h)
  refine va_callr (va_runSN (As := As) (rest := st) (n := na) (bytes := cy) (maxL := ny) (ret := ry) (host := host) (Ts := ts_TB) (nL := nL) ⟨X.hx, X.hb, X.hml, X.hown, X.hts⟩ (hM H.size) ⟨va_cnB na X.hts (ts_goodIn' h3) rfl rfl rfl (X.hN _ h1) (X.hts _ h2) ho ⟨hR1, hR2⟩, X.hts _ h4, trivial⟩ ⟨gw_At.blind, fun U hU hW => ⟨rfl, by rw [hU], X.at hU hW (fun k q h => by simp at h), ⟨fun i j p q h => by simp at h, fun k q h => by simp at h⟩⟩⟩ rfl hna hl.1 rfl (lv_room hw) d ⟨hce, hsl⟩) hS (fun q _ h => hF q h) hF (fun u a t H1 locs1 ht hvm hpost hB hz1 hk1 hS1 => ?_)
  obtain ⟨hP2, hD2⟩ := gw_join (wr := wr) (wc := []) (by rw [List.append_nil]; exact hP) (by rw [List.append_nil]; exact hD) (B := va_A [] H.size) (fun q hq z => by
    rcases z with ⟨k, e, h⟩ | h
    · simp at h
    · omega) hk1 hF (by rw [← ht]; exact hB.1.1) hB.2.1
  exact kk u a hB.2.2 H1 locs1 ls hP2 hD2 hS1 hl
/-- calls of what is written over the store -/
theorem gw_sD {w : ts_Wd} {σ : ts_S} {A : Nat → Prop} (h : va_D A (wr ++ ts_wd w σ)) : (∀ q, ts_wA w q → A q) ∧ ts_inj w.2.2.1 w.2.2.2.2 := by
  obtain ⟨N0, A0⟩ := va_D_mem.mp h
  rw [List.map_append, List.nodup_append] at N0
  refine ⟨?_, ?_⟩
  · rintro q ⟨k, hk, rfl⟩
    exact A0 (w.2.2.2.2 k, w.2.2.2.1 k (σ k)) (List.mem_append_right _ (List.mem_of_getElem? (ts_w_get hk)))
  · have hD : va_D (fun _ => True) (ts_wd w σ) := va_D_mem.mpr ⟨N0.2.1, fun _ _ => trivial⟩
    intro i j hi hj e
    exact hD.1 i j _ _ (ts_w_get hi) (ts_w_get hj) e
theorem gw_callVi {w : ts_Wd} {σ : ts_S} {n : Nat} {K : Int32 → ts_S → Prop} {k ci : Nat} {fs : List Value} {q : vw_C} (X : gw_X g D tys cc nL own) (hwD : w.1 = D) (hwt : w.2.1 = tys) (hk : k < w.2.2.1) (hE : w.2.2.2.1 k (σ k) = .inr (ci, fs)) (hc : vwCl[ci]? = some q) (hq : q.1 = y.cls) (hM : ts_inj w.2.2.1 w.2.2.2.2 → ts_Mi g.2.1 y (Cond.code y cy ny ry) n w (.ref (w.2.2.2.2 k) :: As) σ K) (ho : ts_ok y na) (cw : ts_cV own index y (Cond.code y cy ny ry)) (hR1 : n + 1 ≤ (gw_R g).frames) (hR2 : 8 + (ny + 11) + 40 * n ≤ (gw_R g).locals) (hce : ce ≤ (gw_R g).cells) (hsl : sl ≤ (gw_R g).slots) (hna : As.length = na) (hst : st0 = As.reverse ++ .ref (w.2.2.2.2 k) :: st) (hw : (st.map fun v => v.category).sum ≤ 8) (d : decode cc pc = .ok (.invokevirtual index, 3))
    (kk : ∀ (r : Int32) (σ : ts_S), K r σ → gw_G g D nL (wr ++ ts_wd w σ) ce sl (pc + 3) lv (.int r :: st)) : gw_G g D nL (wr ++ ts_wd w σ) ce sl pc lv st0 := by
  intro H locs ls hP hD hS hl
  subst hst
  subst hwD
  subst hwt
  obtain ⟨hF, hinj⟩ := gw_sD hD
  have hPc : va_P w.1 vwCl (ts_wd w σ) H := va_P_mem.mpr fun q hq => va_P_mem.mp hP q (List.mem_append_right _ hq)
  have hrc := va_recv X.hK hPc (ci := ci) (q0 := k) (q := q) hc ((ts_w_get hk).trans (by rw [hE]))
  rw [hq] at hrc
  refine va_calli (va_runV (As := As) (rest := st) (C := y.cls) (n := na) (bytes := cy) (maxL := ny) (ret := ry) (Ts := ts_TB) (nL := nL) ⟨X.hx, X.hb, X.hml, X.hown, X.hts⟩ (hM hinj) ⟨callB_of na X.hts (ts_goodIn' cw.2.2.2.2) rfl rfl rfl (X.hts _ cw.2.2.2.1) (X.hts _ cw.1) ho ⟨hR1, hR2⟩, X.hts _ cw.2.1, X.hts _ cw.2.2.1⟩ ⟨ts_At.blind, hrc, fun U hU hW => ⟨rfl, by rw [hU]; exact hPc, va_K.moved hW.alike X.hK, ts_NW_warm hW X.hN⟩⟩ rfl hna hl.1 rfl (lv_room hw) d ⟨hce, hsl⟩) hS (fun q _ h => hF q h) hF (fun r u t H1 locs1 ht hvm hw hB hz1 hk1 hS1 => ?_)
  obtain ⟨hP2, hD2⟩ := gw_join hP hD (B := ts_wA w) (fun q hq z => by
    obtain ⟨k, hk, rfl⟩ := z
    exact ⟨_, List.mem_of_getElem? (ts_w_get hk)⟩) hk1 hF (by rw [← ht]; exact hB.1) (ts_D hinj)
  exact kk r u hw H1 locs1 ls hP2 hD2 hS1 hl
theorem gw_callVv {w : ts_Wd} {σ : ts_S} {n : Nat} {K : ts_S → Prop} {k ci : Nat} {fs : List Value} {q : vw_C} (X : gw_X g D tys cc nL own) (hwD : w.1 = D) (hwt : w.2.1 = tys) (hk : k < w.2.2.1) (hE : w.2.2.2.1 k (σ k) = .inr (ci, fs)) (hc : vwCl[ci]? = some q) (hq : q.1 = y.cls) (hM : ts_inj w.2.2.1 w.2.2.2.2 → ts_Mv g.2.1 y (Cond.code y cy ny ry) n w (.ref (w.2.2.2.2 k) :: As) σ K) (ho : ts_ok y na) (cw : ts_cV own index y (Cond.code y cy ny ry)) (hR1 : n + 1 ≤ (gw_R g).frames) (hR2 : 8 + (ny + 11) + 40 * n ≤ (gw_R g).locals) (hce : ce ≤ (gw_R g).cells) (hsl : sl ≤ (gw_R g).slots) (hna : As.length = na) (hst : st0 = As.reverse ++ .ref (w.2.2.2.2 k) :: st) (hw : (st.map fun v => v.category).sum ≤ 8) (d : decode cc pc = .ok (.invokevirtual index, 3))
    (kk : ∀ (σ : ts_S), K σ → gw_G g D nL (wr ++ ts_wd w σ) ce sl (pc + 3) lv st) : gw_G g D nL (wr ++ ts_wd w σ) ce sl pc lv st0 := by
  intro H locs ls hP hD hS hl
  subst hst
  subst hwD
  subst hwt
  obtain ⟨hF, hinj⟩ := gw_sD hD
  have hPc : va_P w.1 vwCl (ts_wd w σ) H := va_P_mem.mpr fun q hq => va_P_mem.mp hP q (List.mem_append_right _ hq)
  have hrc := va_recv X.hK hPc (ci := ci) (q0 := k) (q := q) hc ((ts_w_get hk).trans (by rw [hE]))
  rw [hq] at hrc
  refine va_callv (va_runV (As := As) (rest := st) (C := y.cls) (n := na) (bytes := cy) (maxL := ny) (ret := ry) (Ts := ts_TB) (nL := nL) ⟨X.hx, X.hb, X.hml, X.hown, X.hts⟩ (hM hinj) ⟨callB_of na X.hts (ts_goodIn' cw.2.2.2.2) rfl rfl rfl (X.hts _ cw.2.2.2.1) (X.hts _ cw.1) ho ⟨hR1, hR2⟩, X.hts _ cw.2.1, X.hts _ cw.2.2.1⟩ ⟨ts_At.blind, hrc, fun U hU hW => ⟨rfl, by rw [hU]; exact hPc, va_K.moved hW.alike X.hK, ts_NW_warm hW X.hN⟩⟩ rfl hna hl.1 rfl (lv_room hw) d ⟨hce, hsl⟩) hS (fun q _ h => hF q h) hF (fun u t H1 locs1 ht hvm hw hB hz1 hk1 hS1 => ?_)
  obtain ⟨hP2, hD2⟩ := gw_join hP hD (B := ts_wA w) (fun q hq z => by
    obtain ⟨k, hk, rfl⟩ := z
    exact ⟨_, List.mem_of_getElem? (ts_w_get hk)⟩) hk1 hF (by rw [← ht]; exact hB.1) (ts_D hinj)
  exact kk u hw H1 locs1 ls hP2 hD2 hS1 hl
/-- contracts by walks -/
theorem gw_Mv.of {l : Launch} {R : Room} {av : List Value} {wa : va_W} {post : va_W → Prop} (hy : plainName y.cls = true) (hlen : (lg_sl av).length ≤ ny) (body : ∀ g : gw_Ctx, g.2.1 = l → gw_R g = R → gw_X g D tys cy ny y.cls → g.2.2.2.2.2.2.2.2.1.name = y.name → (∀ q, (gw_s g).heap.size ≤ q → gw_A g q) → (∀ (ws : va_W) (pc : Nat) (lv : List (Nat × Value)), post ws → decode cy pc = .ok (.return_, 1) → gw_G g D ny ws R.cells R.slots pc lv []) → gw_G g D ny wa 0 0 0 (lv_args 0 av) []) : gw_Mv l y (Cond.code y cy ny none) R D tys av wa post := by
  intro sz
  refine Met.ofW (cc := cy) (maxL := ny) (ret := none) hy rfl ?_
  intro p e s m args below meth c s₁ B hml hv
  obtain ⟨rfl, hsz, hAt, hD0⟩ := hv
  rw [lg_entry_eq]
  subst hsz
  have hr := B.returns
  have hlk := B.notSynchronized
  have hnm : meth.name = y.name := (name_of_methodNamed B.named B.method).1
  have X : gw_X (p, l, e, R, s, m, av.toArray, below, meth, c, MQ below (va_Qv post (fun w1 t => gw_At D tys w1 t ∧ va_D (va_A wa s.heap.size) w1) (va_A wa s.heap.size)) av.toArray s R.cells R.slots (va_A wa s.heap.size), va_A wa s.heap.size) D tys cy ny y.cls := ⟨B.exec, B.bytes, hml, findClass_of_methodNamed B.named, fun q hq => atoms_spec (ws := Cond.code y cy ny none :: ts_TB) B.pre q (List.mem_cons_of_mem _ hq), hAt.2.1, hAt.2.2.1, hAt.2.2.2⟩
  refine body _ rfl rfl X hnm (fun q h => Or.inr h) ?_ _ [] _ hAt.1 hD0.self va_S.rf (lv_entry av hlen)
  intro ws pc lv hpost d H locs ls hP hD hS hl
  exact W.vret X.hx X.hb hr (fun t ht hW => ⟨⟨ws, rfl, hpost, X.at ht hW hP, hD⟩, hS.F ht⟩) hS.2.2 d hlk
theorem gw_Mr.of {l : Launch} {R : Room} {av : List Value} {wa : va_W} {pr : va_W → Nat → Prop} {rt : FieldType} (hrt : (∃ n, rt = .object n) ∨ ∃ t, rt = .array t) (hy : plainName y.cls = true) (hlen : (lg_sl av).length ≤ ny) (body : ∀ g : gw_Ctx, g.2.1 = l → gw_R g = R → gw_X g D tys cy ny y.cls → (∀ q, (gw_s g).heap.size ≤ q → gw_A g q) → (∀ (ws : va_W) (a pc : Nat) (lv : List (Nat × Value)), pr ws a → decode cy pc = .ok (.areturn, 1) → gw_G g D ny ws R.cells R.slots pc lv [.ref a]) → gw_G g D ny wa 0 0 0 (lv_args 0 av) []) : gw_Mr l y (Cond.code y cy ny (some rt)) R D tys av wa pr := by
  intro sz
  refine Met.ofW (cc := cy) (maxL := ny) (ret := some rt) hy rfl ?_
  intro p e s m args below meth c s₁ B hml hv
  obtain ⟨rfl, hsz, hAt, hD0⟩ := hv
  rw [lg_entry_eq]
  subst hsz
  have hr := B.returns
  have hlk := B.notSynchronized
  have X : gw_X (p, l, e, R, s, m, av.toArray, below, meth, c, MQ below (va_Qr (fun _ : va_W => True) (fun w1 a t => gw_At D tys w1 t ∧ va_D (va_A wa s.heap.size) w1 ∧ pr w1 a) (va_A wa s.heap.size)) av.toArray s R.cells R.slots (va_A wa s.heap.size), va_A wa s.heap.size) D tys cy ny y.cls := ⟨B.exec, B.bytes, hml, findClass_of_methodNamed B.named, fun q hq => atoms_spec (ws := Cond.code y cy ny (some rt) :: ts_TB) B.pre q (List.mem_cons_of_mem _ hq), hAt.2.1, hAt.2.2.1, hAt.2.2.2⟩
  refine body _ rfl rfl X (fun q h => Or.inr h) ?_ _ [] _ hAt.1 hD0.self va_S.rf (lv_entry av hlen)
  intro ws a pc lv hpost d H locs ls hP hD hS hl
  exact W.aret X.hx X.hb hr hrt (Or.inr ⟨a, rfl⟩) (fun t ht hW => ⟨⟨ws, a, rfl, trivial, X.at ht hW hP, hD, hpost⟩, hS.F ht⟩) hS.2.2 d hlk
end GRR
