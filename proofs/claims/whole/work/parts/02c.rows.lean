/-! What holds all along a walk; contracts over the store; the rows of the heap and of calls in these words -/
def ts_C (p : Program) (s : State) (m : MethodId) (args : Array Value) (meth : Method) (c : Code) (cc : ByteArray) (nL : Nat) (own : String) (D : va_G) (tys : List (ClassId × FieldType)) : Prop :=
  p.tables.exec = Jvm.exec ∧ c.code = cc ∧ c.maxLocals = nL ∧ s.vm.findClass own = some m.cls ∧ (∀ w ∈ ts_TB, w.before args s = true) ∧ va_K D vwCl tys s ∧ (∀ w ∈ ts_NW, va_Nw w s) ∧ meth.locks = false
def ts_At (D : va_G) (tys : List (ClassId × FieldType)) (N : Nat) (E : Nat → (Nat → Int32) → va_E) (ad : Nat → Nat) (σ : ts_S) (U : State) : Prop :=
  va_P D vwCl (ts_w N E ad σ) U.heap ∧ va_K D vwCl tys U ∧ ∀ w ∈ ts_NW, va_Nw w U
def ts_rm (n : Nat) : Room := { frames := n, cells := 0, slots := 0, locals := 40 * n }
def ts_Mi (l : Launch) (y : MethodName) (w0 : Cond) (n : Nat) (D : va_G) (tys : List (ClassId × FieldType)) (N : Nat) (E : Nat → (Nat → Int32) → va_E) (ad : Nat → Nat) (av : List Value) (σ : ts_S) (K : Int32 → ts_S → Prop) : Prop :=
  Met l y (w0 :: ts_TB) (ts_rm n) (va_Pc av (ts_At D tys N E ad σ)) (va_Qi K (fun u t => ts_At D tys N E ad u t) (ts_A N ad)) 0 0 (ts_A N ad)
def ts_Mv (l : Launch) (y : MethodName) (w0 : Cond) (n : Nat) (D : va_G) (tys : List (ClassId × FieldType)) (N : Nat) (E : Nat → (Nat → Int32) → va_E) (ad : Nat → Nat) (av : List Value) (σ : ts_S) (K : ts_S → Prop) : Prop :=
  Met l y (w0 :: ts_TB) (ts_rm n) (va_Pc av (ts_At D tys N E ad σ)) (va_Qv K (fun u t => ts_At D tys N E ad u t) (ts_A N ad)) 0 0 (ts_A N ad)
/-- a method's own facts for a call -/
def ts_ok (y : MethodName) (n : Nat) : Prop := y.cls ≠ "java/lang/invoke/MethodHandle" ∧ y.cls ≠ "java/lang/invoke/VarHandle" ∧ (parseMethodDescriptor y.desc).map (fun d => d.parameters.length) = some n
/-- the words of a call on an object, of a static call, of a static call in the nest -/
def ts_cV (own : String) (idx : Nat) (y : MethodName) (w0 : Cond) : Prop := Cond.methodLink own idx y ∈ ts_TB ∧ Cond.instanceMethod y ∈ ts_TB ∧ Cond.selects y.cls y y ∈ ts_TB ∧ Cond.initialized y.cls ∈ ts_TB ∧ w0 ∈ ts_TB
def ts_cS (own : String) (idx : Nat) (y : MethodName) (w0 : Cond) : Prop := Cond.methodLink own idx y ∈ ts_TB ∧ Cond.static y ∈ ts_TB ∧ Cond.initialized y.cls ∈ ts_TB ∧ w0 ∈ ts_TB
def ts_cN (own : String) (idx : Nat) (y : MethodName) (host : String) (w0 : Cond) : Prop := Cond.methodLinkNest own idx y host ∈ ts_NW ∧ Cond.static y ∈ ts_TB ∧ Cond.initialized y.cls ∈ ts_TB ∧ w0 ∈ ts_TB
theorem ts_goodIn {w0 w1 : Cond} (h : w1 ∈ ts_TB) : GoodIn (w0 :: ts_TB) (w1 :: ts_TB) := by
  intro w hw
  rcases List.mem_cons.mp hw with rfl | hw
  · exact ⟨List.mem_cons_of_mem _ h, ts_good _ h⟩
  · exact ⟨List.mem_cons_of_mem _ hw, ts_good _ hw⟩
theorem ts_goodIn' {w1 : Cond} (h : w1 ∈ ts_TB) : GoodIn ts_TB (w1 :: ts_TB) := by
  intro w hw
  rcases List.mem_cons.mp hw with rfl | hw
  · exact ⟨h, ts_good _ h⟩
  · exact ⟨hw, ts_good _ hw⟩
theorem ts_At.blind {D : va_G} {tys : List (ClassId × FieldType)} {N : Nat} {E : Nat → (Nat → Int32) → va_E} {ad : Nat → Nat} {σ : ts_S} {av : List Value} : FrameBlind (va_Pc av (ts_At D tys N E ad σ)) := by
  intro a U g mk q
  exact ⟨q.1, q.2.1, va_K.moved (u := U) (U := U.calling g mk a) (Vm.Alike.refl U.vm) q.2.2.1, ts_NW_same (s := U) (U := U.calling g mk a) rfl q.2.2.2⟩
section TSR
variable {p : Program} {l : Launch} {e : Env} {R : Room} {s : State} {m : MethodId} {args : Array Value} {below : List Frame} {meth : Method} {c : Code} {H : Heap} {locs : List Loc} {Q : State → Prop} {cells slots : Nat}
variable {cc : ByteArray} {nL : Nat} {own : String} {D : va_G} {tys : List (ClassId × FieldType)} {N : Nat} {E : Nat → (Nat → Int32) → va_E} {ad : Nat → Nat} {σ : ts_S} {pc : Nat} {ls : Array Slot} {rest : List Value}
theorem ts_C.hx (X : ts_C p s m args meth c cc nL own D tys) : p.tables.exec = Jvm.exec := X.1
theorem ts_C.hb (X : ts_C p s m args meth c cc nL own D tys) : c.code = cc := X.2.1
theorem ts_C.hml (X : ts_C p s m args meth c cc nL own D tys) : c.maxLocals = nL := X.2.2.1
theorem ts_C.hown (X : ts_C p s m args meth c cc nL own D tys) : s.vm.findClass own = some m.cls := X.2.2.2.1
theorem ts_C.hts (X : ts_C p s m args meth c cc nL own D tys) : ∀ w ∈ ts_TB, w.before args s = true := X.2.2.2.2.1
theorem ts_C.hK (X : ts_C p s m args meth c cc nL own D tys) : va_K D vwCl tys s := X.2.2.2.2.2.1
theorem ts_C.hN (X : ts_C p s m args meth c cc nL own D tys) : ∀ w ∈ ts_NW, va_Nw w s := X.2.2.2.2.2.2.1
theorem ts_C.hlk (X : ts_C p s m args meth c cc nL own D tys) : meth.locks = false := X.2.2.2.2.2.2.2
theorem ts_C.at (X : ts_C p s m args meth c cc nL own D tys) {U : State} (hU : U.heap = H) (hW : s.WarmedH U.vm) (hP : va_P D vwCl (ts_w N E ad σ) H) : ts_At D tys N E ad σ U :=
  ⟨by rw [hU]; exact hP, va_K.moved hW.alike X.hK, ts_NW_warm hW X.hN⟩
/-- getfield -/
theorem ts_get (X : ts_C p s m args meth c cc nL own D tys) (hP : va_P D vwCl (ts_w N E ad σ) H) {k ci n : Nat} {fs : List Value} {C ref : String} {T : u_T} {index : Nat} (hk : k < N) (hE : E k (σ k) = .inr (ci, fs)) (hc : vwCl[ci]? = some (C, T, n)) (hin : ∀ w ∈ u_ws C T n, w ∈ ts_TB) (j : Nat) (hj : j < n) (hl : Cond.fieldLink own index ref (T j).2.1 (T j).2.2.1 ∈ ts_TB) (href : (T j).1 = ref) {v : Value} (hv : fs[j]? = some v) (hdg : decode cc pc = .ok (.getfield index, 3))
    (kk : W p l e R s m args below meth c H locs cells slots Q (F0 m (pc + 3) ls (v :: rest))) : W p l e R s m args below meth c H locs cells slots Q (F0 m pc ls (.ref (ad k) :: rest)) :=
  va_get X.hx X.hb X.hts hin X.hown X.hK hP k ((ts_w_get hk).trans (by rw [hE])) hc j hj (X.hts _ hl) (fun x h => by rw [← href]; exact h) hv hdg kk
/-- putfield of a number -/
theorem ts_put (X : ts_C p s m args meth c cc nL own D tys) (hi : ts_inj N ad) (hP : va_P D vwCl (ts_w N E ad σ) H) (hS : va_S (ts_A N ad) s.heap H locs) {k ci n : Nat} {fs : List Value} {C ref : String} {T : u_T} {index : Nat} (hk : k < N) {x : Int32} (hE : E k (σ k) = .inr (ci, fs)) (hc : vwCl[ci]? = some (C, T, n)) (hin : ∀ w ∈ u_ws C T n, w ∈ ts_TB) (ty : Nat → FieldType) (hty : ∀ j, j < n → parseFieldDescriptor (T j).2.2.1 = some (ty j)) (hnm : ∀ a, a < n → ∀ b, b < n → a ≠ b → (T a).2.1 ≠ (T b).2.1) (j : Nat) (hj : j < n) (hl : Cond.fieldLink own index ref (T j).2.1 (T j).2.2.1 ∈ ts_TB) (href : (T j).1 = ref) (hfin : (T j).2.2.2 = false) (hd : parseFieldDescriptor (T j).2.2.1 = some .int) (hlen : j < fs.length) (hE2 : E k (upd (σ k) j x) = .inr (ci, fs.set j (.int x))) (hdg : decode cc pc = .ok (.putfield index, 3))
    (kk : ∀ (H : Heap) (locs : List Loc), va_P D vwCl (ts_w N E ad (ts_u σ k j x)) H → va_S (ts_A N ad) s.heap H locs → W p l e R s m args below meth c H locs cells slots Q (F0 m (pc + 3) ls rest)) : W p l e R s m args below meth c H locs cells slots Q (F0 m pc ls (.int x :: .ref (ad k) :: rest)) := by
  refine va_put X.hx X.hb X.hts hin ty hty hnm X.hown X.hK hP (ts_D hi) hS k ((ts_w_get hk).trans (by rw [hE])) hc j hj (X.hts _ hl) (fun x h => by rw [← href]; exact h) hfin hd (vp_nar_int x) rfl hlen hdg (fun H1 locs1 hP1 hD1 hS1 => ?_)
  rw [← hE2, ts_w_set] at hP1
  exact kk H1 locs1 hP1 hS1
/-- arrays of numbers -/
theorem ts_iald (X : ts_C p s m args meth c cc nL own D tys) (hP : va_P D vwCl (ts_w N E ad σ) H) {k n t0 : Nat} {cA : ClassId} (hk : k < N) (hE : ∀ f, E k f = .inl (cA, n, .inl f)) (ht : tys[t0]? = some (cA, .int)) {i : Int32} (hin : vp_in i n) (hdg : decode cc pc = .ok (.iaload, 1))
    (kk : W p l e R s m args below meth c H locs cells slots Q (F0 m (pc + 1) ls (.int (σ k i.toNatClampNeg) :: rest))) : W p l e R s m args below meth c H locs cells slots Q (F0 m pc ls (.int i :: .ref (ad k) :: rest)) :=
  va_iald X.hx X.hb X.hK hP k t0 ((ts_w_get hk).trans (by rw [hE])) ht hin hdg kk
theorem ts_zald (X : ts_C p s m args meth c cc nL own D tys) (hP : va_P D vwCl (ts_w N E ad σ) H) {k n t0 : Nat} {cA : ClassId} (hk : k < N) (hE : ∀ f, E k f = .inl (cA, n, .inl f)) (ht : tys[t0]? = some (cA, .boolean)) {i : Int32} (hin : vp_in i n) (hdg : decode cc pc = .ok (.baload, 1))
    (kk : W p l e R s m args below meth c H locs cells slots Q (F0 m (pc + 1) ls (.int (σ k i.toNatClampNeg) :: rest))) : W p l e R s m args below meth c H locs cells slots Q (F0 m pc ls (.int i :: .ref (ad k) :: rest)) :=
  va_zald X.hx X.hb X.hK hP k t0 ((ts_w_get hk).trans (by rw [hE])) ht hin hdg kk
theorem ts_cald (X : ts_C p s m args meth c cc nL own D tys) (hP : va_P D vwCl (ts_w N E ad σ) H) {k n t0 : Nat} {cA : ClassId} (hk : k < N) (hE : ∀ f, E k f = .inl (cA, n, .inl f)) (ht : tys[t0]? = some (cA, .char)) {i : Int32} (hin : vp_in i n) (hdg : decode cc pc = .ok (.caload, 1))
    (kk : W p l e R s m args below meth c H locs cells slots Q (F0 m (pc + 1) ls (.int (σ k i.toNatClampNeg) :: rest))) : W p l e R s m args below meth c H locs cells slots Q (F0 m pc ls (.int i :: .ref (ad k) :: rest)) :=
  va_cald X.hx X.hb X.hK hP k t0 ((ts_w_get hk).trans (by rw [hE])) ht hin hdg kk
theorem ts_aald (X : ts_C p s m args meth c cc nL own D tys) (hP : va_P D vwCl (ts_w N E ad σ) H) {k n t0 a : Nat} {cA : ClassId} {C : String} {g : Nat → Option Nat} (hk : k < N) (hE : ∀ f, E k f = .inl (cA, n, .inr (.inr (.inr (.inr g))))) (ht : tys[t0]? = some (cA, .object C)) {i : Int32} (hin : vp_in i n) (hg : g i.toNatClampNeg = some a) (hdg : decode cc pc = .ok (.aaload, 1))
    (kk : W p l e R s m args below meth c H locs cells slots Q (F0 m (pc + 1) ls (.ref a :: rest))) : W p l e R s m args below meth c H locs cells slots Q (F0 m pc ls (.int i :: .ref (ad k) :: rest)) :=
  va_aldq X.hx X.hb X.hK hP k t0 ((ts_w_get hk).trans (by rw [hE])) ht hin hdg (by rw [hg]; exact kk)
theorem ts_iast (X : ts_C p s m args meth c cc nL own D tys) (hi : ts_inj N ad) (hP : va_P D vwCl (ts_w N E ad σ) H) (hS : va_S (ts_A N ad) s.heap H locs) {k n t0 : Nat} {cA : ClassId} (hk : k < N) (hE : ∀ f, E k f = .inl (cA, n, .inl f)) (ht : tys[t0]? = some (cA, .int)) {i x : Int32} (hin : vp_in i n) (hdg : decode cc pc = .ok (.iastore, 1))
    (kk : ∀ (H : Heap) (locs : List Loc), va_P D vwCl (ts_w N E ad (ts_u σ k i.toNatClampNeg x)) H → va_S (ts_A N ad) s.heap H locs → W p l e R s m args below meth c H locs cells slots Q (F0 m (pc + 1) ls rest)) : W p l e R s m args below meth c H locs cells slots Q (F0 m pc ls (.int x :: .int i :: .ref (ad k) :: rest)) := by
  refine va_iast X.hx X.hb X.hK hP (ts_D hi) hS k t0 ((ts_w_get hk).trans (by rw [hE])) ht hin hdg (fun H1 locs1 hP1 hD1 hS1 => ?_)
  rw [← hE, ts_w_set] at hP1
  exact kk H1 locs1 hP1 hS1
theorem ts_zast (X : ts_C p s m args meth c cc nL own D tys) (hi : ts_inj N ad) (hP : va_P D vwCl (ts_w N E ad σ) H) (hS : va_S (ts_A N ad) s.heap H locs) {k n t0 : Nat} {cA : ClassId} (hk : k < N) (hE : ∀ f, E k f = .inl (cA, n, .inl f)) (ht : tys[t0]? = some (cA, .boolean)) {i x : Int32} (hin : vp_in i n) (hdg : decode cc pc = .ok (.bastore, 1))
    (kk : ∀ (H : Heap) (locs : List Loc), va_P D vwCl (ts_w N E ad (ts_u σ k i.toNatClampNeg (vp_nar .boolean x))) H → va_S (ts_A N ad) s.heap H locs → W p l e R s m args below meth c H locs cells slots Q (F0 m (pc + 1) ls rest)) : W p l e R s m args below meth c H locs cells slots Q (F0 m pc ls (.int x :: .int i :: .ref (ad k) :: rest)) := by
  refine va_zast X.hx X.hb X.hK hP (ts_D hi) hS k t0 ((ts_w_get hk).trans (by rw [hE])) ht hin hdg (fun H1 locs1 hP1 hD1 hS1 => ?_)
  rw [← hE, ts_w_set] at hP1
  exact kk H1 locs1 hP1 hS1
theorem ts_cast (X : ts_C p s m args meth c cc nL own D tys) (hi : ts_inj N ad) (hP : va_P D vwCl (ts_w N E ad σ) H) (hS : va_S (ts_A N ad) s.heap H locs) {k n t0 : Nat} {cA : ClassId} (hk : k < N) (hE : ∀ f, E k f = .inl (cA, n, .inl f)) (ht : tys[t0]? = some (cA, .char)) {i x : Int32} (hin : vp_in i n) (hdg : decode cc pc = .ok (.castore, 1))
    (kk : ∀ (H : Heap) (locs : List Loc), va_P D vwCl (ts_w N E ad (ts_u σ k i.toNatClampNeg (vp_nar .char x))) H → va_S (ts_A N ad) s.heap H locs → W p l e R s m args below meth c H locs cells slots Q (F0 m (pc + 1) ls rest)) : W p l e R s m args below meth c H locs cells slots Q (F0 m pc ls (.int x :: .int i :: .ref (ad k) :: rest)) := by
  refine va_cast X.hx X.hb X.hK hP (ts_D hi) hS k t0 ((ts_w_get hk).trans (by rw [hE])) ht hin hdg (fun H1 locs1 hP1 hD1 hS1 => ?_)
  rw [← hE, ts_w_set] at hP1
  exact kk H1 locs1 hP1 hS1
/-- answers -/
theorem ts_iret {K : Int32 → ts_S → Prop} (X : ts_C p s m args meth c cc nL own D tys) (hr : meth.sig.returnType = some .int) (hP : va_P D vwCl (ts_w N E ad σ) H) (hS : va_S (ts_A N ad) s.heap H locs) {v : Int32} (hK : K v σ) (hdg : decode cc pc = .ok (.ireturn, 1)) : W p l e R s m args below meth c H locs cells slots (MQ below (va_Qi K (fun u t => ts_At D tys N E ad u t) (ts_A N ad)) args s cells slots (ts_A N ad)) (F0 m pc ls [.int v]) :=
  W.iret X.hx X.hb hr (fun t ht hW => ⟨⟨v, σ, rfl, hK, X.at ht hW hP⟩, hS.F ht⟩) hS.2.2 hdg X.hlk
theorem ts_zret {K : Int32 → ts_S → Prop} (X : ts_C p s m args meth c cc nL own D tys) (hr : meth.sig.returnType = some .boolean) (hP : va_P D vwCl (ts_w N E ad σ) H) (hS : va_S (ts_A N ad) s.heap H locs) {v : Int32} (hn : narrow .boolean (.int v) = .int v) (hK : K v σ) (hdg : decode cc pc = .ok (.ireturn, 1)) : W p l e R s m args below meth c H locs cells slots (MQ below (va_Qi K (fun u t => ts_At D tys N E ad u t) (ts_A N ad)) args s cells slots (ts_A N ad)) (F0 m pc ls [.int v]) :=
  W.zret X.hx X.hb hr hn (fun t ht hW => ⟨⟨v, σ, rfl, hK, X.at ht hW hP⟩, hS.F ht⟩) hS.2.2 hdg X.hlk
theorem ts_vret {K : ts_S → Prop} (X : ts_C p s m args meth c cc nL own D tys) (hr : meth.sig.returnType = none) (hP : va_P D vwCl (ts_w N E ad σ) H) (hS : va_S (ts_A N ad) s.heap H locs) (hK : K σ) (hdg : decode cc pc = .ok (.return_, 1)) : W p l e R s m args below meth c H locs cells slots (MQ below (va_Qv K (fun u t => ts_At D tys N E ad u t) (ts_A N ad)) args s cells slots (ts_A N ad)) (F0 m pc ls []) :=
  W.vret X.hx X.hb hr (fun t ht hW => ⟨⟨σ, rfl, hK, X.at ht hW hP⟩, hS.F ht⟩) hS.2.2 hdg X.hlk
end TSR
