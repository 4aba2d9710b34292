section TSC
variable {p : Program} {l : Launch} {e : Env} {s : State} {m : MethodId} {args : Array Value} {below : List Frame} {meth : Method} {c : Code} {H : Heap} {locs : List Loc} {Q : State → Prop}
variable {cc : ByteArray} {nL : Nat} {own : String} {D : va_G} {tys : List (ClassId × FieldType)} {N : Nat} {E : Nat → (Nat → Int32) → va_E} {ad : Nat → Nat} {σ : ts_S} {pc : Nat} {ls : Array Slot} {rest As st0 : List Value}
variable {y : MethodName} {cy : ByteArray} {ny n n' index na : Nat} {ry : Option FieldType} {host : String}
theorem ts_room (h : n' + 1 ≤ n) (h2 : ny ≤ 21) : (ts_rm n').frames + 1 ≤ (ts_rm n).frames ∧ 8 + (ny + 11) + (ts_rm n').locals ≤ (ts_rm n).locals := by
  refine ⟨h, ?_⟩
  show 8 + (ny + 11) + 40 * n' ≤ 40 * n
  omega
theorem ts_cwB (X : ts_C p s m args meth c cc nL own D tys) (ho : ts_ok y na) (h1 : Cond.methodLink own index y ∈ ts_TB) (h2 : Cond.initialized y.cls ∈ ts_TB) (h3 : Cond.code y cy ny ry ∈ ts_TB) (hR : n' + 1 ≤ n) (hn : ny ≤ 21) : CallB (ts_rm n) s args own index y cy ny ry (Cond.code y cy ny ry :: ts_TB) (ts_rm n') 0 0 na :=
  callB_of na X.hts (ts_goodIn' h3) rfl rfl rfl (X.hts _ h2) (X.hts _ h1) ho (ts_room hR hn)
/-- a call on an object, which answers an int -/
theorem ts_callVi {K : Int32 → ts_S → Prop} (X : ts_C p s m args meth c cc nL own D tys) (hP : va_P D vwCl (ts_w N E ad σ) H) (hS : va_S (ts_A N ad) s.heap H locs) {k ci : Nat} {fs : List Value} {q : vw_C} (hk : k < N) (hE : E k (σ k) = .inr (ci, fs)) (hc : vwCl[ci]? = some q) (hq : q.1 = y.cls)
    (hM : ts_Mi l y (Cond.code y cy ny ry) n' D tys N E ad (.ref (ad k) :: As) σ K) (ho : ts_ok y na) (cw : ts_cV own index y (Cond.code y cy ny ry)) (hR : n' + 1 ≤ n) (hn : ny ≤ 21) (hna : As.length = na) (hsz : ls.size = nL) (hst : st0 = As.reverse ++ .ref (ad k) :: rest) (hw : (rest.map fun v => v.category).sum ≤ 8) (hdg : decode cc pc = .ok (.invokevirtual index, 3))
    (kk : ∀ (r : Int32) (σ : ts_S) (H : Heap) (locs : List Loc), K r σ → va_P D vwCl (ts_w N E ad σ) H → va_S (ts_A N ad) s.heap H locs → W p l e (ts_rm n) s m args below meth c H locs 0 0 Q (F0 m (pc + 3) ls (.int r :: rest))) : W p l e (ts_rm n) s m args below meth c H locs 0 0 Q (F0 m pc ls st0) := by
  subst hst
  refine va_calli (va_runV (As := As) (rest := rest) (C := y.cls) (n := na) (bytes := cy) (maxL := ny) (ret := ry) (Ts := ts_TB) (nL := nL) ⟨X.hx, X.hb, X.hml, X.hown, X.hts⟩ hM ⟨ts_cwB X ho cw.1 cw.2.2.2.1 cw.2.2.2.2 hR hn, X.hts _ cw.2.1, X.hts _ cw.2.2.1⟩ ⟨ts_At.blind, ?_, fun U hU hW => ⟨rfl, X.at hU hW hP⟩⟩ rfl hna hsz rfl (lv_room hw) hdg ⟨Nat.zero_le _, Nat.zero_le _⟩) hS (fun q _ h => h) (fun q h => h) (fun r u t H1 locs1 ht hvm hw hB hz1 hk1 hS1 => ?_)
  · have := va_recv X.hK hP (ci := ci) (q0 := k) (q := q) hc ((ts_w_get hk).trans (by rw [hE]))
    rw [hq] at this
    exact this
  · exact kk r u H1 locs1 hw (by rw [← ht]; exact hB.1) hS1
theorem ts_callVv {K : ts_S → Prop} (X : ts_C p s m args meth c cc nL own D tys) (hP : va_P D vwCl (ts_w N E ad σ) H) (hS : va_S (ts_A N ad) s.heap H locs) {k ci : Nat} {fs : List Value} {q : vw_C} (hk : k < N) (hE : E k (σ k) = .inr (ci, fs)) (hc : vwCl[ci]? = some q) (hq : q.1 = y.cls)
    (hM : ts_Mv l y (Cond.code y cy ny ry) n' D tys N E ad (.ref (ad k) :: As) σ K) (ho : ts_ok y na) (cw : ts_cV own index y (Cond.code y cy ny ry)) (hR : n' + 1 ≤ n) (hn : ny ≤ 21) (hna : As.length = na) (hsz : ls.size = nL) (hst : st0 = As.reverse ++ .ref (ad k) :: rest) (hw : (rest.map fun v => v.category).sum ≤ 8) (hdg : decode cc pc = .ok (.invokevirtual index, 3))
    (kk : ∀ (σ : ts_S) (H : Heap) (locs : List Loc), K σ → va_P D vwCl (ts_w N E ad σ) H → va_S (ts_A N ad) s.heap H locs → W p l e (ts_rm n) s m args below meth c H locs 0 0 Q (F0 m (pc + 3) ls rest)) : W p l e (ts_rm n) s m args below meth c H locs 0 0 Q (F0 m pc ls st0) := by
  subst hst
  refine va_callv (va_runV (As := As) (rest := rest) (C := y.cls) (n := na) (bytes := cy) (maxL := ny) (ret := ry) (Ts := ts_TB) (nL := nL) ⟨X.hx, X.hb, X.hml, X.hown, X.hts⟩ hM ⟨ts_cwB X ho cw.1 cw.2.2.2.1 cw.2.2.2.2 hR hn, X.hts _ cw.2.1, X.hts _ cw.2.2.1⟩ ⟨ts_At.blind, ?_, fun U hU hW => ⟨rfl, X.at hU hW hP⟩⟩ rfl hna hsz rfl (lv_room hw) hdg ⟨Nat.zero_le _, Nat.zero_le _⟩) hS (fun q _ h => h) (fun q h => h) (fun u t H1 locs1 ht hvm hw hB hz1 hk1 hS1 => ?_)
  · have := va_recv X.hK hP (ci := ci) (q0 := k) (q := q) hc ((ts_w_get hk).trans (by rw [hE]))
    rw [hq] at this
    exact this
  · exact kk u H1 locs1 hw (by rw [← ht]; exact hB.1) hS1
/-- a static call in the class itself -/
theorem ts_callSi {K : Int32 → ts_S → Prop} (X : ts_C p s m args meth c cc nL own D tys) (hP : va_P D vwCl (ts_w N E ad σ) H) (hS : va_S (ts_A N ad) s.heap H locs)
    (hM : ts_Mi l y (Cond.code y cy ny ry) n' D tys N E ad As σ K) (ho : ts_ok y na) (cw : ts_cS own index y (Cond.code y cy ny ry)) (hR : n' + 1 ≤ n) (hn : ny ≤ 21) (hna : As.length = na) (hsz : ls.size = nL) (hst : st0 = As.reverse ++ rest) (hw : (rest.map fun v => v.category).sum ≤ 8) (hdg : decode cc pc = .ok (.invokestatic index, 3))
    (kk : ∀ (r : Int32) (σ : ts_S) (H : Heap) (locs : List Loc), K r σ → va_P D vwCl (ts_w N E ad σ) H → va_S (ts_A N ad) s.heap H locs → W p l e (ts_rm n) s m args below meth c H locs 0 0 Q (F0 m (pc + 3) ls (.int r :: rest))) : W p l e (ts_rm n) s m args below meth c H locs 0 0 Q (F0 m pc ls st0) := by
  subst hst
  refine va_calli (va_runS (As := As) (rest := rest) (n := na) (bytes := cy) (maxL := ny) (ret := ry) (Ts := ts_TB) (nL := nL) ⟨X.hx, X.hb, X.hml, X.hown, X.hts⟩ hM ⟨ts_cwB X ho cw.1 cw.2.2.1 cw.2.2.2 hR hn, X.hts _ cw.2.1⟩ ⟨ts_At.blind, fun U hU hW => ⟨rfl, X.at hU hW hP⟩⟩ rfl hna hsz rfl (lv_room hw) hdg ⟨Nat.zero_le _, Nat.zero_le _⟩) hS (fun q _ h => h) (fun q h => h) (fun r u t H1 locs1 ht hvm hw hB hz1 hk1 hS1 => ?_)
  exact kk r u H1 locs1 hw (by rw [← ht]; exact hB.1) hS1
theorem ts_callSv {K : ts_S → Prop} (X : ts_C p s m args meth c cc nL own D tys) (hP : va_P D vwCl (ts_w N E ad σ) H) (hS : va_S (ts_A N ad) s.heap H locs)
    (hM : ts_Mv l y (Cond.code y cy ny ry) n' D tys N E ad As σ K) (ho : ts_ok y na) (cw : ts_cS own index y (Cond.code y cy ny ry)) (hR : n' + 1 ≤ n) (hn : ny ≤ 21) (hna : As.length = na) (hsz : ls.size = nL) (hst : st0 = As.reverse ++ rest) (hw : (rest.map fun v => v.category).sum ≤ 8) (hdg : decode cc pc = .ok (.invokestatic index, 3))
    (kk : ∀ (σ : ts_S) (H : Heap) (locs : List Loc), K σ → va_P D vwCl (ts_w N E ad σ) H → va_S (ts_A N ad) s.heap H locs → W p l e (ts_rm n) s m args below meth c H locs 0 0 Q (F0 m (pc + 3) ls rest)) : W p l e (ts_rm n) s m args below meth c H locs 0 0 Q (F0 m pc ls st0) := by
  subst hst
  refine va_callv (va_runS (As := As) (rest := rest) (n := na) (bytes := cy) (maxL := ny) (ret := ry) (Ts := ts_TB) (nL := nL) ⟨X.hx, X.hb, X.hml, X.hown, X.hts⟩ hM ⟨ts_cwB X ho cw.1 cw.2.2.1 cw.2.2.2 hR hn, X.hts _ cw.2.1⟩ ⟨ts_At.blind, fun U hU hW => ⟨rfl, X.at hU hW hP⟩⟩ rfl hna hsz rfl (lv_room hw) hdg ⟨Nat.zero_le _, Nat.zero_le _⟩) hS (fun q _ h => h) (fun q h => h) (fun u t H1 locs1 ht hvm hw hB hz1 hk1 hS1 => ?_)
  exact kk u H1 locs1 hw (by rw [← ht]; exact hB.1) hS1
/-- a static call of a nest mate's private method -/
theorem ts_callNi {K : Int32 → ts_S → Prop} (X : ts_C p s m args meth c cc nL own D tys) (hP : va_P D vwCl (ts_w N E ad σ) H) (hS : va_S (ts_A N ad) s.heap H locs)
    (hM : ts_Mi l y (Cond.code y cy ny ry) n' D tys N E ad As σ K) (ho : ts_ok y na) (cw : ts_cN own index y host (Cond.code y cy ny ry)) (hR : n' + 1 ≤ n) (hn : ny ≤ 21) (hna : As.length = na) (hsz : ls.size = nL) (hst : st0 = As.reverse ++ rest) (hw : (rest.map fun v => v.category).sum ≤ 8) (hdg : decode cc pc = .ok (.invokestatic index, 3))
    (kk : ∀ (r : Int32) (σ : ts_S) (H : Heap) (locs : List Loc), K r σ → va_P D vwCl (ts_w N E ad σ) H → va_S (ts_A N ad) s.heap H locs → W p l e (ts_rm n) s m args below meth c H locs 0 0 Q (F0 m (pc + 3) ls (.int r :: rest))) : W p l e (ts_rm n) s m args below meth c H locs 0 0 Q (F0 m pc ls st0) := by
  subst hst
  refine va_calli (va_runSN (As := As) (rest := rest) (n := na) (bytes := cy) (maxL := ny) (ret := ry) (host := host) (Ts := ts_TB) (nL := nL) ⟨X.hx, X.hb, X.hml, X.hown, X.hts⟩ hM ⟨va_cnB na X.hts (ts_goodIn' cw.2.2.2) rfl rfl rfl (X.hN _ cw.1) (X.hts _ cw.2.2.1) ho (ts_room hR hn), X.hts _ cw.2.1, trivial⟩ ⟨ts_At.blind, fun U hU hW => ⟨rfl, X.at hU hW hP⟩⟩ rfl hna hsz rfl (lv_room hw) hdg ⟨Nat.zero_le _, Nat.zero_le _⟩) hS (fun q _ h => h) (fun q h => h) (fun r u t H1 locs1 ht hvm hw hB hz1 hk1 hS1 => ?_)
  exact kk r u H1 locs1 hw (by rw [← ht]; exact hB.1) hS1
/-- a contract by its walk -/
theorem ts_Mi.of {av : List Value} {K : Int32 → ts_S → Prop} (hy : plainName y.cls = true) (hlen : (lg_sl av).length ≤ ny)
    (body : ∀ (p : Program) (e : Env) (s : State) (m : MethodId) (below : List Frame) (meth : Method) (c : Code) (ls : Array Slot), ts_C p s m av.toArray meth c cy ny y.cls D tys → meth.sig.returnType = ry → va_P D vwCl (ts_w N E ad σ) s.heap → va_S (ts_A N ad) s.heap s.heap [] → lv_has ls ny (lv_args 0 av) →
      W p l e (ts_rm n) s m av.toArray below meth c s.heap [] 0 0 (MQ below (va_Qi K (fun u t => ts_At D tys N E ad u t) (ts_A N ad)) av.toArray s 0 0 (ts_A N ad)) (F0 m 0 ls [])) : ts_Mi l y (Cond.code y cy ny ry) n D tys N E ad av σ K := by
  refine Met.ofW (cc := cy) (maxL := ny) (ret := ry) hy rfl ?_
  intro p e s m args below meth c s₁ B hml hv
  obtain ⟨rfl, hP, hK, hN⟩ := hv
  rw [lg_entry_eq]
  exact body p e s m below meth c _ ⟨B.exec, B.bytes, hml, findClass_of_methodNamed B.named, fun w hw => atoms_spec (ws := Cond.code y cy ny ry :: ts_TB) B.pre w (List.mem_cons_of_mem _ hw), hK, hN, B.notSynchronized⟩ B.returns hP va_S.rf (lv_entry av hlen)
theorem ts_Mv.of {av : List Value} {K : ts_S → Prop} (hy : plainName y.cls = true) (hlen : (lg_sl av).length ≤ ny)
    (body : ∀ (p : Program) (e : Env) (s : State) (m : MethodId) (below : List Frame) (meth : Method) (c : Code) (ls : Array Slot), ts_C p s m av.toArray meth c cy ny y.cls D tys → meth.sig.returnType = ry → va_P D vwCl (ts_w N E ad σ) s.heap → va_S (ts_A N ad) s.heap s.heap [] → lv_has ls ny (lv_args 0 av) →
      W p l e (ts_rm n) s m av.toArray below meth c s.heap [] 0 0 (MQ below (va_Qv K (fun u t => ts_At D tys N E ad u t) (ts_A N ad)) av.toArray s 0 0 (ts_A N ad)) (F0 m 0 ls [])) : ts_Mv l y (Cond.code y cy ny ry) n D tys N E ad av σ K := by
  refine Met.ofW (cc := cy) (maxL := ny) (ret := ry) hy rfl ?_
  intro p e s m args below meth c s₁ B hml hv
  obtain ⟨rfl, hP, hK, hN⟩ := hv
  rw [lg_entry_eq]
  exact body p e s m below meth c _ ⟨B.exec, B.bytes, hml, findClass_of_methodNamed B.named, fun w hw => atoms_spec (ws := Cond.code y cy ny ry :: ts_TB) B.pre w (List.mem_cons_of_mem _ hw), hK, hN, B.notSynchronized⟩ B.returns hP va_S.rf (lv_entry av hlen)
end TSC
