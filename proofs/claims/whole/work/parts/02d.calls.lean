section TSC
variable {g : ts_Ctx} {w : ts_Wd} {cc : ByteArray} {nL : Nat} {own : String} {σ : ts_S} {pc : Nat} {lv lv' : List (Nat × Value)} {st st0 As : List Value}
variable {y : MethodName} {cy : ByteArray} {ny n' index na : Nat} {ry : Option FieldType}
theorem ts_room {n : Nat} (h : n' + 1 ≤ n) (h2 : ny ≤ 21) : (ts_rm n').frames + 1 ≤ (ts_rm n).frames ∧ 8 + (ny + 11) + (ts_rm n').locals ≤ (ts_rm n).locals := by
  refine ⟨h, ?_⟩
  show 8 + (ny + 11) + 40 * n' ≤ 40 * n
  omega
theorem ts_cwB (X : ts_X g w cc nL own) (ho : ts_ok y na) (h1 : Cond.methodLink own index y ∈ ts_TB) (h2 : Cond.initialized y.cls ∈ ts_TB) (h3 : Cond.code y cy ny ry ∈ ts_TB) (hR : n' + 1 ≤ g.2.2.2.1) (hn : ny ≤ 21) : CallB (ts_rm g.2.2.2.1) g.2.2.2.2.1 g.2.2.2.2.2.2.1 own index y cy ny ry (Cond.code y cy ny ry :: ts_TB) (ts_rm n') 0 0 na :=
  callB_of na X.hts (ts_goodIn' h3) rfl rfl rfl (X.hts _ h2) (X.hts _ h1) ho (ts_room hR hn)
theorem ts_callVi {K : Int32 → ts_S → Prop} {k ci : Nat} {fs : List Value} {q : vw_C} (X : ts_X g w cc nL own) (hk : k < w.2.2.1) (hE : w.2.2.2.1 k (σ k) = .inr (ci, fs)) (hc : vwCl[ci]? = some q) (hq : q.1 = y.cls) (hM : ts_Mi g.2.1 y (Cond.code y cy ny ry) n' w (.ref (w.2.2.2.2 k) :: As) σ K) (ho : ts_ok y na) (cw : ts_cV own index y (Cond.code y cy ny ry)) (hR : n' + 1 ≤ g.2.2.2.1) (hn : ny ≤ 21) (hna : As.length = na) (hst : st0 = As.reverse ++ .ref (w.2.2.2.2 k) :: st) (hw : (st.map fun v => v.category).sum ≤ 8) (d : decode cc pc = .ok (.invokevirtual index, 3))
    (kk : ∀ (r : Int32) (σ : ts_S), K r σ → ts_G g w nL σ (pc + 3) lv (.int r :: st)) : ts_G g w nL σ pc lv st0 := by
  intro H locs ls hP hS hl
  subst hst
  have hrc := va_recv X.hK hP (ci := ci) (q0 := k) (q := q) hc ((ts_w_get hk).trans (by rw [hE]))
  rw [hq] at hrc
  refine va_calli (va_runV (As := As) (rest := st) (C := y.cls) (n := na) (bytes := cy) (maxL := ny) (ret := ry) (Ts := ts_TB) (nL := nL) ⟨X.hx, X.hb, X.hml, X.hown, X.hts⟩ hM ⟨ts_cwB X ho cw.1 cw.2.2.2.1 cw.2.2.2.2 hR hn, X.hts _ cw.2.1, X.hts _ cw.2.2.1⟩ ⟨ts_At.blind, hrc, fun U hU hW => ⟨rfl, X.at hU hW hP⟩⟩ rfl hna hl.1 rfl (lv_room hw) d ⟨Nat.zero_le _, Nat.zero_le _⟩) hS (fun q _ h => h) (fun q h => h) (fun r u t H1 locs1 ht hvm hw hB hz1 hk1 hS1 => ?_)
  exact kk r u hw H1 locs1 ls (by rw [← ht]; exact hB.1) hS1 hl
theorem ts_callVv {K : ts_S → Prop} {k ci : Nat} {fs : List Value} {q : vw_C} (X : ts_X g w cc nL own) (hk : k < w.2.2.1) (hE : w.2.2.2.1 k (σ k) = .inr (ci, fs)) (hc : vwCl[ci]? = some q) (hq : q.1 = y.cls) (hM : ts_Mv g.2.1 y (Cond.code y cy ny ry) n' w (.ref (w.2.2.2.2 k) :: As) σ K) (ho : ts_ok y na) (cw : ts_cV own index y (Cond.code y cy ny ry)) (hR : n' + 1 ≤ g.2.2.2.1) (hn : ny ≤ 21) (hna : As.length = na) (hst : st0 = As.reverse ++ .ref (w.2.2.2.2 k) :: st) (hw : (st.map fun v => v.category).sum ≤ 8) (d : decode cc pc = .ok (.invokevirtual index, 3))
    (kk : ∀ (σ : ts_S), K σ → ts_G g w nL σ (pc + 3) lv st) : ts_G g w nL σ pc lv st0 := by
  intro H locs ls hP hS hl
  subst hst
  have hrc := va_recv X.hK hP (ci := ci) (q0 := k) (q := q) hc ((ts_w_get hk).trans (by rw [hE]))
  rw [hq] at hrc
  refine va_callv (va_runV (As := As) (rest := st) (C := y.cls) (n := na) (bytes := cy) (maxL := ny) (ret := ry) (Ts := ts_TB) (nL := nL) ⟨X.hx, X.hb, X.hml, X.hown, X.hts⟩ hM ⟨ts_cwB X ho cw.1 cw.2.2.2.1 cw.2.2.2.2 hR hn, X.hts _ cw.2.1, X.hts _ cw.2.2.1⟩ ⟨ts_At.blind, hrc, fun U hU hW => ⟨rfl, X.at hU hW hP⟩⟩ rfl hna hl.1 rfl (lv_room hw) d ⟨Nat.zero_le _, Nat.zero_le _⟩) hS (fun q _ h => h) (fun q h => h) (fun u t H1 locs1 ht hvm hw hB hz1 hk1 hS1 => ?_)
  exact kk u hw H1 locs1 ls (by rw [← ht]; exact hB.1) hS1 hl
theorem ts_callSi {K : Int32 → ts_S → Prop} (X : ts_X g w cc nL own) (hM : ts_Mi g.2.1 y (Cond.code y cy ny ry) n' w As σ K) (ho : ts_ok y na) (cw : ts_cS own index y (Cond.code y cy ny ry)) (hR : n' + 1 ≤ g.2.2.2.1) (hn : ny ≤ 21) (hna : As.length = na) (hst : st0 = As.reverse ++ st) (hw : (st.map fun v => v.category).sum ≤ 8) (d : decode cc pc = .ok (.invokestatic index, 3))
    (kk : ∀ (r : Int32) (σ : ts_S), K r σ → ts_G g w nL σ (pc + 3) lv (.int r :: st)) : ts_G g w nL σ pc lv st0 := by
  intro H locs ls hP hS hl
  subst hst
  refine va_calli (va_runS (As := As) (rest := st) (n := na) (bytes := cy) (maxL := ny) (ret := ry) (Ts := ts_TB) (nL := nL) ⟨X.hx, X.hb, X.hml, X.hown, X.hts⟩ hM ⟨ts_cwB X ho cw.1 cw.2.2.1 cw.2.2.2 hR hn, X.hts _ cw.2.1⟩ ⟨ts_At.blind, fun U hU hW => ⟨rfl, X.at hU hW hP⟩⟩ rfl hna hl.1 rfl (lv_room hw) d ⟨Nat.zero_le _, Nat.zero_le _⟩) hS (fun q _ h => h) (fun q h => h) (fun r u t H1 locs1 ht hvm hw hB hz1 hk1 hS1 => ?_)
  exact kk r u hw H1 locs1 ls (by rw [← ht]; exact hB.1) hS1 hl
theorem ts_callSv {K : ts_S → Prop} (X : ts_X g w cc nL own) (hM : ts_Mv g.2.1 y (Cond.code y cy ny ry) n' w As σ K) (ho : ts_ok y na) (cw : ts_cS own index y (Cond.code y cy ny ry)) (hR : n' + 1 ≤ g.2.2.2.1) (hn : ny ≤ 21) (hna : As.length = na) (hst : st0 = As.reverse ++ st) (hw : (st.map fun v => v.category).sum ≤ 8) (d : decode cc pc = .ok (.invokestatic index, 3))
    (kk : ∀ (σ : ts_S), K σ → ts_G g w nL σ (pc + 3) lv st) : ts_G g w nL σ pc lv st0 := by
  intro H locs ls hP hS hl
  subst hst
  refine va_callv (va_runS (As := As) (rest := st) (n := na) (bytes := cy) (maxL := ny) (ret := ry) (Ts := ts_TB) (nL := nL) ⟨X.hx, X.hb, X.hml, X.hown, X.hts⟩ hM ⟨ts_cwB X ho cw.1 cw.2.2.1 cw.2.2.2 hR hn, X.hts _ cw.2.1⟩ ⟨ts_At.blind, fun U hU hW => ⟨rfl, X.at hU hW hP⟩⟩ rfl hna hl.1 rfl (lv_room hw) d ⟨Nat.zero_le _, Nat.zero_le _⟩) hS (fun q _ h => h) (fun q h => h) (fun u t H1 locs1 ht hvm hw hB hz1 hk1 hS1 => ?_)
  exact kk u hw H1 locs1 ls (by rw [← ht]; exact hB.1) hS1 hl
theorem ts_callNi {K : Int32 → ts_S → Prop} (X : ts_X g w cc nL own) (hM : ts_Mi g.2.1 y (Cond.code y cy ny ry) n' w As σ K) (ho : ts_ok y na) (cw : ts_cN own index y (Cond.code y cy ny ry)) (hR : n' + 1 ≤ g.2.2.2.1) (hn : ny ≤ 21) (hna : As.length = na) (hst : st0 = As.reverse ++ st) (hw : (st.map fun v => v.category).sum ≤ 8) (d : decode cc pc = .ok (.invokestatic index, 3))
    (kk : ∀ (r : Int32) (σ : ts_S), K r σ → ts_G g w nL σ (pc + 3) lv (.int r :: st)) : ts_G g w nL σ pc lv st0 := by
  intro H locs ls hP hS hl
  subst hst
  obtain ⟨⟨host, cw0⟩, cw1⟩ := cw
  refine va_calli (va_runSN (As := As) (rest := st) (n := na) (bytes := cy) (maxL := ny) (ret := ry) (host := host) (Ts := ts_TB) (nL := nL) ⟨X.hx, X.hb, X.hml, X.hown, X.hts⟩ hM ⟨va_cnB na X.hts (ts_goodIn' cw1.2.2) rfl rfl rfl (X.hN _ cw0) (X.hts _ cw1.2.1) ho (ts_room hR hn), X.hts _ cw1.1, trivial⟩ ⟨ts_At.blind, fun U hU hW => ⟨rfl, X.at hU hW hP⟩⟩ rfl hna hl.1 rfl (lv_room hw) d ⟨Nat.zero_le _, Nat.zero_le _⟩) hS (fun q _ h => h) (fun q h => h) (fun r u t H1 locs1 ht hvm hw hB hz1 hk1 hS1 => ?_)
  exact kk r u hw H1 locs1 ls (by rw [← ht]; exact hB.1) hS1 hl
theorem ts_mmax {x y : Int32} (X : ts_X g w cc nL own) (hl : Cond.methodLink own index Lib.Math.max.name ∈ ts_TB) (h2 : Cond.static Lib.Math.max.name ∈ ts_TB) (h3 : Cond.initialized "java/lang/Math" ∈ ts_TB) (h4 : Cond.code Lib.Math.max.name Lib.Math.max.code 2 (some .int) ∈ ts_TB) (hR : 1 ≤ g.2.2.2.1) (hw : (st.map fun v => v.category).sum ≤ 8) (d : decode cc pc = .ok (.invokestatic index, 3)) (k : ts_G g w nL σ (pc + 3) lv (.int (if x < y then y else x) :: st)) : ts_G g w nL σ pc lv (.int y :: .int x :: st) := by
  intro H locs ls hP hS hl0
  refine va_mmax X.hx X.hb (X.hml.trans hl0.1.symm) X.hown (X.hts _ hl) (X.hts _ h2) (X.hts _ h3) (X.hts _ h4) hR ?_ (Nat.zero_le _) (Nat.zero_le _) d (k H locs ls hP hS hl0)
  show _ ≤ 40 * g.2.2.2.1
  omega
theorem ts_mmin {x y : Int32} (X : ts_X g w cc nL own) (hl : Cond.methodLink own index Lib.Math.min.name ∈ ts_TB) (h2 : Cond.static Lib.Math.min.name ∈ ts_TB) (h3 : Cond.initialized "java/lang/Math" ∈ ts_TB) (h4 : Cond.code Lib.Math.min.name Lib.Math.min.code 2 (some .int) ∈ ts_TB) (hR : 1 ≤ g.2.2.2.1) (hw : (st.map fun v => v.category).sum ≤ 8) (d : decode cc pc = .ok (.invokestatic index, 3)) (k : ts_G g w nL σ (pc + 3) lv (.int (if y < x then y else x) :: st)) : ts_G g w nL σ pc lv (.int y :: .int x :: st) := by
  intro H locs ls hP hS hl0
  refine va_mmin X.hx X.hb (X.hml.trans hl0.1.symm) X.hown (X.hts _ hl) (X.hts _ h2) (X.hts _ h3) (X.hts _ h4) hR ?_ (Nat.zero_le _) (Nat.zero_le _) d (k H locs ls hP hS hl0)
  show _ ≤ 40 * g.2.2.2.1
  omega
theorem ts_mabs {x : Int32} (X : ts_X g w cc nL own) (hl : Cond.methodLink own index Lib.Math.abs.name ∈ ts_TB) (h2 : Cond.static Lib.Math.abs.name ∈ ts_TB) (h3 : Cond.initialized "java/lang/Math" ∈ ts_TB) (h4 : Cond.code Lib.Math.abs.name Lib.Math.abs.code 1 (some .int) ∈ ts_TB) (hR : 1 ≤ g.2.2.2.1) (hw : (st.map fun v => v.category).sum ≤ 8) (d : decode cc pc = .ok (.invokestatic index, 3)) (k : ts_G g w nL σ (pc + 3) lv (.int (if 0 ≤ x then x else 0 - x) :: st)) : ts_G g w nL σ pc lv (.int x :: st) := by
  intro H locs ls hP hS hl0
  refine va_mabs X.hx X.hb (X.hml.trans hl0.1.symm) X.hown (X.hts _ hl) (X.hts _ h2) (X.hts _ h3) (X.hts _ h4) hR ?_ (Nat.zero_le _) (Nat.zero_le _) d (k H locs ls hP hS hl0)
  show _ ≤ 40 * g.2.2.2.1
  omega
theorem ts_copy {k0 k1 n0 n1 : Nat} {c0 c1 : ClassId} {ty : FieldType} {sp dp n : Int32} (X : ts_X g w cc nL own) (hl : Cond.methodLink own index arraycopyName ∈ ts_TB) (hnat : Cond.native arraycopyName ∈ ts_TB) (hstat : Cond.static arraycopyName ∈ ts_TB) (hini : Cond.initialized "java/lang/System" ∈ ts_TB) (hk0 : k0 < w.2.2.1) (hk1 : k1 < w.2.2.1) (hE0 : ∀ f, w.2.2.2.1 k0 f = .inl (c0, n0, .inl f)) (hE1 : ∀ f, w.2.2.2.1 k1 f = .inl (c1, n1, .inl f)) (t0 t1 : Nat) (ht0 : w.2.1[t0]? = some (c0, ty)) (ht1 : w.2.1[t1]? = some (c1, ty)) (hprim : refKind ty = false)
    (h1 : ¬ sp < 0) (h2 : ¬ dp < 0) (h3 : ¬ n < 0) (h4 : sp.toNatClampNeg + n.toNatClampNeg ≤ n0) (h5 : dp.toNatClampNeg + n.toNatClampNeg ≤ n1) (hfit : ∀ i, i < n.toNatClampNeg → fits ty (.int (σ k0 (sp.toNatClampNeg + i))) = true) (hR : 1 ≤ g.2.2.2.1) (hw : (st.map fun v => v.category).sum ≤ 8) (d : decode cc pc = .ok (.invokestatic index, 3))
    (kk : ∀ σ1 : ts_S, σ1 = va_up σ k1 (va_cpy (σ k0) (σ k1) sp.toNatClampNeg dp.toNatClampNeg n.toNatClampNeg) → ts_G g w nL σ1 (pc + 3) lv st) : ts_G g w nL σ pc lv (.int n :: .int dp :: .ref (w.2.2.2.2 k1) :: .int sp :: .ref (w.2.2.2.2 k0) :: st) := by
  intro H locs ls hP hS hl0
  refine va_copyi X.hx X.hb (X.hml.trans hl0.1.symm) X.hown (X.hts _ hl) (X.hts _ hnat) (X.hts _ hstat) (X.hts _ hini) X.hK hP (ts_D X.hi) hS k0 k1 t0 t1 ((ts_w_get hk0).trans (by rw [hE0])) ((ts_w_get hk1).trans (by rw [hE1])) ht0 ht1 hprim h1 h2 h3 h4 h5 hfit hR ?_ d (fun H1 locs1 hP1 hD1 hS1 => ?_)
  · have : nativeFrameWords "java/lang/System" "arraycopy" 5 ≤ 20 := by decide
    show _ ≤ 40 * g.2.2.2.1
    omega
  · rw [← hE1, ts_wd, ts_w_set] at hP1
    exact kk _ rfl H1 locs1 ls hP1 hS1 hl0
theorem ts_Mi.of_i {l : Launch} {n : Nat} {av : List Value} {K : Int32 → ts_S → Prop} (hi : ts_inj w.2.2.1 w.2.2.2.2) (hy : plainName y.cls = true) (hlen : (lg_sl av).length ≤ ny) (body : ∀ g : ts_Ctx, g.2.1 = l → g.2.2.2.1 = n → ts_X g w cy ny y.cls → (∀ (σ : ts_S) (pc : Nat) (lv : List (Nat × Value)) (v : Int32), K v σ → decode cy pc = .ok (.ireturn, 1) → ts_G g w ny σ pc lv [.int v]) → ts_G g w ny σ 0 (lv_args 0 av) []) : ts_Mi l y (Cond.code y cy ny (some .int)) n w av σ K := by
  refine Met.ofW (cc := cy) (maxL := ny) (ret := some .int) hy rfl ?_
  intro p e s m args below meth c s₁ B hml hv
  obtain ⟨rfl, hP, hK, hN⟩ := hv
  rw [lg_entry_eq]
  have hr := B.returns
  have hlk := B.notSynchronized
  have X : ts_X (p, l, e, n, s, m, av.toArray, below, meth, c, MQ below (va_Qi K (fun u t => ts_At w u t) (ts_wA w)) av.toArray s 0 0 (ts_wA w)) w cy ny y.cls := ⟨B.exec, B.bytes, hml, findClass_of_methodNamed B.named, fun q hq => atoms_spec (ws := Cond.code y cy ny (some .int) :: ts_TB) B.pre q (List.mem_cons_of_mem _ hq), hK, hN, hi⟩
  refine body (p, l, e, n, s, m, av.toArray, below, meth, c, MQ below (va_Qi K (fun u t => ts_At w u t) (ts_wA w)) av.toArray s 0 0 (ts_wA w)) rfl rfl X ?_ _ [] _ hP va_S.rf (lv_entry av hlen)
  intro σ pc lv v hK d H locs ls hP hS hl
  exact W.iret X.hx X.hb hr (fun t ht hW => ⟨⟨v, σ, rfl, hK, X.at ht hW hP⟩, hS.F ht⟩) hS.2.2 d hlk
theorem ts_Mi.of_z {l : Launch} {n : Nat} {av : List Value} {K : Int32 → ts_S → Prop} (hi : ts_inj w.2.2.1 w.2.2.2.2) (hy : plainName y.cls = true) (hlen : (lg_sl av).length ≤ ny) (body : ∀ g : ts_Ctx, g.2.1 = l → g.2.2.2.1 = n → ts_X g w cy ny y.cls → (∀ (σ : ts_S) (pc : Nat) (lv : List (Nat × Value)) (v : Int32), ts_zb v ∧ K v σ → decode cy pc = .ok (.ireturn, 1) → ts_G g w ny σ pc lv [.int v]) → ts_G g w ny σ 0 (lv_args 0 av) []) : ts_Mi l y (Cond.code y cy ny (some .boolean)) n w av σ K := by
  refine Met.ofW (cc := cy) (maxL := ny) (ret := some .boolean) hy rfl ?_
  intro p e s m args below meth c s₁ B hml hv
  obtain ⟨rfl, hP, hK, hN⟩ := hv
  rw [lg_entry_eq]
  have hr := B.returns
  have hlk := B.notSynchronized
  have X : ts_X (p, l, e, n, s, m, av.toArray, below, meth, c, MQ below (va_Qi K (fun u t => ts_At w u t) (ts_wA w)) av.toArray s 0 0 (ts_wA w)) w cy ny y.cls := ⟨B.exec, B.bytes, hml, findClass_of_methodNamed B.named, fun q hq => atoms_spec (ws := Cond.code y cy ny (some .boolean) :: ts_TB) B.pre q (List.mem_cons_of_mem _ hq), hK, hN, hi⟩
  refine body (p, l, e, n, s, m, av.toArray, below, meth, c, MQ below (va_Qi K (fun u t => ts_At w u t) (ts_wA w)) av.toArray s 0 0 (ts_wA w)) rfl rfl X ?_ _ [] _ hP va_S.rf (lv_entry av hlen)
  intro σ pc lv v hK d H locs ls hP hS hl
  exact W.zret X.hx X.hb hr hK.1 (fun t ht hW => ⟨⟨v, σ, rfl, hK.2, X.at ht hW hP⟩, hS.F ht⟩) hS.2.2 d hlk
theorem ts_Mv.of_v {l : Launch} {n : Nat} {av : List Value} {K : ts_S → Prop} (hi : ts_inj w.2.2.1 w.2.2.2.2) (hy : plainName y.cls = true) (hlen : (lg_sl av).length ≤ ny) (body : ∀ g : ts_Ctx, g.2.1 = l → g.2.2.2.1 = n → ts_X g w cy ny y.cls → (∀ (σ : ts_S) (pc : Nat) (lv : List (Nat × Value)), K σ → decode cy pc = .ok (.return_, 1) → ts_G g w ny σ pc lv []) → ts_G g w ny σ 0 (lv_args 0 av) []) : ts_Mv l y (Cond.code y cy ny (none)) n w av σ K := by
  refine Met.ofW (cc := cy) (maxL := ny) (ret := none) hy rfl ?_
  intro p e s m args below meth c s₁ B hml hv
  obtain ⟨rfl, hP, hK, hN⟩ := hv
  rw [lg_entry_eq]
  have hr := B.returns
  have hlk := B.notSynchronized
  have X : ts_X (p, l, e, n, s, m, av.toArray, below, meth, c, MQ below (va_Qv K (fun u t => ts_At w u t) (ts_wA w)) av.toArray s 0 0 (ts_wA w)) w cy ny y.cls := ⟨B.exec, B.bytes, hml, findClass_of_methodNamed B.named, fun q hq => atoms_spec (ws := Cond.code y cy ny (none) :: ts_TB) B.pre q (List.mem_cons_of_mem _ hq), hK, hN, hi⟩
  refine body (p, l, e, n, s, m, av.toArray, below, meth, c, MQ below (va_Qv K (fun u t => ts_At w u t) (ts_wA w)) av.toArray s 0 0 (ts_wA w)) rfl rfl X ?_ _ [] _ hP va_S.rf (lv_entry av hlen)
  intro σ pc lv hK d H locs ls hP hS hl
  exact W.vret X.hx X.hb hr (fun t ht hW => ⟨⟨σ, rfl, hK, X.at ht hW hP⟩, hS.F ht⟩) hS.2.2 d hlk
end TSC
